theorem dX11_init_0 : decode cX11_init 0 = .ok (.aload_n 0, 1) := by decide +kernel
theorem dX11_init_1 : decode cX11_init 1 = .ok (.invokespecial 1, 3) := by decide +kernel
theorem dX11_init_4 : decode cX11_init 4 = .ok (.aload_n 0, 1) := by decide +kernel
theorem dX11_init_5 : decode cX11_init 5 = .ok (.bipush 8, 2) := by decide +kernel
theorem dX11_init_7 : decode cX11_init 7 = .ok (.newarray .int, 2) := by decide +kernel
theorem dX11_init_9 : decode cX11_init 9 = .ok (.putfield 7, 3) := by decide +kernel
theorem dX11_init_12 : decode cX11_init 12 = .ok (.aload_n 0, 1) := by decide +kernel
theorem dX11_init_13 : decode cX11_init 13 = .ok (.bipush 8, 2) := by decide +kernel
theorem dX11_init_15 : decode cX11_init 15 = .ok (.newarray .int, 2) := by decide +kernel
theorem dX11_init_17 : decode cX11_init 17 = .ok (.putfield 13, 3) := by decide +kernel
theorem dX11_init_20 : decode cX11_init 20 = .ok (.aload_n 0, 1) := by decide +kernel
theorem dX11_init_21 : decode cX11_init 21 = .ok (.bipush 8, 2) := by decide +kernel
theorem dX11_init_23 : decode cX11_init 23 = .ok (.newarray .int, 2) := by decide +kernel
theorem dX11_init_25 : decode cX11_init 25 = .ok (.putfield 16, 3) := by decide +kernel
theorem dX11_init_28 : decode cX11_init 28 = .ok (.aload_n 0, 1) := by decide +kernel
theorem dX11_init_29 : decode cX11_init 29 = .ok (.bipush 8, 2) := by decide +kernel
theorem dX11_init_31 : decode cX11_init 31 = .ok (.newarray .int, 2) := by decide +kernel
theorem dX11_init_33 : decode cX11_init 33 = .ok (.putfield 19, 3) := by decide +kernel
theorem dX11_init_36 : decode cX11_init 36 = .ok (.aload_n 0, 1) := by decide +kernel
theorem dX11_init_37 : decode cX11_init 37 = .ok (.bipush 8, 2) := by decide +kernel
theorem dX11_init_39 : decode cX11_init 39 = .ok (.newarray .int, 2) := by decide +kernel
theorem dX11_init_41 : decode cX11_init 41 = .ok (.putfield 22, 3) := by decide +kernel
theorem dX11_init_44 : decode cX11_init 44 = .ok (.aload_n 0, 1) := by decide +kernel
theorem dX11_init_45 : decode cX11_init 45 = .ok (.bipush 8, 2) := by decide +kernel
theorem dX11_init_47 : decode cX11_init 47 = .ok (.newarray .int, 2) := by decide +kernel
theorem dX11_init_49 : decode cX11_init 49 = .ok (.putfield 25, 3) := by decide +kernel
theorem dX11_init_52 : decode cX11_init 52 = .ok (.aload_n 0, 1) := by decide +kernel
theorem dX11_init_53 : decode cX11_init 53 = .ok (.bipush 8, 2) := by decide +kernel
theorem dX11_init_55 : decode cX11_init 55 = .ok (.newarray .int, 2) := by decide +kernel
theorem dX11_init_57 : decode cX11_init 57 = .ok (.putfield 28, 3) := by decide +kernel
theorem dX11_init_60 : decode cX11_init 60 = .ok (.aload_n 0, 1) := by decide +kernel
theorem dX11_init_61 : decode cX11_init 61 = .ok (.bipush 8, 2) := by decide +kernel
theorem dX11_init_63 : decode cX11_init 63 = .ok (.newarray .int, 2) := by decide +kernel
theorem dX11_init_65 : decode cX11_init 65 = .ok (.putfield 31, 3) := by decide +kernel
theorem dX11_init_68 : decode cX11_init 68 = .ok (.aload_n 0, 1) := by decide +kernel
theorem dX11_init_69 : decode cX11_init 69 = .ok (.bipush 8, 2) := by decide +kernel
theorem dX11_init_71 : decode cX11_init 71 = .ok (.newarray .int, 2) := by decide +kernel
theorem dX11_init_73 : decode cX11_init 73 = .ok (.putfield 34, 3) := by decide +kernel
theorem dX11_init_76 : decode cX11_init 76 = .ok (.aload_n 0, 1) := by decide +kernel
theorem dX11_init_77 : decode cX11_init 77 = .ok (.bipush 8, 2) := by decide +kernel
theorem dX11_init_79 : decode cX11_init 79 = .ok (.newarray .int, 2) := by decide +kernel
theorem dX11_init_81 : decode cX11_init 81 = .ok (.putfield 37, 3) := by decide +kernel
theorem dX11_init_84 : decode cX11_init 84 = .ok (.aload_n 0, 1) := by decide +kernel
theorem dX11_init_85 : decode cX11_init 85 = .ok (.bipush 8, 2) := by decide +kernel
theorem dX11_init_87 : decode cX11_init 87 = .ok (.newarray .long, 2) := by decide +kernel
theorem dX11_init_89 : decode cX11_init 89 = .ok (.putfield 40, 3) := by decide +kernel
theorem dX11_init_92 : decode cX11_init 92 = .ok (.aload_n 0, 1) := by decide +kernel
theorem dX11_init_93 : decode cX11_init 93 = .ok (.bipush 64, 2) := by decide +kernel
theorem dX11_init_95 : decode cX11_init 95 = .ok (.newarray .long, 2) := by decide +kernel
theorem dX11_init_97 : decode cX11_init 97 = .ok (.putfield 44, 3) := by decide +kernel
theorem dX11_init_100 : decode cX11_init 100 = .ok (.aload_n 0, 1) := by decide +kernel
theorem dX11_init_101 : decode cX11_init 101 = .ok (.bipush 56, 2) := by decide +kernel
theorem dX11_init_103 : decode cX11_init 103 = .ok (.newarray .long, 2) := by decide +kernel
theorem dX11_init_105 : decode cX11_init 105 = .ok (.putfield 47, 3) := by decide +kernel
theorem dX11_init_108 : decode cX11_init 108 = .ok (.aload_n 0, 1) := by decide +kernel
theorem dX11_init_109 : decode cX11_init 109 = .ok (.bipush 32, 2) := by decide +kernel
theorem dX11_init_111 : decode cX11_init 111 = .ok (.newarray .long, 2) := by decide +kernel
theorem dX11_init_113 : decode cX11_init 113 = .ok (.putfield 50, 3) := by decide +kernel
theorem dX11_init_116 : decode cX11_init 116 = .ok (.aload_n 0, 1) := by decide +kernel
theorem dX11_init_117 : decode cX11_init 117 = .ok (.bipush 8, 2) := by decide +kernel
theorem dX11_init_119 : decode cX11_init 119 = .ok (.newarray .long, 2) := by decide +kernel
theorem dX11_init_121 : decode cX11_init 121 = .ok (.putfield 53, 3) := by decide +kernel
theorem dX11_init_124 : decode cX11_init 124 = .ok (.aload_n 0, 1) := by decide +kernel
theorem dX11_init_125 : decode cX11_init 125 = .ok (.bipush 8, 2) := by decide +kernel
theorem dX11_init_127 : decode cX11_init 127 = .ok (.newarray .long, 2) := by decide +kernel
theorem dX11_init_129 : decode cX11_init 129 = .ok (.putfield 56, 3) := by decide +kernel
theorem dX11_init_132 : decode cX11_init 132 = .ok (.aload_n 0, 1) := by decide +kernel
theorem dX11_init_133 : decode cX11_init 133 = .ok (.bipush 8, 2) := by decide +kernel
theorem dX11_init_135 : decode cX11_init 135 = .ok (.newarray .long, 2) := by decide +kernel
theorem dX11_init_137 : decode cX11_init 137 = .ok (.putfield 59, 3) := by decide +kernel
theorem dX11_init_140 : decode cX11_init 140 = .ok (.aload_n 0, 1) := by decide +kernel
theorem dX11_init_141 : decode cX11_init 141 = .ok (.bipush 8, 2) := by decide +kernel
theorem dX11_init_143 : decode cX11_init 143 = .ok (.newarray .long, 2) := by decide +kernel
theorem dX11_init_145 : decode cX11_init 145 = .ok (.putfield 62, 3) := by decide +kernel
theorem dX11_init_148 : decode cX11_init 148 = .ok (.aload_n 0, 1) := by decide +kernel
theorem dX11_init_149 : decode cX11_init 149 = .ok (.sipush 320, 3) := by decide +kernel
theorem dX11_init_152 : decode cX11_init 152 = .ok (.newarray .long, 2) := by decide +kernel
theorem dX11_init_154 : decode cX11_init 154 = .ok (.putfield 65, 3) := by decide +kernel
theorem dX11_init_157 : decode cX11_init 157 = .ok (.aload_n 0, 1) := by decide +kernel
theorem dX11_init_158 : decode cX11_init 158 = .ok (.sipush 320, 3) := by decide +kernel
theorem dX11_init_161 : decode cX11_init 161 = .ok (.newarray .long, 2) := by decide +kernel
theorem dX11_init_163 : decode cX11_init 163 = .ok (.putfield 68, 3) := by decide +kernel
theorem dX11_init_166 : decode cX11_init 166 = .ok (.aload_n 0, 1) := by decide +kernel
theorem dX11_init_167 : decode cX11_init 167 = .ok (.bipush 8, 2) := by decide +kernel
theorem dX11_init_169 : decode cX11_init 169 = .ok (.newarray .long, 2) := by decide +kernel
theorem dX11_init_171 : decode cX11_init 171 = .ok (.putfield 71, 3) := by decide +kernel
theorem dX11_init_174 : decode cX11_init 174 = .ok (.aload_n 0, 1) := by decide +kernel
theorem dX11_init_175 : decode cX11_init 175 = .ok (.bipush 8, 2) := by decide +kernel
theorem dX11_init_177 : decode cX11_init 177 = .ok (.newarray .long, 2) := by decide +kernel
theorem dX11_init_179 : decode cX11_init 179 = .ok (.putfield 74, 3) := by decide +kernel
theorem dX11_init_182 : decode cX11_init 182 = .ok (.aload_n 0, 1) := by decide +kernel
theorem dX11_init_183 : decode cX11_init 183 = .ok (.bipush 12, 2) := by decide +kernel
theorem dX11_init_185 : decode cX11_init 185 = .ok (.newarray .int, 2) := by decide +kernel
theorem dX11_init_187 : decode cX11_init 187 = .ok (.putfield 77, 3) := by decide +kernel
theorem dX11_init_190 : decode cX11_init 190 = .ok (.aload_n 0, 1) := by decide +kernel
theorem dX11_init_191 : decode cX11_init 191 = .ok (.sipush 1440, 3) := by decide +kernel
theorem dX11_init_194 : decode cX11_init 194 = .ok (.newarray .int, 2) := by decide +kernel
theorem dX11_init_196 : decode cX11_init 196 = .ok (.putfield 80, 3) := by decide +kernel
theorem dX11_init_199 : decode cX11_init 199 = .ok (.aload_n 0, 1) := by decide +kernel
theorem dX11_init_200 : decode cX11_init 200 = .ok (.bipush 120, 2) := by decide +kernel
theorem dX11_init_202 : decode cX11_init 202 = .ok (.newarray .int, 2) := by decide +kernel
theorem dX11_init_204 : decode cX11_init 204 = .ok (.putfield 83, 3) := by decide +kernel
theorem dX11_init_207 : decode cX11_init 207 = .ok (.aload_n 0, 1) := by decide +kernel
theorem dX11_init_208 : decode cX11_init 208 = .ok (.bipush 54, 2) := by decide +kernel
theorem dX11_init_210 : decode cX11_init 210 = .ok (.newarray .int, 2) := by decide +kernel
theorem dX11_init_212 : decode cX11_init 212 = .ok (.dup, 1) := by decide +kernel
theorem dX11_init_213 : decode cX11_init 213 = .ok (.iconst 0, 1) := by decide +kernel
theorem dX11_init_214 : decode cX11_init 214 = .ok (.bipush 115, 2) := by decide +kernel
theorem dX11_init_216 : decode cX11_init 216 = .ok (.iastore, 1) := by decide +kernel
theorem dX11_init_217 : decode cX11_init 217 = .ok (.dup, 1) := by decide +kernel
theorem dX11_init_218 : decode cX11_init 218 = .ok (.iconst 1, 1) := by decide +kernel
theorem dX11_init_219 : decode cX11_init 219 = .ok (.bipush 116, 2) := by decide +kernel
theorem dX11_init_221 : decode cX11_init 221 = .ok (.iastore, 1) := by decide +kernel
theorem dX11_init_222 : decode cX11_init 222 = .ok (.dup, 1) := by decide +kernel
theorem dX11_init_223 : decode cX11_init 223 = .ok (.iconst 2, 1) := by decide +kernel
theorem dX11_init_224 : decode cX11_init 224 = .ok (.bipush 111, 2) := by decide +kernel
theorem dX11_init_226 : decode cX11_init 226 = .ok (.iastore, 1) := by decide +kernel
theorem dX11_init_227 : decode cX11_init 227 = .ok (.dup, 1) := by decide +kernel
theorem dX11_init_228 : decode cX11_init 228 = .ok (.iconst 3, 1) := by decide +kernel
theorem dX11_init_229 : decode cX11_init 229 = .ok (.bipush 99, 2) := by decide +kernel
theorem dX11_init_231 : decode cX11_init 231 = .ok (.iastore, 1) := by decide +kernel
theorem dX11_init_232 : decode cX11_init 232 = .ok (.dup, 1) := by decide +kernel
theorem dX11_init_233 : decode cX11_init 233 = .ok (.iconst 4, 1) := by decide +kernel
theorem dX11_init_234 : decode cX11_init 234 = .ok (.bipush 107, 2) := by decide +kernel
theorem dX11_init_236 : decode cX11_init 236 = .ok (.iastore, 1) := by decide +kernel
theorem dX11_init_237 : decode cX11_init 237 = .ok (.dup, 1) := by decide +kernel
theorem dX11_init_238 : decode cX11_init 238 = .ok (.iconst 5, 1) := by decide +kernel
theorem dX11_init_239 : decode cX11_init 239 = .ok (.iconst 0, 1) := by decide +kernel
theorem dX11_init_240 : decode cX11_init 240 = .ok (.iastore, 1) := by decide +kernel
theorem dX11_init_241 : decode cX11_init 241 = .ok (.dup, 1) := by decide +kernel
theorem dX11_init_242 : decode cX11_init 242 = .ok (.bipush 6, 2) := by decide +kernel
theorem dX11_init_244 : decode cX11_init 244 = .ok (.bipush 111, 2) := by decide +kernel
theorem dX11_init_246 : decode cX11_init 246 = .ok (.iastore, 1) := by decide +kernel
theorem dX11_init_247 : decode cX11_init 247 = .ok (.dup, 1) := by decide +kernel
theorem dX11_init_248 : decode cX11_init 248 = .ok (.bipush 7, 2) := by decide +kernel
theorem dX11_init_250 : decode cX11_init 250 = .ok (.bipush 119, 2) := by decide +kernel
theorem dX11_init_252 : decode cX11_init 252 = .ok (.iastore, 1) := by decide +kernel
theorem dX11_init_253 : decode cX11_init 253 = .ok (.dup, 1) := by decide +kernel
theorem dX11_init_254 : decode cX11_init 254 = .ok (.bipush 8, 2) := by decide +kernel
theorem dX11_init_256 : decode cX11_init 256 = .ok (.bipush 101, 2) := by decide +kernel
theorem dX11_init_258 : decode cX11_init 258 = .ok (.iastore, 1) := by decide +kernel
theorem dX11_init_259 : decode cX11_init 259 = .ok (.dup, 1) := by decide +kernel
theorem dX11_init_260 : decode cX11_init 260 = .ok (.bipush 9, 2) := by decide +kernel
theorem dX11_init_262 : decode cX11_init 262 = .ok (.bipush 100, 2) := by decide +kernel
theorem dX11_init_264 : decode cX11_init 264 = .ok (.iastore, 1) := by decide +kernel
theorem dX11_init_265 : decode cX11_init 265 = .ok (.dup, 1) := by decide +kernel
theorem dX11_init_266 : decode cX11_init 266 = .ok (.bipush 10, 2) := by decide +kernel
theorem dX11_init_268 : decode cX11_init 268 = .ok (.iconst 0, 1) := by decide +kernel
theorem dX11_init_269 : decode cX11_init 269 = .ok (.iastore, 1) := by decide +kernel
theorem dX11_init_270 : decode cX11_init 270 = .ok (.dup, 1) := by decide +kernel
theorem dX11_init_271 : decode cX11_init 271 = .ok (.bipush 11, 2) := by decide +kernel
theorem dX11_init_273 : decode cX11_init 273 = .ok (.iconst 0, 1) := by decide +kernel
theorem dX11_init_274 : decode cX11_init 274 = .ok (.iastore, 1) := by decide +kernel
theorem dX11_init_275 : decode cX11_init 275 = .ok (.dup, 1) := by decide +kernel
theorem dX11_init_276 : decode cX11_init 276 = .ok (.bipush 12, 2) := by decide +kernel
theorem dX11_init_278 : decode cX11_init 278 = .ok (.bipush 119, 2) := by decide +kernel
theorem dX11_init_280 : decode cX11_init 280 = .ok (.iastore, 1) := by decide +kernel
theorem dX11_init_281 : decode cX11_init 281 = .ok (.dup, 1) := by decide +kernel
theorem dX11_init_282 : decode cX11_init 282 = .ok (.bipush 13, 2) := by decide +kernel
theorem dX11_init_284 : decode cX11_init 284 = .ok (.bipush 97, 2) := by decide +kernel
theorem dX11_init_286 : decode cX11_init 286 = .ok (.iastore, 1) := by decide +kernel
theorem dX11_init_287 : decode cX11_init 287 = .ok (.dup, 1) := by decide +kernel
theorem dX11_init_288 : decode cX11_init 288 = .ok (.bipush 14, 2) := by decide +kernel
theorem dX11_init_290 : decode cX11_init 290 = .ok (.bipush 121, 2) := by decide +kernel
theorem dX11_init_292 : decode cX11_init 292 = .ok (.iastore, 1) := by decide +kernel
theorem dX11_init_293 : decode cX11_init 293 = .ok (.dup, 1) := by decide +kernel
theorem dX11_init_294 : decode cX11_init 294 = .ok (.bipush 15, 2) := by decide +kernel
theorem dX11_init_296 : decode cX11_init 296 = .ok (.iconst 0, 1) := by decide +kernel
theorem dX11_init_297 : decode cX11_init 297 = .ok (.iastore, 1) := by decide +kernel
theorem dX11_init_298 : decode cX11_init 298 = .ok (.dup, 1) := by decide +kernel
theorem dX11_init_299 : decode cX11_init 299 = .ok (.bipush 16, 2) := by decide +kernel
theorem dX11_init_301 : decode cX11_init 301 = .ok (.iconst 0, 1) := by decide +kernel
theorem dX11_init_302 : decode cX11_init 302 = .ok (.iastore, 1) := by decide +kernel
theorem dX11_init_303 : decode cX11_init 303 = .ok (.dup, 1) := by decide +kernel
theorem dX11_init_304 : decode cX11_init 304 = .ok (.bipush 17, 2) := by decide +kernel
theorem dX11_init_306 : decode cX11_init 306 = .ok (.iconst 0, 1) := by decide +kernel
theorem dX11_init_307 : decode cX11_init 307 = .ok (.iastore, 1) := by decide +kernel
theorem dX11_init_308 : decode cX11_init 308 = .ok (.dup, 1) := by decide +kernel
theorem dX11_init_309 : decode cX11_init 309 = .ok (.bipush 18, 2) := by decide +kernel
theorem dX11_init_311 : decode cX11_init 311 = .ok (.bipush 115, 2) := by decide +kernel
theorem dX11_init_313 : decode cX11_init 313 = .ok (.iastore, 1) := by decide +kernel
theorem dX11_init_314 : decode cX11_init 314 = .ok (.dup, 1) := by decide +kernel
theorem dX11_init_315 : decode cX11_init 315 = .ok (.bipush 19, 2) := by decide +kernel
theorem dX11_init_317 : decode cX11_init 317 = .ok (.bipush 101, 2) := by decide +kernel
theorem dX11_init_319 : decode cX11_init 319 = .ok (.iastore, 1) := by decide +kernel
theorem dX11_init_320 : decode cX11_init 320 = .ok (.dup, 1) := by decide +kernel
theorem dX11_init_321 : decode cX11_init 321 = .ok (.bipush 20, 2) := by decide +kernel
theorem dX11_init_323 : decode cX11_init 323 = .ok (.bipush 101, 2) := by decide +kernel
theorem dX11_init_325 : decode cX11_init 325 = .ok (.iastore, 1) := by decide +kernel
theorem dX11_init_326 : decode cX11_init 326 = .ok (.dup, 1) := by decide +kernel
theorem dX11_init_327 : decode cX11_init 327 = .ok (.bipush 21, 2) := by decide +kernel
theorem dX11_init_329 : decode cX11_init 329 = .ok (.bipush 110, 2) := by decide +kernel
theorem dX11_init_331 : decode cX11_init 331 = .ok (.iastore, 1) := by decide +kernel
theorem dX11_init_332 : decode cX11_init 332 = .ok (.dup, 1) := by decide +kernel
theorem dX11_init_333 : decode cX11_init 333 = .ok (.bipush 22, 2) := by decide +kernel
theorem dX11_init_335 : decode cX11_init 335 = .ok (.iconst 0, 1) := by decide +kernel
theorem dX11_init_336 : decode cX11_init 336 = .ok (.iastore, 1) := by decide +kernel
theorem dX11_init_337 : decode cX11_init 337 = .ok (.dup, 1) := by decide +kernel
theorem dX11_init_338 : decode cX11_init 338 = .ok (.bipush 23, 2) := by decide +kernel
theorem dX11_init_340 : decode cX11_init 340 = .ok (.iconst 0, 1) := by decide +kernel
theorem dX11_init_341 : decode cX11_init 341 = .ok (.iastore, 1) := by decide +kernel
theorem dX11_init_342 : decode cX11_init 342 = .ok (.dup, 1) := by decide +kernel
theorem dX11_init_343 : decode cX11_init 343 = .ok (.bipush 24, 2) := by decide +kernel
theorem dX11_init_345 : decode cX11_init 345 = .ok (.bipush 109, 2) := by decide +kernel
theorem dX11_init_347 : decode cX11_init 347 = .ok (.iastore, 1) := by decide +kernel
theorem dX11_init_348 : decode cX11_init 348 = .ok (.dup, 1) := by decide +kernel
theorem dX11_init_349 : decode cX11_init 349 = .ok (.bipush 25, 2) := by decide +kernel
theorem dX11_init_351 : decode cX11_init 351 = .ok (.bipush 101, 2) := by decide +kernel
theorem dX11_init_353 : decode cX11_init 353 = .ok (.iastore, 1) := by decide +kernel
theorem dX11_init_354 : decode cX11_init 354 = .ok (.dup, 1) := by decide +kernel
theorem dX11_init_355 : decode cX11_init 355 = .ok (.bipush 26, 2) := by decide +kernel
theorem dX11_init_357 : decode cX11_init 357 = .ok (.bipush 97, 2) := by decide +kernel
theorem dX11_init_359 : decode cX11_init 359 = .ok (.iastore, 1) := by decide +kernel
theorem dX11_init_360 : decode cX11_init 360 = .ok (.dup, 1) := by decide +kernel
theorem dX11_init_361 : decode cX11_init 361 = .ok (.bipush 27, 2) := by decide +kernel
theorem dX11_init_363 : decode cX11_init 363 = .ok (.bipush 110, 2) := by decide +kernel
theorem dX11_init_365 : decode cX11_init 365 = .ok (.iastore, 1) := by decide +kernel
theorem dX11_init_366 : decode cX11_init 366 = .ok (.dup, 1) := by decide +kernel
theorem dX11_init_367 : decode cX11_init 367 = .ok (.bipush 28, 2) := by decide +kernel
theorem dX11_init_369 : decode cX11_init 369 = .ok (.iconst 0, 1) := by decide +kernel
theorem dX11_init_370 : decode cX11_init 370 = .ok (.iastore, 1) := by decide +kernel
theorem dX11_init_371 : decode cX11_init 371 = .ok (.dup, 1) := by decide +kernel
theorem dX11_init_372 : decode cX11_init 372 = .ok (.bipush 29, 2) := by decide +kernel
theorem dX11_init_374 : decode cX11_init 374 = .ok (.iconst 0, 1) := by decide +kernel
theorem dX11_init_375 : decode cX11_init 375 = .ok (.iastore, 1) := by decide +kernel
theorem dX11_init_376 : decode cX11_init 376 = .ok (.dup, 1) := by decide +kernel
theorem dX11_init_377 : decode cX11_init 377 = .ok (.bipush 30, 2) := by decide +kernel
theorem dX11_init_379 : decode cX11_init 379 = .ok (.bipush 119, 2) := by decide +kernel
theorem dX11_init_381 : decode cX11_init 381 = .ok (.iastore, 1) := by decide +kernel
theorem dX11_init_382 : decode cX11_init 382 = .ok (.dup, 1) := by decide +kernel
theorem dX11_init_383 : decode cX11_init 383 = .ok (.bipush 31, 2) := by decide +kernel
theorem dX11_init_385 : decode cX11_init 385 = .ok (.bipush 101, 2) := by decide +kernel
theorem dX11_init_387 : decode cX11_init 387 = .ok (.iastore, 1) := by decide +kernel
theorem dX11_init_388 : decode cX11_init 388 = .ok (.dup, 1) := by decide +kernel
theorem dX11_init_389 : decode cX11_init 389 = .ok (.bipush 32, 2) := by decide +kernel
theorem dX11_init_391 : decode cX11_init 391 = .ok (.bipush 101, 2) := by decide +kernel
theorem dX11_init_393 : decode cX11_init 393 = .ok (.iastore, 1) := by decide +kernel
theorem dX11_init_394 : decode cX11_init 394 = .ok (.dup, 1) := by decide +kernel
theorem dX11_init_395 : decode cX11_init 395 = .ok (.bipush 33, 2) := by decide +kernel
theorem dX11_init_397 : decode cX11_init 397 = .ok (.bipush 107, 2) := by decide +kernel
theorem dX11_init_399 : decode cX11_init 399 = .ok (.iastore, 1) := by decide +kernel
theorem dX11_init_400 : decode cX11_init 400 = .ok (.dup, 1) := by decide +kernel
theorem dX11_init_401 : decode cX11_init 401 = .ok (.bipush 34, 2) := by decide +kernel
theorem dX11_init_403 : decode cX11_init 403 = .ok (.iconst 0, 1) := by decide +kernel
theorem dX11_init_404 : decode cX11_init 404 = .ok (.iastore, 1) := by decide +kernel
theorem dX11_init_405 : decode cX11_init 405 = .ok (.dup, 1) := by decide +kernel
theorem dX11_init_406 : decode cX11_init 406 = .ok (.bipush 35, 2) := by decide +kernel
theorem dX11_init_408 : decode cX11_init 408 = .ok (.iconst 0, 1) := by decide +kernel
theorem dX11_init_409 : decode cX11_init 409 = .ok (.iastore, 1) := by decide +kernel
theorem dX11_init_410 : decode cX11_init 410 = .ok (.dup, 1) := by decide +kernel
theorem dX11_init_411 : decode cX11_init 411 = .ok (.bipush 36, 2) := by decide +kernel
theorem dX11_init_413 : decode cX11_init 413 = .ok (.bipush 112, 2) := by decide +kernel
theorem dX11_init_415 : decode cX11_init 415 = .ok (.iastore, 1) := by decide +kernel
theorem dX11_init_416 : decode cX11_init 416 = .ok (.dup, 1) := by decide +kernel
theorem dX11_init_417 : decode cX11_init 417 = .ok (.bipush 37, 2) := by decide +kernel
theorem dX11_init_419 : decode cX11_init 419 = .ok (.bipush 108, 2) := by decide +kernel
theorem dX11_init_421 : decode cX11_init 421 = .ok (.iastore, 1) := by decide +kernel
theorem dX11_init_422 : decode cX11_init 422 = .ok (.dup, 1) := by decide +kernel
theorem dX11_init_423 : decode cX11_init 423 = .ok (.bipush 38, 2) := by decide +kernel
theorem dX11_init_425 : decode cX11_init 425 = .ok (.bipush 97, 2) := by decide +kernel
theorem dX11_init_427 : decode cX11_init 427 = .ok (.iastore, 1) := by decide +kernel
theorem dX11_init_428 : decode cX11_init 428 = .ok (.dup, 1) := by decide +kernel
theorem dX11_init_429 : decode cX11_init 429 = .ok (.bipush 39, 2) := by decide +kernel
theorem dX11_init_431 : decode cX11_init 431 = .ok (.bipush 99, 2) := by decide +kernel
theorem dX11_init_433 : decode cX11_init 433 = .ok (.iastore, 1) := by decide +kernel
theorem dX11_init_434 : decode cX11_init 434 = .ok (.dup, 1) := by decide +kernel
theorem dX11_init_435 : decode cX11_init 435 = .ok (.bipush 40, 2) := by decide +kernel
theorem dX11_init_437 : decode cX11_init 437 = .ok (.bipush 101, 2) := by decide +kernel
theorem dX11_init_439 : decode cX11_init 439 = .ok (.iastore, 1) := by decide +kernel
theorem dX11_init_440 : decode cX11_init 440 = .ok (.dup, 1) := by decide +kernel
theorem dX11_init_441 : decode cX11_init 441 = .ok (.bipush 41, 2) := by decide +kernel
theorem dX11_init_443 : decode cX11_init 443 = .ok (.iconst 0, 1) := by decide +kernel
theorem dX11_init_444 : decode cX11_init 444 = .ok (.iastore, 1) := by decide +kernel
theorem dX11_init_445 : decode cX11_init 445 = .ok (.dup, 1) := by decide +kernel
theorem dX11_init_446 : decode cX11_init 446 = .ok (.bipush 42, 2) := by decide +kernel
theorem dX11_init_448 : decode cX11_init 448 = .ok (.bipush 109, 2) := by decide +kernel
theorem dX11_init_450 : decode cX11_init 450 = .ok (.iastore, 1) := by decide +kernel
theorem dX11_init_451 : decode cX11_init 451 = .ok (.dup, 1) := by decide +kernel
theorem dX11_init_452 : decode cX11_init 452 = .ok (.bipush 43, 2) := by decide +kernel
theorem dX11_init_454 : decode cX11_init 454 = .ok (.bipush 105, 2) := by decide +kernel
theorem dX11_init_456 : decode cX11_init 456 = .ok (.iastore, 1) := by decide +kernel
theorem dX11_init_457 : decode cX11_init 457 = .ok (.dup, 1) := by decide +kernel
theorem dX11_init_458 : decode cX11_init 458 = .ok (.bipush 44, 2) := by decide +kernel
theorem dX11_init_460 : decode cX11_init 460 = .ok (.bipush 110, 2) := by decide +kernel
theorem dX11_init_462 : decode cX11_init 462 = .ok (.iastore, 1) := by decide +kernel
theorem dX11_init_463 : decode cX11_init 463 = .ok (.dup, 1) := by decide +kernel
theorem dX11_init_464 : decode cX11_init 464 = .ok (.bipush 45, 2) := by decide +kernel
theorem dX11_init_466 : decode cX11_init 466 = .ok (.iconst 0, 1) := by decide +kernel
theorem dX11_init_467 : decode cX11_init 467 = .ok (.iastore, 1) := by decide +kernel
theorem dX11_init_468 : decode cX11_init 468 = .ok (.dup, 1) := by decide +kernel
theorem dX11_init_469 : decode cX11_init 469 = .ok (.bipush 46, 2) := by decide +kernel
theorem dX11_init_471 : decode cX11_init 471 = .ok (.iconst 0, 1) := by decide +kernel
theorem dX11_init_472 : decode cX11_init 472 = .ok (.iastore, 1) := by decide +kernel
theorem dX11_init_473 : decode cX11_init 473 = .ok (.dup, 1) := by decide +kernel
theorem dX11_init_474 : decode cX11_init 474 = .ok (.bipush 47, 2) := by decide +kernel
theorem dX11_init_476 : decode cX11_init 476 = .ok (.iconst 0, 1) := by decide +kernel
theorem dX11_init_477 : decode cX11_init 477 = .ok (.iastore, 1) := by decide +kernel
theorem dX11_init_478 : decode cX11_init 478 = .ok (.dup, 1) := by decide +kernel
theorem dX11_init_479 : decode cX11_init 479 = .ok (.bipush 48, 2) := by decide +kernel
theorem dX11_init_481 : decode cX11_init 481 = .ok (.bipush 109, 2) := by decide +kernel
theorem dX11_init_483 : decode cX11_init 483 = .ok (.iastore, 1) := by decide +kernel
theorem dX11_init_484 : decode cX11_init 484 = .ok (.dup, 1) := by decide +kernel
theorem dX11_init_485 : decode cX11_init 485 = .ok (.bipush 49, 2) := by decide +kernel
theorem dX11_init_487 : decode cX11_init 487 = .ok (.bipush 97, 2) := by decide +kernel
theorem dX11_init_489 : decode cX11_init 489 = .ok (.iastore, 1) := by decide +kernel
theorem dX11_init_490 : decode cX11_init 490 = .ok (.dup, 1) := by decide +kernel
theorem dX11_init_491 : decode cX11_init 491 = .ok (.bipush 50, 2) := by decide +kernel
theorem dX11_init_493 : decode cX11_init 493 = .ok (.bipush 120, 2) := by decide +kernel
theorem dX11_init_495 : decode cX11_init 495 = .ok (.iastore, 1) := by decide +kernel
theorem dX11_init_496 : decode cX11_init 496 = .ok (.dup, 1) := by decide +kernel
theorem dX11_init_497 : decode cX11_init 497 = .ok (.bipush 51, 2) := by decide +kernel
theorem dX11_init_499 : decode cX11_init 499 = .ok (.iconst 0, 1) := by decide +kernel
theorem dX11_init_500 : decode cX11_init 500 = .ok (.iastore, 1) := by decide +kernel
theorem dX11_init_501 : decode cX11_init 501 = .ok (.dup, 1) := by decide +kernel
theorem dX11_init_502 : decode cX11_init 502 = .ok (.bipush 52, 2) := by decide +kernel
theorem dX11_init_504 : decode cX11_init 504 = .ok (.iconst 0, 1) := by decide +kernel
theorem dX11_init_505 : decode cX11_init 505 = .ok (.iastore, 1) := by decide +kernel
theorem dX11_init_506 : decode cX11_init 506 = .ok (.dup, 1) := by decide +kernel
theorem dX11_init_507 : decode cX11_init 507 = .ok (.bipush 53, 2) := by decide +kernel
theorem dX11_init_509 : decode cX11_init 509 = .ok (.iconst 0, 1) := by decide +kernel
theorem dX11_init_510 : decode cX11_init 510 = .ok (.iastore, 1) := by decide +kernel
theorem dX11_init_511 : decode cX11_init 511 = .ok (.putfield 86, 3) := by decide +kernel
theorem dX11_init_514 : decode cX11_init 514 = .ok (.aload_n 0, 1) := by decide +kernel
theorem dX11_init_515 : decode cX11_init 515 = .ok (.sipush 130, 3) := by decide +kernel
theorem dX11_init_518 : decode cX11_init 518 = .ok (.newarray .int, 2) := by decide +kernel
theorem dX11_init_520 : decode cX11_init 520 = .ok (.putfield 89, 3) := by decide +kernel
theorem dX11_init_523 : decode cX11_init 523 = .ok (.aload_n 0, 1) := by decide +kernel
theorem dX11_init_524 : decode cX11_init 524 = .ok (.sipush 130, 3) := by decide +kernel
theorem dX11_init_527 : decode cX11_init 527 = .ok (.newarray .long, 2) := by decide +kernel
theorem dX11_init_529 : decode cX11_init 529 = .ok (.putfield 92, 3) := by decide +kernel
theorem dX11_init_532 : decode cX11_init 532 = .ok (.aload_n 0, 1) := by decide +kernel
theorem dX11_init_533 : decode cX11_init 533 = .ok (.lconst 1, 1) := by decide +kernel
theorem dX11_init_534 : decode cX11_init 534 = .ok (.putfield 95, 3) := by decide +kernel
theorem dX11_init_537 : decode cX11_init 537 = .ok (.aload_n 0, 1) := by decide +kernel
theorem dX11_init_538 : decode cX11_init 538 = .ok (.lconst 1, 1) := by decide +kernel
theorem dX11_init_539 : decode cX11_init 539 = .ok (.putfield 99, 3) := by decide +kernel
theorem dX11_init_542 : decode cX11_init 542 = .ok (.aload_n 0, 1) := by decide +kernel
theorem dX11_init_543 : decode cX11_init 543 = .ok (.lconst 1, 1) := by decide +kernel
theorem dX11_init_544 : decode cX11_init 544 = .ok (.putfield 102, 3) := by decide +kernel
theorem dX11_init_547 : decode cX11_init 547 = .ok (.aload_n 0, 1) := by decide +kernel
theorem dX11_init_548 : decode cX11_init 548 = .ok (.lconst 1, 1) := by decide +kernel
theorem dX11_init_549 : decode cX11_init 549 = .ok (.putfield 105, 3) := by decide +kernel
theorem dX11_init_552 : decode cX11_init 552 = .ok (.aload_n 0, 1) := by decide +kernel
theorem dX11_init_553 : decode cX11_init 553 = .ok (.iconst 1, 1) := by decide +kernel
theorem dX11_init_554 : decode cX11_init 554 = .ok (.putfield 108, 3) := by decide +kernel
theorem dX11_init_557 : decode cX11_init 557 = .ok (.aload_n 0, 1) := by decide +kernel
theorem dX11_init_558 : decode cX11_init 558 = .ok (.bipush 31, 2) := by decide +kernel
theorem dX11_init_560 : decode cX11_init 560 = .ok (.newarray .long, 2) := by decide +kernel
theorem dX11_init_562 : decode cX11_init 562 = .ok (.putfield 112, 3) := by decide +kernel
theorem dX11_init_565 : decode cX11_init 565 = .ok (.aload_n 0, 1) := by decide +kernel
theorem dX11_init_566 : decode cX11_init 566 = .ok (.bipush 31, 2) := by decide +kernel
theorem dX11_init_568 : decode cX11_init 568 = .ok (.newarray .long, 2) := by decide +kernel
theorem dX11_init_570 : decode cX11_init 570 = .ok (.putfield 115, 3) := by decide +kernel
theorem dX11_init_573 : decode cX11_init 573 = .ok (.aload_n 0, 1) := by decide +kernel
theorem dX11_init_574 : decode cX11_init 574 = .ok (.iconst 3, 1) := by decide +kernel
theorem dX11_init_575 : decode cX11_init 575 = .ok (.newarray .long, 2) := by decide +kernel
theorem dX11_init_577 : decode cX11_init 577 = .ok (.dup, 1) := by decide +kernel
theorem dX11_init_578 : decode cX11_init 578 = .ok (.iconst 0, 1) := by decide +kernel
theorem dX11_init_579 : decode cX11_init 579 = .ok (.lconst 1, 1) := by decide +kernel
theorem dX11_init_580 : decode cX11_init 580 = .ok (.lastore, 1) := by decide +kernel
theorem dX11_init_581 : decode cX11_init 581 = .ok (.dup, 1) := by decide +kernel
theorem dX11_init_582 : decode cX11_init 582 = .ok (.iconst 1, 1) := by decide +kernel
theorem dX11_init_583 : decode cX11_init 583 = .ok (.lconst 0, 1) := by decide +kernel
theorem dX11_init_584 : decode cX11_init 584 = .ok (.lastore, 1) := by decide +kernel
theorem dX11_init_585 : decode cX11_init 585 = .ok (.dup, 1) := by decide +kernel
theorem dX11_init_586 : decode cX11_init 586 = .ok (.iconst 2, 1) := by decide +kernel
theorem dX11_init_587 : decode cX11_init 587 = .ok (.lconst 0, 1) := by decide +kernel
theorem dX11_init_588 : decode cX11_init 588 = .ok (.lastore, 1) := by decide +kernel
theorem dX11_init_589 : decode cX11_init 589 = .ok (.putfield 118, 3) := by decide +kernel
theorem dX11_init_592 : decode cX11_init 592 = .ok (.aload_n 0, 1) := by decide +kernel
theorem dX11_init_593 : decode cX11_init 593 = .ok (.iconst 3, 1) := by decide +kernel
theorem dX11_init_594 : decode cX11_init 594 = .ok (.newarray .long, 2) := by decide +kernel
theorem dX11_init_596 : decode cX11_init 596 = .ok (.dup, 1) := by decide +kernel
theorem dX11_init_597 : decode cX11_init 597 = .ok (.iconst 0, 1) := by decide +kernel
theorem dX11_init_598 : decode cX11_init 598 = .ok (.lconst 1, 1) := by decide +kernel
theorem dX11_init_599 : decode cX11_init 599 = .ok (.lastore, 1) := by decide +kernel
theorem dX11_init_600 : decode cX11_init 600 = .ok (.dup, 1) := by decide +kernel
theorem dX11_init_601 : decode cX11_init 601 = .ok (.iconst 1, 1) := by decide +kernel
theorem dX11_init_602 : decode cX11_init 602 = .ok (.lconst 1, 1) := by decide +kernel
theorem dX11_init_603 : decode cX11_init 603 = .ok (.lastore, 1) := by decide +kernel
theorem dX11_init_604 : decode cX11_init 604 = .ok (.dup, 1) := by decide +kernel
theorem dX11_init_605 : decode cX11_init 605 = .ok (.iconst 2, 1) := by decide +kernel
theorem dX11_init_606 : decode cX11_init 606 = .ok (.lconst 1, 1) := by decide +kernel
theorem dX11_init_607 : decode cX11_init 607 = .ok (.lastore, 1) := by decide +kernel
theorem dX11_init_608 : decode cX11_init 608 = .ok (.putfield 121, 3) := by decide +kernel
theorem dX11_init_611 : decode cX11_init 611 = .ok (.aload_n 0, 1) := by decide +kernel
theorem dX11_init_612 : decode cX11_init 612 = .ok (.iconst 5, 1) := by decide +kernel
theorem dX11_init_613 : decode cX11_init 613 = .ok (.newarray .long, 2) := by decide +kernel
theorem dX11_init_615 : decode cX11_init 615 = .ok (.putfield 124, 3) := by decide +kernel
theorem dX11_init_618 : decode cX11_init 618 = .ok (.aload_n 0, 1) := by decide +kernel
theorem dX11_init_619 : decode cX11_init 619 = .ok (.iconst 5, 1) := by decide +kernel
theorem dX11_init_620 : decode cX11_init 620 = .ok (.newarray .long, 2) := by decide +kernel
theorem dX11_init_622 : decode cX11_init 622 = .ok (.putfield 127, 3) := by decide +kernel
theorem dX11_init_625 : decode cX11_init 625 = .ok (.aload_n 0, 1) := by decide +kernel
theorem dX11_init_626 : decode cX11_init 626 = .ok (.iconst 5, 1) := by decide +kernel
theorem dX11_init_627 : decode cX11_init 627 = .ok (.newarray .int, 2) := by decide +kernel
theorem dX11_init_629 : decode cX11_init 629 = .ok (.dup, 1) := by decide +kernel
theorem dX11_init_630 : decode cX11_init 630 = .ok (.iconst 0, 1) := by decide +kernel
theorem dX11_init_631 : decode cX11_init 631 = .ok (.iconst 1, 1) := by decide +kernel
theorem dX11_init_632 : decode cX11_init 632 = .ok (.iastore, 1) := by decide +kernel
theorem dX11_init_633 : decode cX11_init 633 = .ok (.dup, 1) := by decide +kernel
theorem dX11_init_634 : decode cX11_init 634 = .ok (.iconst 1, 1) := by decide +kernel
theorem dX11_init_635 : decode cX11_init 635 = .ok (.iconst 1, 1) := by decide +kernel
theorem dX11_init_636 : decode cX11_init 636 = .ok (.iastore, 1) := by decide +kernel
theorem dX11_init_637 : decode cX11_init 637 = .ok (.dup, 1) := by decide +kernel
theorem dX11_init_638 : decode cX11_init 638 = .ok (.iconst 2, 1) := by decide +kernel
theorem dX11_init_639 : decode cX11_init 639 = .ok (.iconst 1, 1) := by decide +kernel
theorem dX11_init_640 : decode cX11_init 640 = .ok (.iastore, 1) := by decide +kernel
theorem dX11_init_641 : decode cX11_init 641 = .ok (.dup, 1) := by decide +kernel
theorem dX11_init_642 : decode cX11_init 642 = .ok (.iconst 3, 1) := by decide +kernel
theorem dX11_init_643 : decode cX11_init 643 = .ok (.iconst 1, 1) := by decide +kernel
theorem dX11_init_644 : decode cX11_init 644 = .ok (.iastore, 1) := by decide +kernel
theorem dX11_init_645 : decode cX11_init 645 = .ok (.dup, 1) := by decide +kernel
theorem dX11_init_646 : decode cX11_init 646 = .ok (.iconst 4, 1) := by decide +kernel
theorem dX11_init_647 : decode cX11_init 647 = .ok (.iconst 1, 1) := by decide +kernel
theorem dX11_init_648 : decode cX11_init 648 = .ok (.iastore, 1) := by decide +kernel
theorem dX11_init_649 : decode cX11_init 649 = .ok (.putfield 130, 3) := by decide +kernel
theorem dX11_init_652 : decode cX11_init 652 = .ok (.aload_n 0, 1) := by decide +kernel
theorem dX11_init_653 : decode cX11_init 653 = .ok (.bipush 50, 2) := by decide +kernel
theorem dX11_init_655 : decode cX11_init 655 = .ok (.newarray .long, 2) := by decide +kernel
theorem dX11_init_657 : decode cX11_init 657 = .ok (.putfield 133, 3) := by decide +kernel
theorem dX11_init_660 : decode cX11_init 660 = .ok (.aload_n 0, 1) := by decide +kernel
theorem dX11_init_661 : decode cX11_init 661 = .ok (.bipush 25, 2) := by decide +kernel
theorem dX11_init_663 : decode cX11_init 663 = .ok (.newarray .long, 2) := by decide +kernel
theorem dX11_init_665 : decode cX11_init 665 = .ok (.putfield 136, 3) := by decide +kernel
theorem dX11_init_668 : decode cX11_init 668 = .ok (.aload_n 0, 1) := by decide +kernel
theorem dX11_init_669 : decode cX11_init 669 = .ok (.iconst 3, 1) := by decide +kernel
theorem dX11_init_670 : decode cX11_init 670 = .ok (.newarray .long, 2) := by decide +kernel
theorem dX11_init_672 : decode cX11_init 672 = .ok (.putfield 139, 3) := by decide +kernel
theorem dX11_init_675 : decode cX11_init 675 = .ok (.aload_n 0, 1) := by decide +kernel
theorem dX11_init_676 : decode cX11_init 676 = .ok (.bipush 8, 2) := by decide +kernel
theorem dX11_init_678 : decode cX11_init 678 = .ok (.newarray .int, 2) := by decide +kernel
theorem dX11_init_680 : decode cX11_init 680 = .ok (.putfield 142, 3) := by decide +kernel
theorem dX11_init_683 : decode cX11_init 683 = .ok (.aload_n 0, 1) := by decide +kernel
theorem dX11_init_684 : decode cX11_init 684 = .ok (.bipush 40, 2) := by decide +kernel
theorem dX11_init_686 : decode cX11_init 686 = .ok (.newarray .long, 2) := by decide +kernel
theorem dX11_init_688 : decode cX11_init 688 = .ok (.putfield 145, 3) := by decide +kernel
theorem dX11_init_691 : decode cX11_init 691 = .ok (.aload_n 0, 1) := by decide +kernel
theorem dX11_init_692 : decode cX11_init 692 = .ok (.bipush 64, 2) := by decide +kernel
theorem dX11_init_694 : decode cX11_init 694 = .ok (.newarray .long, 2) := by decide +kernel
theorem dX11_init_696 : decode cX11_init 696 = .ok (.putfield 148, 3) := by decide +kernel
theorem dX11_init_699 : decode cX11_init 699 = .ok (.aload_n 0, 1) := by decide +kernel
theorem dX11_init_700 : decode cX11_init 700 = .ok (.bipush 56, 2) := by decide +kernel
theorem dX11_init_702 : decode cX11_init 702 = .ok (.newarray .long, 2) := by decide +kernel
theorem dX11_init_704 : decode cX11_init 704 = .ok (.putfield 151, 3) := by decide +kernel
theorem dX11_init_707 : decode cX11_init 707 = .ok (.aload_n 0, 1) := by decide +kernel
theorem dX11_init_708 : decode cX11_init 708 = .ok (.bipush 32, 2) := by decide +kernel
theorem dX11_init_710 : decode cX11_init 710 = .ok (.newarray .long, 2) := by decide +kernel
theorem dX11_init_712 : decode cX11_init 712 = .ok (.putfield 154, 3) := by decide +kernel
theorem dX11_init_715 : decode cX11_init 715 = .ok (.aload_n 0, 1) := by decide +kernel
theorem dX11_init_716 : decode cX11_init 716 = .ok (.sipush 320, 3) := by decide +kernel
theorem dX11_init_719 : decode cX11_init 719 = .ok (.newarray .long, 2) := by decide +kernel
theorem dX11_init_721 : decode cX11_init 721 = .ok (.putfield 157, 3) := by decide +kernel
theorem dX11_init_724 : decode cX11_init 724 = .ok (.aload_n 0, 1) := by decide +kernel
theorem dX11_init_725 : decode cX11_init 725 = .ok (.sipush 320, 3) := by decide +kernel
theorem dX11_init_728 : decode cX11_init 728 = .ok (.newarray .long, 2) := by decide +kernel
theorem dX11_init_730 : decode cX11_init 730 = .ok (.putfield 160, 3) := by decide +kernel
theorem dX11_init_733 : decode cX11_init 733 = .ok (.aload_n 0, 1) := by decide +kernel
theorem dX11_init_734 : decode cX11_init 734 = .ok (.bipush 6, 2) := by decide +kernel
theorem dX11_init_736 : decode cX11_init 736 = .ok (.newarray .int, 2) := by decide +kernel
theorem dX11_init_738 : decode cX11_init 738 = .ok (.putfield 163, 3) := by decide +kernel
theorem dX11_init_741 : decode cX11_init 741 = .ok (.return_, 1) := by decide +kernel
theorem dX11_in_0 : decode cX11_in 0 = .ok (.lload_n 0, 1) := by decide +kernel
theorem dX11_in_1 : decode cX11_in 1 = .ok (.lload_n 2, 1) := by decide +kernel
theorem dX11_in_2 : decode cX11_in 2 = .ok (.lcmp, 1) := by decide +kernel
theorem dX11_in_3 : decode cX11_in 3 = .ok (.ifCond .lt 14, 3) := by decide +kernel
theorem dX11_in_6 : decode cX11_in 6 = .ok (.lload_n 0, 1) := by decide +kernel
theorem dX11_in_7 : decode cX11_in 7 = .ok (.lload 4, 2) := by decide +kernel
theorem dX11_in_9 : decode cX11_in 9 = .ok (.lcmp, 1) := by decide +kernel
theorem dX11_in_10 : decode cX11_in 10 = .ok (.ifCond .gt 7, 3) := by decide +kernel
theorem dX11_in_13 : decode cX11_in 13 = .ok (.iconst 1, 1) := by decide +kernel
theorem dX11_in_14 : decode cX11_in 14 = .ok (.goto 4, 3) := by decide +kernel
theorem dX11_in_17 : decode cX11_in 17 = .ok (.iconst 0, 1) := by decide +kernel
theorem dX11_in_18 : decode cX11_in 18 = .ok (.ireturn, 1) := by decide +kernel
theorem dX11_isStage_0 : decode cX11_isStage 0 = .ok (.iload_n 1, 1) := by decide +kernel
theorem dX11_isStage_1 : decode cX11_isStage 1 = .ok (.i2l, 1) := by decide +kernel
theorem dX11_isStage_2 : decode cX11_isStage 2 = .ok (.lconst 0, 1) := by decide +kernel
theorem dX11_isStage_3 : decode cX11_isStage 3 = .ok (.aload_n 0, 1) := by decide +kernel
theorem dX11_isStage_4 : decode cX11_isStage 4 = .ok (.getfield 166, 3) := by decide +kernel
theorem dX11_isStage_7 : decode cX11_isStage 7 = .ok (.iconst 1, 1) := by decide +kernel
theorem dX11_isStage_8 : decode cX11_isStage 8 = .ok (.isub, 1) := by decide +kernel
theorem dX11_isStage_9 : decode cX11_isStage 9 = .ok (.i2l, 1) := by decide +kernel
theorem dX11_isStage_10 : decode cX11_isStage 10 = .ok (.invokestatic 169, 3) := by decide +kernel
theorem dX11_isStage_13 : decode cX11_isStage 13 = .ok (.ireturn, 1) := by decide +kernel
theorem dX11_isShop_0 : decode cX11_isShop 0 = .ok (.aload_n 0, 1) := by decide +kernel
theorem dX11_isShop_1 : decode cX11_isShop 1 = .ok (.iload_n 1, 1) := by decide +kernel
theorem dX11_isShop_2 : decode cX11_isShop 2 = .ok (.invokevirtual 173, 3) := by decide +kernel
theorem dX11_isShop_5 : decode cX11_isShop 5 = .ok (.ifCond .eq 17, 3) := by decide +kernel
theorem dX11_isShop_8 : decode cX11_isShop 8 = .ok (.aload_n 0, 1) := by decide +kernel
theorem dX11_isShop_9 : decode cX11_isShop 9 = .ok (.getfield 7, 3) := by decide +kernel
theorem dX11_isShop_12 : decode cX11_isShop 12 = .ok (.iload_n 1, 1) := by decide +kernel
theorem dX11_isShop_13 : decode cX11_isShop 13 = .ok (.iaload, 1) := by decide +kernel
theorem dX11_isShop_14 : decode cX11_isShop 14 = .ok (.iconst 3, 1) := by decide +kernel
theorem dX11_isShop_15 : decode cX11_isShop 15 = .ok (.if_icmp .ne 7, 3) := by decide +kernel
theorem dX11_isShop_18 : decode cX11_isShop 18 = .ok (.iconst 1, 1) := by decide +kernel
theorem dX11_isShop_19 : decode cX11_isShop 19 = .ok (.goto 4, 3) := by decide +kernel
theorem dX11_isShop_22 : decode cX11_isShop 22 = .ok (.iconst 0, 1) := by decide +kernel
theorem dX11_isShop_23 : decode cX11_isShop 23 = .ok (.ireturn, 1) := by decide +kernel
theorem dX11_stage_0 : decode cX11_stage 0 = .ok (.aload_n 0, 1) := by decide +kernel
theorem dX11_stage_1 : decode cX11_stage 1 = .ok (.getfield 166, 3) := by decide +kernel
theorem dX11_stage_4 : decode cX11_stage 4 = .ok (.ifCond .ne 10, 3) := by decide +kernel
theorem dX11_stage_7 : decode cX11_stage 7 = .ok (.iload_n 2, 1) := by decide +kernel
theorem dX11_stage_8 : decode cX11_stage 8 = .ok (.ifCond .eq 16, 3) := by decide +kernel
theorem dX11_stage_11 : decode cX11_stage 11 = .ok (.goto 11, 3) := by decide +kernel
theorem dX11_stage_14 : decode cX11_stage 14 = .ok (.aload_n 0, 1) := by decide +kernel
theorem dX11_stage_15 : decode cX11_stage 15 = .ok (.iload_n 2, 1) := by decide +kernel
theorem dX11_stage_16 : decode cX11_stage 16 = .ok (.invokevirtual 173, 3) := by decide +kernel
theorem dX11_stage_19 : decode cX11_stage 19 = .ok (.ifCond .ne 5, 3) := by decide +kernel
theorem dX11_stage_22 : decode cX11_stage 22 = .ok (.iconst (-1), 1) := by decide +kernel
theorem dX11_stage_23 : decode cX11_stage 23 = .ok (.ireturn, 1) := by decide +kernel
theorem dX11_stage_24 : decode cX11_stage 24 = .ok (.aload_n 0, 1) := by decide +kernel
theorem dX11_stage_25 : decode cX11_stage 25 = .ok (.getfield 166, 3) := by decide +kernel
theorem dX11_stage_28 : decode cX11_stage 28 = .ok (.ifCond .ne 10, 3) := by decide +kernel
theorem dX11_stage_31 : decode cX11_stage 31 = .ok (.iload_n 1, 1) := by decide +kernel
theorem dX11_stage_32 : decode cX11_stage 32 = .ok (.ifCond .ne 60, 3) := by decide +kernel
theorem dX11_stage_35 : decode cX11_stage 35 = .ok (.goto 15, 3) := by decide +kernel
theorem dX11_stage_38 : decode cX11_stage 38 = .ok (.iload_n 1, 1) := by decide +kernel
theorem dX11_stage_39 : decode cX11_stage 39 = .ok (.i2l, 1) := by decide +kernel
theorem dX11_stage_40 : decode cX11_stage 40 = .ok (.lconst 1, 1) := by decide +kernel
theorem dX11_stage_41 : decode cX11_stage 41 = .ok (.ldc2_w 177, 3) := by decide +kernel
theorem dX11_stage_44 : decode cX11_stage 44 = .ok (.invokestatic 169, 3) := by decide +kernel
theorem dX11_stage_47 : decode cX11_stage 47 = .ok (.ifCond .eq 45, 3) := by decide +kernel
theorem dX11_stage_50 : decode cX11_stage 50 = .ok (.iload_n 3, 1) := by decide +kernel
theorem dX11_stage_51 : decode cX11_stage 51 = .ok (.i2l, 1) := by decide +kernel
theorem dX11_stage_52 : decode cX11_stage 52 = .ok (.lconst 1, 1) := by decide +kernel
theorem dX11_stage_53 : decode cX11_stage 53 = .ok (.ldc2_w 179, 3) := by decide +kernel
theorem dX11_stage_56 : decode cX11_stage 56 = .ok (.invokestatic 169, 3) := by decide +kernel
theorem dX11_stage_59 : decode cX11_stage 59 = .ok (.ifCond .eq 33, 3) := by decide +kernel
theorem dX11_stage_62 : decode cX11_stage 62 = .ok (.iload 4, 2) := by decide +kernel
theorem dX11_stage_64 : decode cX11_stage 64 = .ok (.i2l, 1) := by decide +kernel
theorem dX11_stage_65 : decode cX11_stage 65 = .ok (.lconst 0, 1) := by decide +kernel
theorem dX11_stage_66 : decode cX11_stage 66 = .ok (.ldc2_w 177, 3) := by decide +kernel
theorem dX11_stage_69 : decode cX11_stage 69 = .ok (.invokestatic 169, 3) := by decide +kernel
theorem dX11_stage_72 : decode cX11_stage 72 = .ok (.ifCond .eq 20, 3) := by decide +kernel
theorem dX11_stage_75 : decode cX11_stage 75 = .ok (.iload 5, 2) := by decide +kernel
theorem dX11_stage_77 : decode cX11_stage 77 = .ok (.i2l, 1) := by decide +kernel
theorem dX11_stage_78 : decode cX11_stage 78 = .ok (.lconst 0, 1) := by decide +kernel
theorem dX11_stage_79 : decode cX11_stage 79 = .ok (.ldc2_w 181, 3) := by decide +kernel
theorem dX11_stage_82 : decode cX11_stage 82 = .ok (.invokestatic 169, 3) := by decide +kernel
theorem dX11_stage_85 : decode cX11_stage 85 = .ok (.ifCond .eq 7, 3) := by decide +kernel
theorem dX11_stage_88 : decode cX11_stage 88 = .ok (.iconst 1, 1) := by decide +kernel
theorem dX11_stage_89 : decode cX11_stage 89 = .ok (.goto 4, 3) := by decide +kernel
theorem dX11_stage_92 : decode cX11_stage 92 = .ok (.iconst 0, 1) := by decide +kernel
theorem dX11_stage_93 : decode cX11_stage 93 = .ok (.istore 6, 2) := by decide +kernel
theorem dX11_stage_95 : decode cX11_stage 95 = .ok (.iload 6, 2) := by decide +kernel
theorem dX11_stage_97 : decode cX11_stage 97 = .ok (.ifCond .eq 20, 3) := by decide +kernel
theorem dX11_stage_100 : decode cX11_stage 100 = .ok (.aload_n 0, 1) := by decide +kernel
theorem dX11_stage_101 : decode cX11_stage 101 = .ok (.getfield 166, 3) := by decide +kernel
theorem dX11_stage_104 : decode cX11_stage 104 = .ok (.ifCond .le 16, 3) := by decide +kernel
theorem dX11_stage_107 : decode cX11_stage 107 = .ok (.aload_n 0, 1) := by decide +kernel
theorem dX11_stage_108 : decode cX11_stage 108 = .ok (.getfield 7, 3) := by decide +kernel
theorem dX11_stage_111 : decode cX11_stage 111 = .ok (.iload_n 2, 1) := by decide +kernel
theorem dX11_stage_112 : decode cX11_stage 112 = .ok (.iaload, 1) := by decide +kernel
theorem dX11_stage_113 : decode cX11_stage 113 = .ok (.iconst 3, 1) := by decide +kernel
theorem dX11_stage_114 : decode cX11_stage 114 = .ok (.if_icmp .ne 6, 3) := by decide +kernel
theorem dX11_stage_117 : decode cX11_stage 117 = .ok (.bipush (-2), 2) := by decide +kernel
theorem dX11_stage_119 : decode cX11_stage 119 = .ok (.ireturn, 1) := by decide +kernel
theorem dX11_stage_120 : decode cX11_stage 120 = .ok (.aload_n 0, 1) := by decide +kernel
theorem dX11_stage_121 : decode cX11_stage 121 = .ok (.getfield 183, 3) := by decide +kernel
theorem dX11_stage_124 : decode cX11_stage 124 = .ok (.ifCond .le 6, 3) := by decide +kernel
theorem dX11_stage_127 : decode cX11_stage 127 = .ok (.bipush (-3), 2) := by decide +kernel
theorem dX11_stage_129 : decode cX11_stage 129 = .ok (.ireturn, 1) := by decide +kernel
theorem dX11_stage_130 : decode cX11_stage 130 = .ok (.aload_n 0, 1) := by decide +kernel
theorem dX11_stage_131 : decode cX11_stage 131 = .ok (.getfield 166, 3) := by decide +kernel
theorem dX11_stage_134 : decode cX11_stage 134 = .ok (.bipush 8, 2) := by decide +kernel
theorem dX11_stage_136 : decode cX11_stage 136 = .ok (.if_icmp .ne 6, 3) := by decide +kernel
theorem dX11_stage_139 : decode cX11_stage 139 = .ok (.bipush (-4), 2) := by decide +kernel
theorem dX11_stage_141 : decode cX11_stage 141 = .ok (.ireturn, 1) := by decide +kernel
theorem dX11_stage_142 : decode cX11_stage 142 = .ok (.aload_n 0, 1) := by decide +kernel
theorem dX11_stage_143 : decode cX11_stage 143 = .ok (.getfield 166, 3) := by decide +kernel
theorem dX11_stage_146 : decode cX11_stage 146 = .ok (.istore 7, 2) := by decide +kernel
theorem dX11_stage_148 : decode cX11_stage 148 = .ok (.aload_n 0, 1) := by decide +kernel
theorem dX11_stage_149 : decode cX11_stage 149 = .ok (.getfield 7, 3) := by decide +kernel
theorem dX11_stage_152 : decode cX11_stage 152 = .ok (.iload 7, 2) := by decide +kernel
theorem dX11_stage_154 : decode cX11_stage 154 = .ok (.iload_n 1, 1) := by decide +kernel
theorem dX11_stage_155 : decode cX11_stage 155 = .ok (.iastore, 1) := by decide +kernel
theorem dX11_stage_156 : decode cX11_stage 156 = .ok (.aload_n 0, 1) := by decide +kernel
theorem dX11_stage_157 : decode cX11_stage 157 = .ok (.getfield 13, 3) := by decide +kernel
theorem dX11_stage_160 : decode cX11_stage 160 = .ok (.iload 7, 2) := by decide +kernel
theorem dX11_stage_162 : decode cX11_stage 162 = .ok (.aload_n 0, 1) := by decide +kernel
theorem dX11_stage_163 : decode cX11_stage 163 = .ok (.getfield 166, 3) := by decide +kernel
theorem dX11_stage_166 : decode cX11_stage 166 = .ok (.ifCond .ne 7, 3) := by decide +kernel
theorem dX11_stage_169 : decode cX11_stage 169 = .ok (.iconst (-1), 1) := by decide +kernel
theorem dX11_stage_170 : decode cX11_stage 170 = .ok (.goto 4, 3) := by decide +kernel
theorem dX11_stage_173 : decode cX11_stage 173 = .ok (.iload_n 2, 1) := by decide +kernel
theorem dX11_stage_174 : decode cX11_stage 174 = .ok (.iastore, 1) := by decide +kernel
theorem dX11_stage_175 : decode cX11_stage 175 = .ok (.aload_n 0, 1) := by decide +kernel
theorem dX11_stage_176 : decode cX11_stage 176 = .ok (.getfield 16, 3) := by decide +kernel
theorem dX11_stage_179 : decode cX11_stage 179 = .ok (.iload 7, 2) := by decide +kernel
theorem dX11_stage_181 : decode cX11_stage 181 = .ok (.iload_n 3, 1) := by decide +kernel
theorem dX11_stage_182 : decode cX11_stage 182 = .ok (.iastore, 1) := by decide +kernel
theorem dX11_stage_183 : decode cX11_stage 183 = .ok (.aload_n 0, 1) := by decide +kernel
theorem dX11_stage_184 : decode cX11_stage 184 = .ok (.getfield 19, 3) := by decide +kernel
theorem dX11_stage_187 : decode cX11_stage 187 = .ok (.iload 7, 2) := by decide +kernel
theorem dX11_stage_189 : decode cX11_stage 189 = .ok (.iload 4, 2) := by decide +kernel
theorem dX11_stage_191 : decode cX11_stage 191 = .ok (.iastore, 1) := by decide +kernel
theorem dX11_stage_192 : decode cX11_stage 192 = .ok (.aload_n 0, 1) := by decide +kernel
theorem dX11_stage_193 : decode cX11_stage 193 = .ok (.getfield 22, 3) := by decide +kernel
theorem dX11_stage_196 : decode cX11_stage 196 = .ok (.iload 7, 2) := by decide +kernel
theorem dX11_stage_198 : decode cX11_stage 198 = .ok (.iconst 1, 1) := by decide +kernel
theorem dX11_stage_199 : decode cX11_stage 199 = .ok (.iastore, 1) := by decide +kernel
theorem dX11_stage_200 : decode cX11_stage 200 = .ok (.aload_n 0, 1) := by decide +kernel
theorem dX11_stage_201 : decode cX11_stage 201 = .ok (.getfield 25, 3) := by decide +kernel
theorem dX11_stage_204 : decode cX11_stage 204 = .ok (.iload 7, 2) := by decide +kernel
theorem dX11_stage_206 : decode cX11_stage 206 = .ok (.sipush 9999, 3) := by decide +kernel
theorem dX11_stage_209 : decode cX11_stage 209 = .ok (.iastore, 1) := by decide +kernel
theorem dX11_stage_210 : decode cX11_stage 210 = .ok (.aload_n 0, 1) := by decide +kernel
theorem dX11_stage_211 : decode cX11_stage 211 = .ok (.getfield 28, 3) := by decide +kernel
theorem dX11_stage_214 : decode cX11_stage 214 = .ok (.iload 7, 2) := by decide +kernel
theorem dX11_stage_216 : decode cX11_stage 216 = .ok (.iconst 1, 1) := by decide +kernel
theorem dX11_stage_217 : decode cX11_stage 217 = .ok (.iastore, 1) := by decide +kernel
theorem dX11_stage_218 : decode cX11_stage 218 = .ok (.aload_n 0, 1) := by decide +kernel
theorem dX11_stage_219 : decode cX11_stage 219 = .ok (.getfield 31, 3) := by decide +kernel
theorem dX11_stage_222 : decode cX11_stage 222 = .ok (.iload 7, 2) := by decide +kernel
theorem dX11_stage_224 : decode cX11_stage 224 = .ok (.iconst 1, 1) := by decide +kernel
theorem dX11_stage_225 : decode cX11_stage 225 = .ok (.iastore, 1) := by decide +kernel
theorem dX11_stage_226 : decode cX11_stage 226 = .ok (.aload_n 0, 1) := by decide +kernel
theorem dX11_stage_227 : decode cX11_stage 227 = .ok (.getfield 34, 3) := by decide +kernel
theorem dX11_stage_230 : decode cX11_stage 230 = .ok (.iload 7, 2) := by decide +kernel
theorem dX11_stage_232 : decode cX11_stage 232 = .ok (.iconst (-1), 1) := by decide +kernel
theorem dX11_stage_233 : decode cX11_stage 233 = .ok (.iastore, 1) := by decide +kernel
theorem dX11_stage_234 : decode cX11_stage 234 = .ok (.aload_n 0, 1) := by decide +kernel
theorem dX11_stage_235 : decode cX11_stage 235 = .ok (.getfield 40, 3) := by decide +kernel
theorem dX11_stage_238 : decode cX11_stage 238 = .ok (.iload 7, 2) := by decide +kernel
theorem dX11_stage_240 : decode cX11_stage 240 = .ok (.iload 5, 2) := by decide +kernel
theorem dX11_stage_242 : decode cX11_stage 242 = .ok (.i2l, 1) := by decide +kernel
theorem dX11_stage_243 : decode cX11_stage 243 = .ok (.lastore, 1) := by decide +kernel
theorem dX11_stage_244 : decode cX11_stage 244 = .ok (.aload_n 0, 1) := by decide +kernel
theorem dX11_stage_245 : decode cX11_stage 245 = .ok (.dup, 1) := by decide +kernel
theorem dX11_stage_246 : decode cX11_stage 246 = .ok (.getfield 186, 3) := by decide +kernel
theorem dX11_stage_249 : decode cX11_stage 249 = .ok (.iload 5, 2) := by decide +kernel
theorem dX11_stage_251 : decode cX11_stage 251 = .ok (.i2l, 1) := by decide +kernel
theorem dX11_stage_252 : decode cX11_stage 252 = .ok (.ladd, 1) := by decide +kernel
theorem dX11_stage_253 : decode cX11_stage 253 = .ok (.putfield 186, 3) := by decide +kernel
theorem dX11_stage_256 : decode cX11_stage 256 = .ok (.aload_n 0, 1) := by decide +kernel
theorem dX11_stage_257 : decode cX11_stage 257 = .ok (.dup, 1) := by decide +kernel
theorem dX11_stage_258 : decode cX11_stage 258 = .ok (.getfield 166, 3) := by decide +kernel
theorem dX11_stage_261 : decode cX11_stage 261 = .ok (.iconst 1, 1) := by decide +kernel
theorem dX11_stage_262 : decode cX11_stage 262 = .ok (.iadd, 1) := by decide +kernel
theorem dX11_stage_263 : decode cX11_stage 263 = .ok (.putfield 166, 3) := by decide +kernel
theorem dX11_stage_266 : decode cX11_stage 266 = .ok (.iload 7, 2) := by decide +kernel
theorem dX11_stage_268 : decode cX11_stage 268 = .ok (.ireturn, 1) := by decide +kernel
theorem dX11_set_0 : decode cX11_set 0 = .ok (.aload_n 0, 1) := by decide +kernel
theorem dX11_set_1 : decode cX11_set 1 = .ok (.iload_n 1, 1) := by decide +kernel
theorem dX11_set_2 : decode cX11_set 2 = .ok (.invokevirtual 173, 3) := by decide +kernel
theorem dX11_set_5 : decode cX11_set 5 = .ok (.ifCond .eq 15, 3) := by decide +kernel
theorem dX11_set_8 : decode cX11_set 8 = .ok (.iload_n 2, 1) := by decide +kernel
theorem dX11_set_9 : decode cX11_set 9 = .ok (.i2l, 1) := by decide +kernel
theorem dX11_set_10 : decode cX11_set 10 = .ok (.lconst 0, 1) := by decide +kernel
theorem dX11_set_11 : decode cX11_set 11 = .ok (.ldc2_w 177, 3) := by decide +kernel
theorem dX11_set_14 : decode cX11_set 14 = .ok (.invokestatic 169, 3) := by decide +kernel
theorem dX11_set_17 : decode cX11_set 17 = .ok (.ifCond .ne 5, 3) := by decide +kernel
theorem dX11_set_20 : decode cX11_set 20 = .ok (.iconst (-1), 1) := by decide +kernel
theorem dX11_set_21 : decode cX11_set 21 = .ok (.ireturn, 1) := by decide +kernel
theorem dX11_set_22 : decode cX11_set 22 = .ok (.iload_n 2, 1) := by decide +kernel
theorem dX11_set_23 : decode cX11_set 23 = .ok (.ifCond .ne 18, 3) := by decide +kernel
theorem dX11_set_26 : decode cX11_set 26 = .ok (.iload_n 3, 1) := by decide +kernel
theorem dX11_set_27 : decode cX11_set 27 = .ok (.i2l, 1) := by decide +kernel
theorem dX11_set_28 : decode cX11_set 28 = .ok (.lconst 1, 1) := by decide +kernel
theorem dX11_set_29 : decode cX11_set 29 = .ok (.ldc2_w 189, 3) := by decide +kernel
theorem dX11_set_32 : decode cX11_set 32 = .ok (.invokestatic 169, 3) := by decide +kernel
theorem dX11_set_35 : decode cX11_set 35 = .ok (.ifCond .ne 41, 3) := by decide +kernel
theorem dX11_set_38 : decode cX11_set 38 = .ok (.goto 35, 3) := by decide +kernel
theorem dX11_set_41 : decode cX11_set 41 = .ok (.iload_n 2, 1) := by decide +kernel
theorem dX11_set_42 : decode cX11_set 42 = .ok (.iconst 1, 1) := by decide +kernel
theorem dX11_set_43 : decode cX11_set 43 = .ok (.if_icmp .ne 18, 3) := by decide +kernel
theorem dX11_set_46 : decode cX11_set 46 = .ok (.iload_n 3, 1) := by decide +kernel
theorem dX11_set_47 : decode cX11_set 47 = .ok (.i2l, 1) := by decide +kernel
theorem dX11_set_48 : decode cX11_set 48 = .ok (.lconst 1, 1) := by decide +kernel
theorem dX11_set_49 : decode cX11_set 49 = .ok (.ldc2_w 181, 3) := by decide +kernel
theorem dX11_set_52 : decode cX11_set 52 = .ok (.invokestatic 169, 3) := by decide +kernel
theorem dX11_set_55 : decode cX11_set 55 = .ok (.ifCond .ne 21, 3) := by decide +kernel
theorem dX11_set_58 : decode cX11_set 58 = .ok (.goto 15, 3) := by decide +kernel
theorem dX11_set_61 : decode cX11_set 61 = .ok (.iload_n 3, 1) := by decide +kernel
theorem dX11_set_62 : decode cX11_set 62 = .ok (.i2l, 1) := by decide +kernel
theorem dX11_set_63 : decode cX11_set 63 = .ok (.lconst 0, 1) := by decide +kernel
theorem dX11_set_64 : decode cX11_set 64 = .ok (.ldc2_w 191, 3) := by decide +kernel
theorem dX11_set_67 : decode cX11_set 67 = .ok (.invokestatic 169, 3) := by decide +kernel
theorem dX11_set_70 : decode cX11_set 70 = .ok (.ifCond .ne 6, 3) := by decide +kernel
theorem dX11_set_73 : decode cX11_set 73 = .ok (.bipush (-2), 2) := by decide +kernel
theorem dX11_set_75 : decode cX11_set 75 = .ok (.ireturn, 1) := by decide +kernel
theorem dX11_set_76 : decode cX11_set 76 = .ok (.iload_n 2, 1) := by decide +kernel
theorem dX11_set_77 : decode cX11_set 77 = .ok (.ifCond .ne 12, 3) := by decide +kernel
theorem dX11_set_80 : decode cX11_set 80 = .ok (.aload_n 0, 1) := by decide +kernel
theorem dX11_set_81 : decode cX11_set 81 = .ok (.getfield 22, 3) := by decide +kernel
theorem dX11_set_84 : decode cX11_set 84 = .ok (.iload_n 1, 1) := by decide +kernel
theorem dX11_set_85 : decode cX11_set 85 = .ok (.iaload, 1) := by decide +kernel
theorem dX11_set_86 : decode cX11_set 86 = .ok (.goto 37, 3) := by decide +kernel
theorem dX11_set_89 : decode cX11_set 89 = .ok (.iload_n 2, 1) := by decide +kernel
theorem dX11_set_90 : decode cX11_set 90 = .ok (.iconst 1, 1) := by decide +kernel
theorem dX11_set_91 : decode cX11_set 91 = .ok (.if_icmp .ne 12, 3) := by decide +kernel
theorem dX11_set_94 : decode cX11_set 94 = .ok (.aload_n 0, 1) := by decide +kernel
theorem dX11_set_95 : decode cX11_set 95 = .ok (.getfield 25, 3) := by decide +kernel
theorem dX11_set_98 : decode cX11_set 98 = .ok (.iload_n 1, 1) := by decide +kernel
theorem dX11_set_99 : decode cX11_set 99 = .ok (.iaload, 1) := by decide +kernel
theorem dX11_set_100 : decode cX11_set 100 = .ok (.goto 23, 3) := by decide +kernel
theorem dX11_set_103 : decode cX11_set 103 = .ok (.iload_n 2, 1) := by decide +kernel
theorem dX11_set_104 : decode cX11_set 104 = .ok (.iconst 2, 1) := by decide +kernel
theorem dX11_set_105 : decode cX11_set 105 = .ok (.if_icmp .ne 12, 3) := by decide +kernel
theorem dX11_set_108 : decode cX11_set 108 = .ok (.aload_n 0, 1) := by decide +kernel
theorem dX11_set_109 : decode cX11_set 109 = .ok (.getfield 28, 3) := by decide +kernel
theorem dX11_set_112 : decode cX11_set 112 = .ok (.iload_n 1, 1) := by decide +kernel
theorem dX11_set_113 : decode cX11_set 113 = .ok (.iaload, 1) := by decide +kernel
theorem dX11_set_114 : decode cX11_set 114 = .ok (.goto 9, 3) := by decide +kernel
theorem dX11_set_117 : decode cX11_set 117 = .ok (.aload_n 0, 1) := by decide +kernel
theorem dX11_set_118 : decode cX11_set 118 = .ok (.getfield 31, 3) := by decide +kernel
theorem dX11_set_121 : decode cX11_set 121 = .ok (.iload_n 1, 1) := by decide +kernel
theorem dX11_set_122 : decode cX11_set 122 = .ok (.iaload, 1) := by decide +kernel
theorem dX11_set_123 : decode cX11_set 123 = .ok (.istore 4, 2) := by decide +kernel
theorem dX11_set_125 : decode cX11_set 125 = .ok (.iload_n 2, 1) := by decide +kernel
theorem dX11_set_126 : decode cX11_set 126 = .ok (.ifCond .ne 13, 3) := by decide +kernel
theorem dX11_set_129 : decode cX11_set 129 = .ok (.aload_n 0, 1) := by decide +kernel
theorem dX11_set_130 : decode cX11_set 130 = .ok (.getfield 22, 3) := by decide +kernel
theorem dX11_set_133 : decode cX11_set 133 = .ok (.iload_n 1, 1) := by decide +kernel
theorem dX11_set_134 : decode cX11_set 134 = .ok (.iload_n 3, 1) := by decide +kernel
theorem dX11_set_135 : decode cX11_set 135 = .ok (.iastore, 1) := by decide +kernel
theorem dX11_set_136 : decode cX11_set 136 = .ok (.goto 40, 3) := by decide +kernel
theorem dX11_set_139 : decode cX11_set 139 = .ok (.iload_n 2, 1) := by decide +kernel
theorem dX11_set_140 : decode cX11_set 140 = .ok (.iconst 1, 1) := by decide +kernel
theorem dX11_set_141 : decode cX11_set 141 = .ok (.if_icmp .ne 13, 3) := by decide +kernel
theorem dX11_set_144 : decode cX11_set 144 = .ok (.aload_n 0, 1) := by decide +kernel
theorem dX11_set_145 : decode cX11_set 145 = .ok (.getfield 25, 3) := by decide +kernel
theorem dX11_set_148 : decode cX11_set 148 = .ok (.iload_n 1, 1) := by decide +kernel
theorem dX11_set_149 : decode cX11_set 149 = .ok (.iload_n 3, 1) := by decide +kernel
theorem dX11_set_150 : decode cX11_set 150 = .ok (.iastore, 1) := by decide +kernel
theorem dX11_set_151 : decode cX11_set 151 = .ok (.goto 25, 3) := by decide +kernel
theorem dX11_set_154 : decode cX11_set 154 = .ok (.iload_n 2, 1) := by decide +kernel
theorem dX11_set_155 : decode cX11_set 155 = .ok (.iconst 2, 1) := by decide +kernel
theorem dX11_set_156 : decode cX11_set 156 = .ok (.if_icmp .ne 13, 3) := by decide +kernel
theorem dX11_set_159 : decode cX11_set 159 = .ok (.aload_n 0, 1) := by decide +kernel
theorem dX11_set_160 : decode cX11_set 160 = .ok (.getfield 28, 3) := by decide +kernel
theorem dX11_set_163 : decode cX11_set 163 = .ok (.iload_n 1, 1) := by decide +kernel
theorem dX11_set_164 : decode cX11_set 164 = .ok (.iload_n 3, 1) := by decide +kernel
theorem dX11_set_165 : decode cX11_set 165 = .ok (.iastore, 1) := by decide +kernel
theorem dX11_set_166 : decode cX11_set 166 = .ok (.goto 10, 3) := by decide +kernel
theorem dX11_set_169 : decode cX11_set 169 = .ok (.aload_n 0, 1) := by decide +kernel
theorem dX11_set_170 : decode cX11_set 170 = .ok (.getfield 31, 3) := by decide +kernel
theorem dX11_set_173 : decode cX11_set 173 = .ok (.iload_n 1, 1) := by decide +kernel
theorem dX11_set_174 : decode cX11_set 174 = .ok (.iload_n 3, 1) := by decide +kernel
theorem dX11_set_175 : decode cX11_set 175 = .ok (.iastore, 1) := by decide +kernel
theorem dX11_set_176 : decode cX11_set 176 = .ok (.iload 4, 2) := by decide +kernel
theorem dX11_set_178 : decode cX11_set 178 = .ok (.ireturn, 1) := by decide +kernel
theorem dX11_use_0 : decode cX11_use 0 = .ok (.aload_n 0, 1) := by decide +kernel
theorem dX11_use_1 : decode cX11_use 1 = .ok (.iload_n 1, 1) := by decide +kernel
theorem dX11_use_2 : decode cX11_use 2 = .ok (.invokevirtual 173, 3) := by decide +kernel
theorem dX11_use_5 : decode cX11_use 5 = .ok (.ifCond .eq 21, 3) := by decide +kernel
theorem dX11_use_8 : decode cX11_use 8 = .ok (.iload_n 2, 1) := by decide +kernel
theorem dX11_use_9 : decode cX11_use 9 = .ok (.i2l, 1) := by decide +kernel
theorem dX11_use_10 : decode cX11_use 10 = .ok (.ldc2_w 193, 3) := by decide +kernel
theorem dX11_use_13 : decode cX11_use 13 = .ok (.aload_n 0, 1) := by decide +kernel
theorem dX11_use_14 : decode cX11_use 14 = .ok (.getfield 195, 3) := by decide +kernel
theorem dX11_use_17 : decode cX11_use 17 = .ok (.iconst 1, 1) := by decide +kernel
theorem dX11_use_18 : decode cX11_use 18 = .ok (.isub, 1) := by decide +kernel
theorem dX11_use_19 : decode cX11_use 19 = .ok (.i2l, 1) := by decide +kernel
theorem dX11_use_20 : decode cX11_use 20 = .ok (.invokestatic 169, 3) := by decide +kernel
theorem dX11_use_23 : decode cX11_use 23 = .ok (.ifCond .ne 6, 3) := by decide +kernel
theorem dX11_use_26 : decode cX11_use 26 = .ok (.bipush (-5), 2) := by decide +kernel
theorem dX11_use_28 : decode cX11_use 28 = .ok (.ireturn, 1) := by decide +kernel
theorem dX11_use_29 : decode cX11_use 29 = .ok (.aload_n 0, 1) := by decide +kernel
theorem dX11_use_30 : decode cX11_use 30 = .ok (.getfield 34, 3) := by decide +kernel
theorem dX11_use_33 : decode cX11_use 33 = .ok (.iload_n 1, 1) := by decide +kernel
theorem dX11_use_34 : decode cX11_use 34 = .ok (.iaload, 1) := by decide +kernel
theorem dX11_use_35 : decode cX11_use 35 = .ok (.istore_n 3, 1) := by decide +kernel
theorem dX11_use_36 : decode cX11_use 36 = .ok (.aload_n 0, 1) := by decide +kernel
theorem dX11_use_37 : decode cX11_use 37 = .ok (.getfield 34, 3) := by decide +kernel
theorem dX11_use_40 : decode cX11_use 40 = .ok (.iload_n 1, 1) := by decide +kernel
theorem dX11_use_41 : decode cX11_use 41 = .ok (.iload_n 2, 1) := by decide +kernel
theorem dX11_use_42 : decode cX11_use 42 = .ok (.iastore, 1) := by decide +kernel
theorem dX11_use_43 : decode cX11_use 43 = .ok (.iload_n 3, 1) := by decide +kernel
theorem dX11_use_44 : decode cX11_use 44 = .ok (.ireturn, 1) := by decide +kernel
theorem dX11_allot_0 : decode cX11_allot 0 = .ok (.iload_n 1, 1) := by decide +kernel
theorem dX11_allot_1 : decode cX11_allot 1 = .ok (.i2l, 1) := by decide +kernel
theorem dX11_allot_2 : decode cX11_allot 2 = .ok (.lconst 0, 1) := by decide +kernel
theorem dX11_allot_3 : decode cX11_allot 3 = .ok (.ldc2_w 198, 3) := by decide +kernel
theorem dX11_allot_6 : decode cX11_allot 6 = .ok (.invokestatic 169, 3) := by decide +kernel
theorem dX11_allot_9 : decode cX11_allot 9 = .ok (.ifCond .ne 6, 3) := by decide +kernel
theorem dX11_allot_12 : decode cX11_allot 12 = .ok (.bipush (-2), 2) := by decide +kernel
theorem dX11_allot_14 : decode cX11_allot 14 = .ok (.ireturn, 1) := by decide +kernel
theorem dX11_allot_15 : decode cX11_allot 15 = .ok (.aload_n 0, 1) := by decide +kernel
theorem dX11_allot_16 : decode cX11_allot 16 = .ok (.getfield 200, 3) := by decide +kernel
theorem dX11_allot_19 : decode cX11_allot 19 = .ok (.istore_n 2, 1) := by decide +kernel
theorem dX11_allot_20 : decode cX11_allot 20 = .ok (.aload_n 0, 1) := by decide +kernel
theorem dX11_allot_21 : decode cX11_allot 21 = .ok (.iload_n 1, 1) := by decide +kernel
theorem dX11_allot_22 : decode cX11_allot 22 = .ok (.putfield 200, 3) := by decide +kernel
theorem dX11_allot_25 : decode cX11_allot 25 = .ok (.iload_n 2, 1) := by decide +kernel
theorem dX11_allot_26 : decode cX11_allot 26 = .ok (.ireturn, 1) := by decide +kernel
theorem dX11_owes_0 : decode cX11_owes 0 = .ok (.lconst 0, 1) := by decide +kernel
theorem dX11_owes_1 : decode cX11_owes 1 = .ok (.lstore_n 2, 1) := by decide +kernel
theorem dX11_owes_2 : decode cX11_owes 2 = .ok (.iconst 0, 1) := by decide +kernel
theorem dX11_owes_3 : decode cX11_owes 3 = .ok (.istore 4, 2) := by decide +kernel
theorem dX11_owes_5 : decode cX11_owes 5 = .ok (.iload 4, 2) := by decide +kernel
theorem dX11_owes_7 : decode cX11_owes 7 = .ok (.bipush 8, 2) := by decide +kernel
theorem dX11_owes_9 : decode cX11_owes 9 = .ok (.if_icmp .ge 24, 3) := by decide +kernel
theorem dX11_owes_12 : decode cX11_owes 12 = .ok (.lload_n 2, 1) := by decide +kernel
theorem dX11_owes_13 : decode cX11_owes 13 = .ok (.aload_n 0, 1) := by decide +kernel
theorem dX11_owes_14 : decode cX11_owes 14 = .ok (.getfield 44, 3) := by decide +kernel
theorem dX11_owes_17 : decode cX11_owes 17 = .ok (.bipush 8, 2) := by decide +kernel
theorem dX11_owes_19 : decode cX11_owes 19 = .ok (.iload_n 1, 1) := by decide +kernel
theorem dX11_owes_20 : decode cX11_owes 20 = .ok (.imul, 1) := by decide +kernel
theorem dX11_owes_21 : decode cX11_owes 21 = .ok (.iload 4, 2) := by decide +kernel
theorem dX11_owes_23 : decode cX11_owes 23 = .ok (.iadd, 1) := by decide +kernel
theorem dX11_owes_24 : decode cX11_owes 24 = .ok (.laload, 1) := by decide +kernel
theorem dX11_owes_25 : decode cX11_owes 25 = .ok (.ladd, 1) := by decide +kernel
theorem dX11_owes_26 : decode cX11_owes 26 = .ok (.lstore_n 2, 1) := by decide +kernel
theorem dX11_owes_27 : decode cX11_owes 27 = .ok (.iinc 4 1, 3) := by decide +kernel
theorem dX11_owes_30 : decode cX11_owes 30 = .ok (.goto (-25), 3) := by decide +kernel
theorem dX11_owes_33 : decode cX11_owes 33 = .ok (.lload_n 2, 1) := by decide +kernel
theorem dX11_owes_34 : decode cX11_owes 34 = .ok (.lreturn, 1) := by decide +kernel
theorem dX11_onWay_0 : decode cX11_onWay 0 = .ok (.lconst 0, 1) := by decide +kernel
theorem dX11_onWay_1 : decode cX11_onWay 1 = .ok (.lstore_n 2, 1) := by decide +kernel
theorem dX11_onWay_2 : decode cX11_onWay 2 = .ok (.iconst 1, 1) := by decide +kernel
theorem dX11_onWay_3 : decode cX11_onWay 3 = .ok (.istore 4, 2) := by decide +kernel
theorem dX11_onWay_5 : decode cX11_onWay 5 = .ok (.iload 4, 2) := by decide +kernel
theorem dX11_onWay_7 : decode cX11_onWay 7 = .ok (.bipush 6, 2) := by decide +kernel
theorem dX11_onWay_9 : decode cX11_onWay 9 = .ok (.if_icmp .gt 24, 3) := by decide +kernel
theorem dX11_onWay_12 : decode cX11_onWay 12 = .ok (.lload_n 2, 1) := by decide +kernel
theorem dX11_onWay_13 : decode cX11_onWay 13 = .ok (.aload_n 0, 1) := by decide +kernel
theorem dX11_onWay_14 : decode cX11_onWay 14 = .ok (.getfield 47, 3) := by decide +kernel
theorem dX11_onWay_17 : decode cX11_onWay 17 = .ok (.bipush 7, 2) := by decide +kernel
theorem dX11_onWay_19 : decode cX11_onWay 19 = .ok (.iload_n 1, 1) := by decide +kernel
theorem dX11_onWay_20 : decode cX11_onWay 20 = .ok (.imul, 1) := by decide +kernel
theorem dX11_onWay_21 : decode cX11_onWay 21 = .ok (.iload 4, 2) := by decide +kernel
theorem dX11_onWay_23 : decode cX11_onWay 23 = .ok (.iadd, 1) := by decide +kernel
theorem dX11_onWay_24 : decode cX11_onWay 24 = .ok (.laload, 1) := by decide +kernel
theorem dX11_onWay_25 : decode cX11_onWay 25 = .ok (.ladd, 1) := by decide +kernel
theorem dX11_onWay_26 : decode cX11_onWay 26 = .ok (.lstore_n 2, 1) := by decide +kernel
theorem dX11_onWay_27 : decode cX11_onWay 27 = .ok (.iinc 4 1, 3) := by decide +kernel
theorem dX11_onWay_30 : decode cX11_onWay 30 = .ok (.goto (-25), 3) := by decide +kernel
theorem dX11_onWay_33 : decode cX11_onWay 33 = .ok (.lload_n 2, 1) := by decide +kernel
theorem dX11_onWay_34 : decode cX11_onWay 34 = .ok (.lreturn, 1) := by decide +kernel
theorem dX11_position_0 : decode cX11_position 0 = .ok (.aload_n 0, 1) := by decide +kernel
theorem dX11_position_1 : decode cX11_position 1 = .ok (.getfield 40, 3) := by decide +kernel
theorem dX11_position_4 : decode cX11_position 4 = .ok (.iload_n 1, 1) := by decide +kernel
theorem dX11_position_5 : decode cX11_position 5 = .ok (.laload, 1) := by decide +kernel
theorem dX11_position_6 : decode cX11_position 6 = .ok (.aload_n 0, 1) := by decide +kernel
theorem dX11_position_7 : decode cX11_position 7 = .ok (.iload_n 1, 1) := by decide +kernel
theorem dX11_position_8 : decode cX11_position 8 = .ok (.invokevirtual 203, 3) := by decide +kernel
theorem dX11_position_11 : decode cX11_position 11 = .ok (.ladd, 1) := by decide +kernel
theorem dX11_position_12 : decode cX11_position 12 = .ok (.aload_n 0, 1) := by decide +kernel
theorem dX11_position_13 : decode cX11_position 13 = .ok (.iload_n 1, 1) := by decide +kernel
theorem dX11_position_14 : decode cX11_position 14 = .ok (.invokevirtual 207, 3) := by decide +kernel
theorem dX11_position_17 : decode cX11_position 17 = .ok (.lsub, 1) := by decide +kernel
theorem dX11_position_18 : decode cX11_position 18 = .ok (.lstore_n 2, 1) := by decide +kernel
theorem dX11_position_19 : decode cX11_position 19 = .ok (.aload_n 0, 1) := by decide +kernel
theorem dX11_position_20 : decode cX11_position 20 = .ok (.getfield 7, 3) := by decide +kernel
theorem dX11_position_23 : decode cX11_position 23 = .ok (.iload_n 1, 1) := by decide +kernel
theorem dX11_position_24 : decode cX11_position 24 = .ok (.iaload, 1) := by decide +kernel
theorem dX11_position_25 : decode cX11_position 25 = .ok (.ifCond .eq 51, 3) := by decide +kernel
theorem dX11_position_28 : decode cX11_position 28 = .ok (.lload_n 2, 1) := by decide +kernel
theorem dX11_position_29 : decode cX11_position 29 = .ok (.aload_n 0, 1) := by decide +kernel
theorem dX11_position_30 : decode cX11_position 30 = .ok (.getfield 44, 3) := by decide +kernel
theorem dX11_position_33 : decode cX11_position 33 = .ok (.bipush 8, 2) := by decide +kernel
theorem dX11_position_35 : decode cX11_position 35 = .ok (.aload_n 0, 1) := by decide +kernel
theorem dX11_position_36 : decode cX11_position 36 = .ok (.getfield 13, 3) := by decide +kernel
theorem dX11_position_39 : decode cX11_position 39 = .ok (.iload_n 1, 1) := by decide +kernel
theorem dX11_position_40 : decode cX11_position 40 = .ok (.iaload, 1) := by decide +kernel
theorem dX11_position_41 : decode cX11_position 41 = .ok (.imul, 1) := by decide +kernel
theorem dX11_position_42 : decode cX11_position 42 = .ok (.iload_n 1, 1) := by decide +kernel
theorem dX11_position_43 : decode cX11_position 43 = .ok (.iadd, 1) := by decide +kernel
theorem dX11_position_44 : decode cX11_position 44 = .ok (.laload, 1) := by decide +kernel
theorem dX11_position_45 : decode cX11_position 45 = .ok (.ladd, 1) := by decide +kernel
theorem dX11_position_46 : decode cX11_position 46 = .ok (.lstore_n 2, 1) := by decide +kernel
theorem dX11_position_47 : decode cX11_position 47 = .ok (.iconst 0, 1) := by decide +kernel
theorem dX11_position_48 : decode cX11_position 48 = .ok (.istore 4, 2) := by decide +kernel
theorem dX11_position_50 : decode cX11_position 50 = .ok (.iload 4, 2) := by decide +kernel
theorem dX11_position_52 : decode cX11_position 52 = .ok (.iconst 4, 1) := by decide +kernel
theorem dX11_position_53 : decode cX11_position 53 = .ok (.if_icmp .ge 23, 3) := by decide +kernel
theorem dX11_position_56 : decode cX11_position 56 = .ok (.lload_n 2, 1) := by decide +kernel
theorem dX11_position_57 : decode cX11_position 57 = .ok (.aload_n 0, 1) := by decide +kernel
theorem dX11_position_58 : decode cX11_position 58 = .ok (.getfield 50, 3) := by decide +kernel
theorem dX11_position_61 : decode cX11_position 61 = .ok (.iconst 4, 1) := by decide +kernel
theorem dX11_position_62 : decode cX11_position 62 = .ok (.iload_n 1, 1) := by decide +kernel
theorem dX11_position_63 : decode cX11_position 63 = .ok (.imul, 1) := by decide +kernel
theorem dX11_position_64 : decode cX11_position 64 = .ok (.iload 4, 2) := by decide +kernel
theorem dX11_position_66 : decode cX11_position 66 = .ok (.iadd, 1) := by decide +kernel
theorem dX11_position_67 : decode cX11_position 67 = .ok (.laload, 1) := by decide +kernel
theorem dX11_position_68 : decode cX11_position 68 = .ok (.ladd, 1) := by decide +kernel
theorem dX11_position_69 : decode cX11_position 69 = .ok (.lstore_n 2, 1) := by decide +kernel
theorem dX11_position_70 : decode cX11_position 70 = .ok (.iinc 4 1, 3) := by decide +kernel
theorem dX11_position_73 : decode cX11_position 73 = .ok (.goto (-23), 3) := by decide +kernel
theorem dX11_position_76 : decode cX11_position 76 = .ok (.lload_n 2, 1) := by decide +kernel
theorem dX11_position_77 : decode cX11_position 77 = .ok (.lreturn, 1) := by decide +kernel
theorem dX11_about_0 : decode cX11_about 0 = .ok (.aload_n 0, 1) := by decide +kernel
theorem dX11_about_1 : decode cX11_about 1 = .ok (.iload_n 1, 1) := by decide +kernel
theorem dX11_about_2 : decode cX11_about 2 = .ok (.invokevirtual 173, 3) := by decide +kernel
theorem dX11_about_5 : decode cX11_about 5 = .ok (.ifCond .eq 15, 3) := by decide +kernel
theorem dX11_about_8 : decode cX11_about 8 = .ok (.iload_n 2, 1) := by decide +kernel
theorem dX11_about_9 : decode cX11_about 9 = .ok (.i2l, 1) := by decide +kernel
theorem dX11_about_10 : decode cX11_about 10 = .ok (.lconst 0, 1) := by decide +kernel
theorem dX11_about_11 : decode cX11_about 11 = .ok (.ldc2_w 210, 3) := by decide +kernel
theorem dX11_about_14 : decode cX11_about 14 = .ok (.invokestatic 169, 3) := by decide +kernel
theorem dX11_about_17 : decode cX11_about 17 = .ok (.ifCond .ne 5, 3) := by decide +kernel
theorem dX11_about_20 : decode cX11_about 20 = .ok (.iconst (-1), 1) := by decide +kernel
theorem dX11_about_21 : decode cX11_about 21 = .ok (.ireturn, 1) := by decide +kernel
theorem dX11_about_22 : decode cX11_about 22 = .ok (.iload_n 2, 1) := by decide +kernel
theorem dX11_about_23 : decode cX11_about 23 = .ok (.tableswitch 148 0 11 #[61, 68, 75, 82, 89, 96, 103, 111, 118, 125, 133, 141], 61) := by decide +kernel
theorem dX11_about_84 : decode cX11_about 84 = .ok (.aload_n 0, 1) := by decide +kernel
theorem dX11_about_85 : decode cX11_about 85 = .ok (.getfield 7, 3) := by decide +kernel
theorem dX11_about_88 : decode cX11_about 88 = .ok (.iload_n 1, 1) := by decide +kernel
theorem dX11_about_89 : decode cX11_about 89 = .ok (.iaload, 1) := by decide +kernel
theorem dX11_about_90 : decode cX11_about 90 = .ok (.ireturn, 1) := by decide +kernel
theorem dX11_about_91 : decode cX11_about 91 = .ok (.aload_n 0, 1) := by decide +kernel
theorem dX11_about_92 : decode cX11_about 92 = .ok (.getfield 13, 3) := by decide +kernel
theorem dX11_about_95 : decode cX11_about 95 = .ok (.iload_n 1, 1) := by decide +kernel
theorem dX11_about_96 : decode cX11_about 96 = .ok (.iaload, 1) := by decide +kernel
theorem dX11_about_97 : decode cX11_about 97 = .ok (.ireturn, 1) := by decide +kernel
theorem dX11_about_98 : decode cX11_about 98 = .ok (.aload_n 0, 1) := by decide +kernel
theorem dX11_about_99 : decode cX11_about 99 = .ok (.getfield 16, 3) := by decide +kernel
theorem dX11_about_102 : decode cX11_about 102 = .ok (.iload_n 1, 1) := by decide +kernel
theorem dX11_about_103 : decode cX11_about 103 = .ok (.iaload, 1) := by decide +kernel
theorem dX11_about_104 : decode cX11_about 104 = .ok (.ireturn, 1) := by decide +kernel
theorem dX11_about_105 : decode cX11_about 105 = .ok (.aload_n 0, 1) := by decide +kernel
theorem dX11_about_106 : decode cX11_about 106 = .ok (.getfield 19, 3) := by decide +kernel
theorem dX11_about_109 : decode cX11_about 109 = .ok (.iload_n 1, 1) := by decide +kernel
theorem dX11_about_110 : decode cX11_about 110 = .ok (.iaload, 1) := by decide +kernel
theorem dX11_about_111 : decode cX11_about 111 = .ok (.ireturn, 1) := by decide +kernel
theorem dX11_about_112 : decode cX11_about 112 = .ok (.aload_n 0, 1) := by decide +kernel
theorem dX11_about_113 : decode cX11_about 113 = .ok (.getfield 22, 3) := by decide +kernel
theorem dX11_about_116 : decode cX11_about 116 = .ok (.iload_n 1, 1) := by decide +kernel
theorem dX11_about_117 : decode cX11_about 117 = .ok (.iaload, 1) := by decide +kernel
theorem dX11_about_118 : decode cX11_about 118 = .ok (.ireturn, 1) := by decide +kernel
theorem dX11_about_119 : decode cX11_about 119 = .ok (.aload_n 0, 1) := by decide +kernel
theorem dX11_about_120 : decode cX11_about 120 = .ok (.getfield 25, 3) := by decide +kernel
theorem dX11_about_123 : decode cX11_about 123 = .ok (.iload_n 1, 1) := by decide +kernel
theorem dX11_about_124 : decode cX11_about 124 = .ok (.iaload, 1) := by decide +kernel
theorem dX11_about_125 : decode cX11_about 125 = .ok (.ireturn, 1) := by decide +kernel
theorem dX11_about_126 : decode cX11_about 126 = .ok (.aload_n 0, 1) := by decide +kernel
theorem dX11_about_127 : decode cX11_about 127 = .ok (.getfield 40, 3) := by decide +kernel
theorem dX11_about_130 : decode cX11_about 130 = .ok (.iload_n 1, 1) := by decide +kernel
theorem dX11_about_131 : decode cX11_about 131 = .ok (.laload, 1) := by decide +kernel
theorem dX11_about_132 : decode cX11_about 132 = .ok (.l2i, 1) := by decide +kernel
theorem dX11_about_133 : decode cX11_about 133 = .ok (.ireturn, 1) := by decide +kernel
theorem dX11_about_134 : decode cX11_about 134 = .ok (.aload_n 0, 1) := by decide +kernel
theorem dX11_about_135 : decode cX11_about 135 = .ok (.iload_n 1, 1) := by decide +kernel
theorem dX11_about_136 : decode cX11_about 136 = .ok (.invokevirtual 207, 3) := by decide +kernel
theorem dX11_about_139 : decode cX11_about 139 = .ok (.l2i, 1) := by decide +kernel
theorem dX11_about_140 : decode cX11_about 140 = .ok (.ireturn, 1) := by decide +kernel
theorem dX11_about_141 : decode cX11_about 141 = .ok (.aload_n 0, 1) := by decide +kernel
theorem dX11_about_142 : decode cX11_about 142 = .ok (.iload_n 1, 1) := by decide +kernel
theorem dX11_about_143 : decode cX11_about 143 = .ok (.invokevirtual 203, 3) := by decide +kernel
theorem dX11_about_146 : decode cX11_about 146 = .ok (.l2i, 1) := by decide +kernel
theorem dX11_about_147 : decode cX11_about 147 = .ok (.ireturn, 1) := by decide +kernel
theorem dX11_about_148 : decode cX11_about 148 = .ok (.aload_n 0, 1) := by decide +kernel
theorem dX11_about_149 : decode cX11_about 149 = .ok (.getfield 59, 3) := by decide +kernel
theorem dX11_about_152 : decode cX11_about 152 = .ok (.iload_n 1, 1) := by decide +kernel
theorem dX11_about_153 : decode cX11_about 153 = .ok (.laload, 1) := by decide +kernel
theorem dX11_about_154 : decode cX11_about 154 = .ok (.l2i, 1) := by decide +kernel
theorem dX11_about_155 : decode cX11_about 155 = .ok (.ireturn, 1) := by decide +kernel
theorem dX11_about_156 : decode cX11_about 156 = .ok (.aload_n 0, 1) := by decide +kernel
theorem dX11_about_157 : decode cX11_about 157 = .ok (.getfield 62, 3) := by decide +kernel
theorem dX11_about_160 : decode cX11_about 160 = .ok (.iload_n 1, 1) := by decide +kernel
theorem dX11_about_161 : decode cX11_about 161 = .ok (.laload, 1) := by decide +kernel
theorem dX11_about_162 : decode cX11_about 162 = .ok (.l2i, 1) := by decide +kernel
theorem dX11_about_163 : decode cX11_about 163 = .ok (.ireturn, 1) := by decide +kernel
theorem dX11_about_164 : decode cX11_about 164 = .ok (.aload_n 0, 1) := by decide +kernel
theorem dX11_about_165 : decode cX11_about 165 = .ok (.getfield 34, 3) := by decide +kernel
theorem dX11_about_168 : decode cX11_about 168 = .ok (.iload_n 1, 1) := by decide +kernel
theorem dX11_about_169 : decode cX11_about 169 = .ok (.iaload, 1) := by decide +kernel
theorem dX11_about_170 : decode cX11_about 170 = .ok (.ireturn, 1) := by decide +kernel
theorem dX11_about_171 : decode cX11_about 171 = .ok (.aload_n 0, 1) := by decide +kernel
theorem dX11_about_172 : decode cX11_about 172 = .ok (.getfield 56, 3) := by decide +kernel
theorem dX11_about_175 : decode cX11_about 175 = .ok (.iload_n 1, 1) := by decide +kernel
theorem dX11_about_176 : decode cX11_about 176 = .ok (.laload, 1) := by decide +kernel
theorem dX11_about_177 : decode cX11_about 177 = .ok (.l2i, 1) := by decide +kernel
theorem dX11_about_178 : decode cX11_about 178 = .ok (.ireturn, 1) := by decide +kernel
theorem dX11_place_0 : decode cX11_place 0 = .ok (.aload_n 0, 1) := by decide +kernel
theorem dX11_place_1 : decode cX11_place 1 = .ok (.iload_n 1, 1) := by decide +kernel
theorem dX11_place_2 : decode cX11_place 2 = .ok (.invokevirtual 173, 3) := by decide +kernel
theorem dX11_place_5 : decode cX11_place 5 = .ok (.ifCond .eq 11, 3) := by decide +kernel
theorem dX11_place_8 : decode cX11_place 8 = .ok (.aload_n 0, 1) := by decide +kernel
theorem dX11_place_9 : decode cX11_place 9 = .ok (.iload_n 1, 1) := by decide +kernel
theorem dX11_place_10 : decode cX11_place 10 = .ok (.invokevirtual 212, 3) := by decide +kernel
theorem dX11_place_13 : decode cX11_place 13 = .ok (.goto 6, 3) := by decide +kernel
theorem dX11_place_16 : decode cX11_place 16 = .ok (.ldc2_w 215, 3) := by decide +kernel
theorem dX11_place_19 : decode cX11_place 19 = .ok (.lreturn, 1) := by decide +kernel
theorem dX11_slot_0 : decode cX11_slot 0 = .ok (.aload_n 0, 1) := by decide +kernel
theorem dX11_slot_1 : decode cX11_slot 1 = .ok (.iload_n 1, 1) := by decide +kernel
theorem dX11_slot_2 : decode cX11_slot 2 = .ok (.invokevirtual 173, 3) := by decide +kernel
theorem dX11_slot_5 : decode cX11_slot 5 = .ok (.ifCond .eq 34, 3) := by decide +kernel
theorem dX11_slot_8 : decode cX11_slot 8 = .ok (.iload_n 2, 1) := by decide +kernel
theorem dX11_slot_9 : decode cX11_slot 9 = .ok (.i2l, 1) := by decide +kernel
theorem dX11_slot_10 : decode cX11_slot 10 = .ok (.lconst 1, 1) := by decide +kernel
theorem dX11_slot_11 : decode cX11_slot 11 = .ok (.aload_n 0, 1) := by decide +kernel
theorem dX11_slot_12 : decode cX11_slot 12 = .ok (.getfield 16, 3) := by decide +kernel
theorem dX11_slot_15 : decode cX11_slot 15 = .ok (.iload_n 1, 1) := by decide +kernel
theorem dX11_slot_16 : decode cX11_slot 16 = .ok (.iaload, 1) := by decide +kernel
theorem dX11_slot_17 : decode cX11_slot 17 = .ok (.i2l, 1) := by decide +kernel
theorem dX11_slot_18 : decode cX11_slot 18 = .ok (.invokestatic 169, 3) := by decide +kernel
theorem dX11_slot_21 : decode cX11_slot 21 = .ok (.ifCond .eq 18, 3) := by decide +kernel
theorem dX11_slot_24 : decode cX11_slot 24 = .ok (.aload_n 0, 1) := by decide +kernel
theorem dX11_slot_25 : decode cX11_slot 25 = .ok (.getfield 47, 3) := by decide +kernel
theorem dX11_slot_28 : decode cX11_slot 28 = .ok (.bipush 7, 2) := by decide +kernel
theorem dX11_slot_30 : decode cX11_slot 30 = .ok (.iload_n 1, 1) := by decide +kernel
theorem dX11_slot_31 : decode cX11_slot 31 = .ok (.imul, 1) := by decide +kernel
theorem dX11_slot_32 : decode cX11_slot 32 = .ok (.iload_n 2, 1) := by decide +kernel
theorem dX11_slot_33 : decode cX11_slot 33 = .ok (.iadd, 1) := by decide +kernel
theorem dX11_slot_34 : decode cX11_slot 34 = .ok (.laload, 1) := by decide +kernel
theorem dX11_slot_35 : decode cX11_slot 35 = .ok (.l2i, 1) := by decide +kernel
theorem dX11_slot_36 : decode cX11_slot 36 = .ok (.goto 4, 3) := by decide +kernel
theorem dX11_slot_39 : decode cX11_slot 39 = .ok (.iconst (-1), 1) := by decide +kernel
theorem dX11_slot_40 : decode cX11_slot 40 = .ok (.ireturn, 1) := by decide +kernel
theorem dX11_owed_0 : decode cX11_owed 0 = .ok (.aload_n 0, 1) := by decide +kernel
theorem dX11_owed_1 : decode cX11_owed 1 = .ok (.iload_n 1, 1) := by decide +kernel
theorem dX11_owed_2 : decode cX11_owed 2 = .ok (.invokevirtual 173, 3) := by decide +kernel
theorem dX11_owed_5 : decode cX11_owed 5 = .ok (.ifCond .eq 11, 3) := by decide +kernel
theorem dX11_owed_8 : decode cX11_owed 8 = .ok (.aload_n 0, 1) := by decide +kernel
theorem dX11_owed_9 : decode cX11_owed 9 = .ok (.iload_n 2, 1) := by decide +kernel
theorem dX11_owed_10 : decode cX11_owed 10 = .ok (.invokevirtual 173, 3) := by decide +kernel
theorem dX11_owed_13 : decode cX11_owed 13 = .ok (.ifCond .ne 5, 3) := by decide +kernel
theorem dX11_owed_16 : decode cX11_owed 16 = .ok (.iconst (-1), 1) := by decide +kernel
theorem dX11_owed_17 : decode cX11_owed 17 = .ok (.ireturn, 1) := by decide +kernel
theorem dX11_owed_18 : decode cX11_owed 18 = .ok (.aload_n 0, 1) := by decide +kernel
theorem dX11_owed_19 : decode cX11_owed 19 = .ok (.getfield 7, 3) := by decide +kernel
theorem dX11_owed_22 : decode cX11_owed 22 = .ok (.iload_n 1, 1) := by decide +kernel
theorem dX11_owed_23 : decode cX11_owed 23 = .ok (.iaload, 1) := by decide +kernel
theorem dX11_owed_24 : decode cX11_owed 24 = .ok (.iconst 3, 1) := by decide +kernel
theorem dX11_owed_25 : decode cX11_owed 25 = .ok (.if_icmp .ne 16, 3) := by decide +kernel
theorem dX11_owed_28 : decode cX11_owed 28 = .ok (.iload_n 2, 1) := by decide +kernel
theorem dX11_owed_29 : decode cX11_owed 29 = .ok (.iload_n 1, 1) := by decide +kernel
theorem dX11_owed_30 : decode cX11_owed 30 = .ok (.if_icmp .ne 7, 3) := by decide +kernel
theorem dX11_owed_33 : decode cX11_owed 33 = .ok (.iconst 1, 1) := by decide +kernel
theorem dX11_owed_34 : decode cX11_owed 34 = .ok (.goto 26, 3) := by decide +kernel
theorem dX11_owed_37 : decode cX11_owed 37 = .ok (.iconst 0, 1) := by decide +kernel
theorem dX11_owed_38 : decode cX11_owed 38 = .ok (.goto 22, 3) := by decide +kernel
theorem dX11_owed_41 : decode cX11_owed 41 = .ok (.iload_n 2, 1) := by decide +kernel
theorem dX11_owed_42 : decode cX11_owed 42 = .ok (.ifCond .eq 17, 3) := by decide +kernel
theorem dX11_owed_45 : decode cX11_owed 45 = .ok (.aload_n 0, 1) := by decide +kernel
theorem dX11_owed_46 : decode cX11_owed 46 = .ok (.getfield 13, 3) := by decide +kernel
theorem dX11_owed_49 : decode cX11_owed 49 = .ok (.iload_n 2, 1) := by decide +kernel
theorem dX11_owed_50 : decode cX11_owed 50 = .ok (.iaload, 1) := by decide +kernel
theorem dX11_owed_51 : decode cX11_owed 51 = .ok (.iload_n 1, 1) := by decide +kernel
theorem dX11_owed_52 : decode cX11_owed 52 = .ok (.if_icmp .ne 7, 3) := by decide +kernel
theorem dX11_owed_55 : decode cX11_owed 55 = .ok (.iconst 1, 1) := by decide +kernel
theorem dX11_owed_56 : decode cX11_owed 56 = .ok (.goto 4, 3) := by decide +kernel
theorem dX11_owed_59 : decode cX11_owed 59 = .ok (.iconst 0, 1) := by decide +kernel
theorem dX11_owed_60 : decode cX11_owed 60 = .ok (.istore_n 3, 1) := by decide +kernel
theorem dX11_owed_61 : decode cX11_owed 61 = .ok (.iload_n 3, 1) := by decide +kernel
theorem dX11_owed_62 : decode cX11_owed 62 = .ok (.ifCond .eq 18, 3) := by decide +kernel
theorem dX11_owed_65 : decode cX11_owed 65 = .ok (.aload_n 0, 1) := by decide +kernel
theorem dX11_owed_66 : decode cX11_owed 66 = .ok (.getfield 44, 3) := by decide +kernel
theorem dX11_owed_69 : decode cX11_owed 69 = .ok (.bipush 8, 2) := by decide +kernel
theorem dX11_owed_71 : decode cX11_owed 71 = .ok (.iload_n 1, 1) := by decide +kernel
theorem dX11_owed_72 : decode cX11_owed 72 = .ok (.imul, 1) := by decide +kernel
theorem dX11_owed_73 : decode cX11_owed 73 = .ok (.iload_n 2, 1) := by decide +kernel
theorem dX11_owed_74 : decode cX11_owed 74 = .ok (.iadd, 1) := by decide +kernel
theorem dX11_owed_75 : decode cX11_owed 75 = .ok (.laload, 1) := by decide +kernel
theorem dX11_owed_76 : decode cX11_owed 76 = .ok (.l2i, 1) := by decide +kernel
theorem dX11_owed_77 : decode cX11_owed 77 = .ok (.goto 4, 3) := by decide +kernel
theorem dX11_owed_80 : decode cX11_owed 80 = .ok (.iconst (-1), 1) := by decide +kernel
theorem dX11_owed_81 : decode cX11_owed 81 = .ok (.ireturn, 1) := by decide +kernel
theorem dX11_cost_0 : decode cX11_cost 0 = .ok (.aload_n 0, 1) := by decide +kernel
theorem dX11_cost_1 : decode cX11_cost 1 = .ok (.iload_n 1, 1) := by decide +kernel
theorem dX11_cost_2 : decode cX11_cost 2 = .ok (.invokevirtual 173, 3) := by decide +kernel
theorem dX11_cost_5 : decode cX11_cost 5 = .ok (.ifCond .eq 12, 3) := by decide +kernel
theorem dX11_cost_8 : decode cX11_cost 8 = .ok (.aload_n 0, 1) := by decide +kernel
theorem dX11_cost_9 : decode cX11_cost 9 = .ok (.getfield 53, 3) := by decide +kernel
theorem dX11_cost_12 : decode cX11_cost 12 = .ok (.iload_n 1, 1) := by decide +kernel
theorem dX11_cost_13 : decode cX11_cost 13 = .ok (.laload, 1) := by decide +kernel
theorem dX11_cost_14 : decode cX11_cost 14 = .ok (.goto 6, 3) := by decide +kernel
theorem dX11_cost_17 : decode cX11_cost 17 = .ok (.ldc2_w 215, 3) := by decide +kernel
theorem dX11_cost_20 : decode cX11_cost 20 = .ok (.lreturn, 1) := by decide +kernel
theorem dX11_kept_0 : decode cX11_kept 0 = .ok (.lconst 0, 1) := by decide +kernel
theorem dX11_kept_1 : decode cX11_kept 1 = .ok (.lstore_n 2, 1) := by decide +kernel
theorem dX11_kept_2 : decode cX11_kept 2 = .ok (.iload_n 1, 1) := by decide +kernel
theorem dX11_kept_3 : decode cX11_kept 3 = .ok (.tableswitch 107 0 4 #[33, 38, 43, 48, 78], 33) := by decide +kernel
theorem dX11_kept_36 : decode cX11_kept 36 = .ok (.aload_n 0, 1) := by decide +kernel
theorem dX11_kept_37 : decode cX11_kept 37 = .ok (.getfield 217, 3) := by decide +kernel
theorem dX11_kept_40 : decode cX11_kept 40 = .ok (.lreturn, 1) := by decide +kernel
theorem dX11_kept_41 : decode cX11_kept 41 = .ok (.aload_n 0, 1) := by decide +kernel
theorem dX11_kept_42 : decode cX11_kept 42 = .ok (.getfield 186, 3) := by decide +kernel
theorem dX11_kept_45 : decode cX11_kept 45 = .ok (.lreturn, 1) := by decide +kernel
theorem dX11_kept_46 : decode cX11_kept 46 = .ok (.aload_n 0, 1) := by decide +kernel
theorem dX11_kept_47 : decode cX11_kept 47 = .ok (.getfield 220, 3) := by decide +kernel
theorem dX11_kept_50 : decode cX11_kept 50 = .ok (.lreturn, 1) := by decide +kernel
theorem dX11_kept_51 : decode cX11_kept 51 = .ok (.iconst 0, 1) := by decide +kernel
theorem dX11_kept_52 : decode cX11_kept 52 = .ok (.istore 4, 2) := by decide +kernel
theorem dX11_kept_54 : decode cX11_kept 54 = .ok (.iload 4, 2) := by decide +kernel
theorem dX11_kept_56 : decode cX11_kept 56 = .ok (.aload_n 0, 1) := by decide +kernel
theorem dX11_kept_57 : decode cX11_kept 57 = .ok (.getfield 166, 3) := by decide +kernel
theorem dX11_kept_60 : decode cX11_kept 60 = .ok (.if_icmp .ge 19, 3) := by decide +kernel
theorem dX11_kept_63 : decode cX11_kept 63 = .ok (.lload_n 2, 1) := by decide +kernel
theorem dX11_kept_64 : decode cX11_kept 64 = .ok (.aload_n 0, 1) := by decide +kernel
theorem dX11_kept_65 : decode cX11_kept 65 = .ok (.getfield 40, 3) := by decide +kernel
theorem dX11_kept_68 : decode cX11_kept 68 = .ok (.iload 4, 2) := by decide +kernel
theorem dX11_kept_70 : decode cX11_kept 70 = .ok (.laload, 1) := by decide +kernel
theorem dX11_kept_71 : decode cX11_kept 71 = .ok (.ladd, 1) := by decide +kernel
theorem dX11_kept_72 : decode cX11_kept 72 = .ok (.lstore_n 2, 1) := by decide +kernel
theorem dX11_kept_73 : decode cX11_kept 73 = .ok (.iinc 4 1, 3) := by decide +kernel
theorem dX11_kept_76 : decode cX11_kept 76 = .ok (.goto (-22), 3) := by decide +kernel
theorem dX11_kept_79 : decode cX11_kept 79 = .ok (.lload_n 2, 1) := by decide +kernel
theorem dX11_kept_80 : decode cX11_kept 80 = .ok (.lreturn, 1) := by decide +kernel
theorem dX11_kept_81 : decode cX11_kept 81 = .ok (.iconst 0, 1) := by decide +kernel
theorem dX11_kept_82 : decode cX11_kept 82 = .ok (.istore 4, 2) := by decide +kernel
theorem dX11_kept_84 : decode cX11_kept 84 = .ok (.iload 4, 2) := by decide +kernel
theorem dX11_kept_86 : decode cX11_kept 86 = .ok (.aload_n 0, 1) := by decide +kernel
theorem dX11_kept_87 : decode cX11_kept 87 = .ok (.getfield 166, 3) := by decide +kernel
theorem dX11_kept_90 : decode cX11_kept 90 = .ok (.if_icmp .ge 18, 3) := by decide +kernel
theorem dX11_kept_93 : decode cX11_kept 93 = .ok (.lload_n 2, 1) := by decide +kernel
theorem dX11_kept_94 : decode cX11_kept 94 = .ok (.aload_n 0, 1) := by decide +kernel
theorem dX11_kept_95 : decode cX11_kept 95 = .ok (.iload 4, 2) := by decide +kernel
theorem dX11_kept_97 : decode cX11_kept 97 = .ok (.invokevirtual 203, 3) := by decide +kernel
theorem dX11_kept_100 : decode cX11_kept 100 = .ok (.ladd, 1) := by decide +kernel
theorem dX11_kept_101 : decode cX11_kept 101 = .ok (.lstore_n 2, 1) := by decide +kernel
theorem dX11_kept_102 : decode cX11_kept 102 = .ok (.iinc 4 1, 3) := by decide +kernel
theorem dX11_kept_105 : decode cX11_kept 105 = .ok (.goto (-21), 3) := by decide +kernel
theorem dX11_kept_108 : decode cX11_kept 108 = .ok (.lload_n 2, 1) := by decide +kernel
theorem dX11_kept_109 : decode cX11_kept 109 = .ok (.lreturn, 1) := by decide +kernel
theorem dX11_kept_110 : decode cX11_kept 110 = .ok (.ldc2_w 215, 3) := by decide +kernel
theorem dX11_kept_113 : decode cX11_kept 113 = .ok (.lreturn, 1) := by decide +kernel
theorem dX11_demand_0 : decode cX11_demand 0 = .ok (.aload_n 0, 1) := by decide +kernel
theorem dX11_demand_1 : decode cX11_demand 1 = .ok (.iload_n 1, 1) := by decide +kernel
theorem dX11_demand_2 : decode cX11_demand 2 = .ok (.invokevirtual 223, 3) := by decide +kernel
theorem dX11_demand_5 : decode cX11_demand 5 = .ok (.ifCond .ne 5, 3) := by decide +kernel
theorem dX11_demand_8 : decode cX11_demand 8 = .ok (.iconst (-1), 1) := by decide +kernel
theorem dX11_demand_9 : decode cX11_demand 9 = .ok (.ireturn, 1) := by decide +kernel
theorem dX11_demand_10 : decode cX11_demand 10 = .ok (.iload_n 2, 1) := by decide +kernel
theorem dX11_demand_11 : decode cX11_demand 11 = .ok (.i2l, 1) := by decide +kernel
theorem dX11_demand_12 : decode cX11_demand 12 = .ok (.lconst 0, 1) := by decide +kernel
theorem dX11_demand_13 : decode cX11_demand 13 = .ok (.ldc2_w 226, 3) := by decide +kernel
theorem dX11_demand_16 : decode cX11_demand 16 = .ok (.invokestatic 169, 3) := by decide +kernel
theorem dX11_demand_19 : decode cX11_demand 19 = .ok (.ifCond .ne 6, 3) := by decide +kernel
theorem dX11_demand_22 : decode cX11_demand 22 = .ok (.bipush (-2), 2) := by decide +kernel
theorem dX11_demand_24 : decode cX11_demand 24 = .ok (.ireturn, 1) := by decide +kernel
theorem dX11_demand_25 : decode cX11_demand 25 = .ok (.aload_n 0, 1) := by decide +kernel
theorem dX11_demand_26 : decode cX11_demand 26 = .ok (.getfield 37, 3) := by decide +kernel
theorem dX11_demand_29 : decode cX11_demand 29 = .ok (.iload_n 1, 1) := by decide +kernel
theorem dX11_demand_30 : decode cX11_demand 30 = .ok (.iaload, 1) := by decide +kernel
theorem dX11_demand_31 : decode cX11_demand 31 = .ok (.istore_n 3, 1) := by decide +kernel
theorem dX11_demand_32 : decode cX11_demand 32 = .ok (.aload_n 0, 1) := by decide +kernel
theorem dX11_demand_33 : decode cX11_demand 33 = .ok (.getfield 37, 3) := by decide +kernel
theorem dX11_demand_36 : decode cX11_demand 36 = .ok (.iload_n 1, 1) := by decide +kernel
theorem dX11_demand_37 : decode cX11_demand 37 = .ok (.iload_n 2, 1) := by decide +kernel
theorem dX11_demand_38 : decode cX11_demand 38 = .ok (.iastore, 1) := by decide +kernel
theorem dX11_demand_39 : decode cX11_demand 39 = .ok (.iload_n 3, 1) := by decide +kernel
theorem dX11_demand_40 : decode cX11_demand 40 = .ok (.ireturn, 1) := by decide +kernel
theorem dX11_shares_0 : decode cX11_shares 0 = .ok (.lconst 0, 1) := by decide +kernel
theorem dX11_shares_1 : decode cX11_shares 1 = .ok (.lstore 5, 2) := by decide +kernel
theorem dX11_shares_3 : decode cX11_shares 3 = .ok (.iconst 0, 1) := by decide +kernel
theorem dX11_shares_4 : decode cX11_shares 4 = .ok (.istore 7, 2) := by decide +kernel
theorem dX11_shares_6 : decode cX11_shares 6 = .ok (.iload 7, 2) := by decide +kernel
theorem dX11_shares_8 : decode cX11_shares 8 = .ok (.iload 4, 2) := by decide +kernel
theorem dX11_shares_10 : decode cX11_shares 10 = .ok (.if_icmp .ge 35, 3) := by decide +kernel
theorem dX11_shares_13 : decode cX11_shares 13 = .ok (.lload 5, 2) := by decide +kernel
theorem dX11_shares_15 : decode cX11_shares 15 = .ok (.aload_n 0, 1) := by decide +kernel
theorem dX11_shares_16 : decode cX11_shares 16 = .ok (.getfield 71, 3) := by decide +kernel
theorem dX11_shares_19 : decode cX11_shares 19 = .ok (.iload 7, 2) := by decide +kernel
theorem dX11_shares_21 : decode cX11_shares 21 = .ok (.laload, 1) := by decide +kernel
theorem dX11_shares_22 : decode cX11_shares 22 = .ok (.ladd, 1) := by decide +kernel
theorem dX11_shares_23 : decode cX11_shares 23 = .ok (.lstore 5, 2) := by decide +kernel
theorem dX11_shares_25 : decode cX11_shares 25 = .ok (.aload_n 0, 1) := by decide +kernel
theorem dX11_shares_26 : decode cX11_shares 26 = .ok (.getfield 74, 3) := by decide +kernel
theorem dX11_shares_29 : decode cX11_shares 29 = .ok (.iload 7, 2) := by decide +kernel
theorem dX11_shares_31 : decode cX11_shares 31 = .ok (.aload_n 0, 1) := by decide +kernel
theorem dX11_shares_32 : decode cX11_shares 32 = .ok (.getfield 71, 3) := by decide +kernel
theorem dX11_shares_35 : decode cX11_shares 35 = .ok (.iload 7, 2) := by decide +kernel
theorem dX11_shares_37 : decode cX11_shares 37 = .ok (.laload, 1) := by decide +kernel
theorem dX11_shares_38 : decode cX11_shares 38 = .ok (.lastore, 1) := by decide +kernel
theorem dX11_shares_39 : decode cX11_shares 39 = .ok (.iinc 7 1, 3) := by decide +kernel
theorem dX11_shares_42 : decode cX11_shares 42 = .ok (.goto (-36), 3) := by decide +kernel
theorem dX11_shares_45 : decode cX11_shares 45 = .ok (.lload_n 2, 1) := by decide +kernel
theorem dX11_shares_46 : decode cX11_shares 46 = .ok (.lload 5, 2) := by decide +kernel
theorem dX11_shares_48 : decode cX11_shares 48 = .ok (.lcmp, 1) := by decide +kernel
theorem dX11_shares_49 : decode cX11_shares 49 = .ok (.ifCond .lt 4, 3) := by decide +kernel
theorem dX11_shares_52 : decode cX11_shares 52 = .ok (.return_, 1) := by decide +kernel
theorem dX11_shares_53 : decode cX11_shares 53 = .ok (.lload_n 2, 1) := by decide +kernel
theorem dX11_shares_54 : decode cX11_shares 54 = .ok (.lstore 7, 2) := by decide +kernel
theorem dX11_shares_56 : decode cX11_shares 56 = .ok (.iconst 0, 1) := by decide +kernel
theorem dX11_shares_57 : decode cX11_shares 57 = .ok (.istore 9, 2) := by decide +kernel
theorem dX11_shares_59 : decode cX11_shares 59 = .ok (.iload 9, 2) := by decide +kernel
theorem dX11_shares_61 : decode cX11_shares 61 = .ok (.iload 4, 2) := by decide +kernel
theorem dX11_shares_63 : decode cX11_shares 63 = .ok (.if_icmp .ge 81, 3) := by decide +kernel
theorem dX11_shares_66 : decode cX11_shares 66 = .ok (.aload_n 0, 1) := by decide +kernel
theorem dX11_shares_67 : decode cX11_shares 67 = .ok (.getfield 74, 3) := by decide +kernel
theorem dX11_shares_70 : decode cX11_shares 70 = .ok (.iload 9, 2) := by decide +kernel
theorem dX11_shares_72 : decode cX11_shares 72 = .ok (.iload_n 1, 1) := by decide +kernel
theorem dX11_shares_73 : decode cX11_shares 73 = .ok (.ifCond .ne 31, 3) := by decide +kernel
theorem dX11_shares_76 : decode cX11_shares 76 = .ok (.aload_n 0, 1) := by decide +kernel
theorem dX11_shares_77 : decode cX11_shares 77 = .ok (.getfield 71, 3) := by decide +kernel
theorem dX11_shares_80 : decode cX11_shares 80 = .ok (.iload 9, 2) := by decide +kernel
theorem dX11_shares_82 : decode cX11_shares 82 = .ok (.laload, 1) := by decide +kernel
theorem dX11_shares_83 : decode cX11_shares 83 = .ok (.lload 7, 2) := by decide +kernel
theorem dX11_shares_85 : decode cX11_shares 85 = .ok (.lcmp, 1) := by decide +kernel
theorem dX11_shares_86 : decode cX11_shares 86 = .ok (.ifCond .ge 13, 3) := by decide +kernel
theorem dX11_shares_89 : decode cX11_shares 89 = .ok (.aload_n 0, 1) := by decide +kernel
theorem dX11_shares_90 : decode cX11_shares 90 = .ok (.getfield 71, 3) := by decide +kernel
theorem dX11_shares_93 : decode cX11_shares 93 = .ok (.iload 9, 2) := by decide +kernel
theorem dX11_shares_95 : decode cX11_shares 95 = .ok (.laload, 1) := by decide +kernel
theorem dX11_shares_96 : decode cX11_shares 96 = .ok (.goto 29, 3) := by decide +kernel
theorem dX11_shares_99 : decode cX11_shares 99 = .ok (.lload 7, 2) := by decide +kernel
theorem dX11_shares_101 : decode cX11_shares 101 = .ok (.goto 24, 3) := by decide +kernel
theorem dX11_shares_104 : decode cX11_shares 104 = .ok (.iload_n 1, 1) := by decide +kernel
theorem dX11_shares_105 : decode cX11_shares 105 = .ok (.iconst 1, 1) := by decide +kernel
theorem dX11_shares_106 : decode cX11_shares 106 = .ok (.if_icmp .ne 18, 3) := by decide +kernel
theorem dX11_shares_109 : decode cX11_shares 109 = .ok (.lload_n 2, 1) := by decide +kernel
theorem dX11_shares_110 : decode cX11_shares 110 = .ok (.aload_n 0, 1) := by decide +kernel
theorem dX11_shares_111 : decode cX11_shares 111 = .ok (.getfield 71, 3) := by decide +kernel
theorem dX11_shares_114 : decode cX11_shares 114 = .ok (.iload 9, 2) := by decide +kernel
theorem dX11_shares_116 : decode cX11_shares 116 = .ok (.laload, 1) := by decide +kernel
theorem dX11_shares_117 : decode cX11_shares 117 = .ok (.lmul, 1) := by decide +kernel
theorem dX11_shares_118 : decode cX11_shares 118 = .ok (.lload 5, 2) := by decide +kernel
theorem dX11_shares_120 : decode cX11_shares 120 = .ok (.ldiv, 1) := by decide +kernel
theorem dX11_shares_121 : decode cX11_shares 121 = .ok (.goto 4, 3) := by decide +kernel
theorem dX11_shares_124 : decode cX11_shares 124 = .ok (.lconst 0, 1) := by decide +kernel
theorem dX11_shares_125 : decode cX11_shares 125 = .ok (.lastore, 1) := by decide +kernel
theorem dX11_shares_126 : decode cX11_shares 126 = .ok (.lload 7, 2) := by decide +kernel
theorem dX11_shares_128 : decode cX11_shares 128 = .ok (.aload_n 0, 1) := by decide +kernel
theorem dX11_shares_129 : decode cX11_shares 129 = .ok (.getfield 74, 3) := by decide +kernel
theorem dX11_shares_132 : decode cX11_shares 132 = .ok (.iload 9, 2) := by decide +kernel
theorem dX11_shares_134 : decode cX11_shares 134 = .ok (.laload, 1) := by decide +kernel
theorem dX11_shares_135 : decode cX11_shares 135 = .ok (.lsub, 1) := by decide +kernel
theorem dX11_shares_136 : decode cX11_shares 136 = .ok (.lstore 7, 2) := by decide +kernel
theorem dX11_shares_138 : decode cX11_shares 138 = .ok (.iinc 9 1, 3) := by decide +kernel
theorem dX11_shares_141 : decode cX11_shares 141 = .ok (.goto (-82), 3) := by decide +kernel
theorem dX11_shares_144 : decode cX11_shares 144 = .ok (.iload_n 1, 1) := by decide +kernel
theorem dX11_shares_145 : decode cX11_shares 145 = .ok (.ifCond .eq 7, 3) := by decide +kernel
theorem dX11_shares_148 : decode cX11_shares 148 = .ok (.iconst 1, 1) := by decide +kernel
theorem dX11_shares_149 : decode cX11_shares 149 = .ok (.goto 4, 3) := by decide +kernel
theorem dX11_shares_152 : decode cX11_shares 152 = .ok (.iconst 0, 1) := by decide +kernel
theorem dX11_shares_153 : decode cX11_shares 153 = .ok (.istore 9, 2) := by decide +kernel
theorem dX11_shares_155 : decode cX11_shares 155 = .ok (.iload 9, 2) := by decide +kernel
theorem dX11_shares_157 : decode cX11_shares 157 = .ok (.ifCond .eq 83, 3) := by decide +kernel
theorem dX11_shares_160 : decode cX11_shares 160 = .ok (.lload 7, 2) := by decide +kernel
theorem dX11_shares_162 : decode cX11_shares 162 = .ok (.lconst 0, 1) := by decide +kernel
theorem dX11_shares_163 : decode cX11_shares 163 = .ok (.lcmp, 1) := by decide +kernel
theorem dX11_shares_164 : decode cX11_shares 164 = .ok (.ifCond .le 76, 3) := by decide +kernel
theorem dX11_shares_167 : decode cX11_shares 167 = .ok (.iconst 0, 1) := by decide +kernel
theorem dX11_shares_168 : decode cX11_shares 168 = .ok (.istore 10, 2) := by decide +kernel
theorem dX11_shares_170 : decode cX11_shares 170 = .ok (.iload 10, 2) := by decide +kernel
theorem dX11_shares_172 : decode cX11_shares 172 = .ok (.iload 4, 2) := by decide +kernel
theorem dX11_shares_174 : decode cX11_shares 174 = .ok (.if_icmp .ge 51, 3) := by decide +kernel
theorem dX11_shares_177 : decode cX11_shares 177 = .ok (.lload 7, 2) := by decide +kernel
theorem dX11_shares_179 : decode cX11_shares 179 = .ok (.lconst 0, 1) := by decide +kernel
theorem dX11_shares_180 : decode cX11_shares 180 = .ok (.lcmp, 1) := by decide +kernel
theorem dX11_shares_181 : decode cX11_shares 181 = .ok (.ifCond .le 44, 3) := by decide +kernel
theorem dX11_shares_184 : decode cX11_shares 184 = .ok (.aload_n 0, 1) := by decide +kernel
theorem dX11_shares_185 : decode cX11_shares 185 = .ok (.getfield 74, 3) := by decide +kernel
theorem dX11_shares_188 : decode cX11_shares 188 = .ok (.iload 10, 2) := by decide +kernel
theorem dX11_shares_190 : decode cX11_shares 190 = .ok (.laload, 1) := by decide +kernel
theorem dX11_shares_191 : decode cX11_shares 191 = .ok (.aload_n 0, 1) := by decide +kernel
theorem dX11_shares_192 : decode cX11_shares 192 = .ok (.getfield 71, 3) := by decide +kernel
theorem dX11_shares_195 : decode cX11_shares 195 = .ok (.iload 10, 2) := by decide +kernel
theorem dX11_shares_197 : decode cX11_shares 197 = .ok (.laload, 1) := by decide +kernel
theorem dX11_shares_198 : decode cX11_shares 198 = .ok (.lcmp, 1) := by decide +kernel
theorem dX11_shares_199 : decode cX11_shares 199 = .ok (.ifCond .ge 20, 3) := by decide +kernel
theorem dX11_shares_202 : decode cX11_shares 202 = .ok (.aload_n 0, 1) := by decide +kernel
theorem dX11_shares_203 : decode cX11_shares 203 = .ok (.getfield 74, 3) := by decide +kernel
theorem dX11_shares_206 : decode cX11_shares 206 = .ok (.iload 10, 2) := by decide +kernel
theorem dX11_shares_208 : decode cX11_shares 208 = .ok (.dup2, 1) := by decide +kernel
theorem dX11_shares_209 : decode cX11_shares 209 = .ok (.laload, 1) := by decide +kernel
theorem dX11_shares_210 : decode cX11_shares 210 = .ok (.lconst 1, 1) := by decide +kernel
theorem dX11_shares_211 : decode cX11_shares 211 = .ok (.ladd, 1) := by decide +kernel
theorem dX11_shares_212 : decode cX11_shares 212 = .ok (.lastore, 1) := by decide +kernel
theorem dX11_shares_213 : decode cX11_shares 213 = .ok (.lload 7, 2) := by decide +kernel
theorem dX11_shares_215 : decode cX11_shares 215 = .ok (.lconst 1, 1) := by decide +kernel
theorem dX11_shares_216 : decode cX11_shares 216 = .ok (.lsub, 1) := by decide +kernel
theorem dX11_shares_217 : decode cX11_shares 217 = .ok (.lstore 7, 2) := by decide +kernel
theorem dX11_shares_219 : decode cX11_shares 219 = .ok (.iinc 10 1, 3) := by decide +kernel
theorem dX11_shares_222 : decode cX11_shares 222 = .ok (.goto (-52), 3) := by decide +kernel
theorem dX11_shares_225 : decode cX11_shares 225 = .ok (.iload_n 1, 1) := by decide +kernel
theorem dX11_shares_226 : decode cX11_shares 226 = .ok (.iconst 2, 1) := by decide +kernel
theorem dX11_shares_227 : decode cX11_shares 227 = .ok (.if_icmp .ne 7, 3) := by decide +kernel
theorem dX11_shares_230 : decode cX11_shares 230 = .ok (.iconst 1, 1) := by decide +kernel
theorem dX11_shares_231 : decode cX11_shares 231 = .ok (.goto 4, 3) := by decide +kernel
theorem dX11_shares_234 : decode cX11_shares 234 = .ok (.iconst 0, 1) := by decide +kernel
theorem dX11_shares_235 : decode cX11_shares 235 = .ok (.istore 9, 2) := by decide +kernel
theorem dX11_shares_237 : decode cX11_shares 237 = .ok (.goto (-82), 3) := by decide +kernel
theorem dX11_shares_240 : decode cX11_shares 240 = .ok (.return_, 1) := by decide +kernel
theorem dX11_goesBy_0 : decode cX11_goesBy 0 = .ok (.lconst 0, 1) := by decide +kernel
theorem dX11_goesBy_1 : decode cX11_goesBy 1 = .ok (.lstore_n 1, 1) := by decide +kernel
theorem dX11_goesBy_2 : decode cX11_goesBy 2 = .ok (.iconst 0, 1) := by decide +kernel
theorem dX11_goesBy_3 : decode cX11_goesBy 3 = .ok (.istore_n 3, 1) := by decide +kernel
theorem dX11_goesBy_4 : decode cX11_goesBy 4 = .ok (.iload_n 3, 1) := by decide +kernel
theorem dX11_goesBy_5 : decode cX11_goesBy 5 = .ok (.aload_n 0, 1) := by decide +kernel
theorem dX11_goesBy_6 : decode cX11_goesBy 6 = .ok (.getfield 166, 3) := by decide +kernel
theorem dX11_goesBy_9 : decode cX11_goesBy 9 = .ok (.if_icmp .ge 91, 3) := by decide +kernel
theorem dX11_goesBy_12 : decode cX11_goesBy 12 = .ok (.aload_n 0, 1) := by decide +kernel
theorem dX11_goesBy_13 : decode cX11_goesBy 13 = .ok (.getfield 40, 3) := by decide +kernel
theorem dX11_goesBy_16 : decode cX11_goesBy 16 = .ok (.iload_n 3, 1) := by decide +kernel
theorem dX11_goesBy_17 : decode cX11_goesBy 17 = .ok (.dup2, 1) := by decide +kernel
theorem dX11_goesBy_18 : decode cX11_goesBy 18 = .ok (.laload, 1) := by decide +kernel
theorem dX11_goesBy_19 : decode cX11_goesBy 19 = .ok (.aload_n 0, 1) := by decide +kernel
theorem dX11_goesBy_20 : decode cX11_goesBy 20 = .ok (.getfield 47, 3) := by decide +kernel
theorem dX11_goesBy_23 : decode cX11_goesBy 23 = .ok (.bipush 7, 2) := by decide +kernel
theorem dX11_goesBy_25 : decode cX11_goesBy 25 = .ok (.iload_n 3, 1) := by decide +kernel
theorem dX11_goesBy_26 : decode cX11_goesBy 26 = .ok (.imul, 1) := by decide +kernel
theorem dX11_goesBy_27 : decode cX11_goesBy 27 = .ok (.iconst 1, 1) := by decide +kernel
theorem dX11_goesBy_28 : decode cX11_goesBy 28 = .ok (.iadd, 1) := by decide +kernel
theorem dX11_goesBy_29 : decode cX11_goesBy 29 = .ok (.laload, 1) := by decide +kernel
theorem dX11_goesBy_30 : decode cX11_goesBy 30 = .ok (.ladd, 1) := by decide +kernel
theorem dX11_goesBy_31 : decode cX11_goesBy 31 = .ok (.lastore, 1) := by decide +kernel
theorem dX11_goesBy_32 : decode cX11_goesBy 32 = .ok (.iconst 1, 1) := by decide +kernel
theorem dX11_goesBy_33 : decode cX11_goesBy 33 = .ok (.istore 4, 2) := by decide +kernel
theorem dX11_goesBy_35 : decode cX11_goesBy 35 = .ok (.iload 4, 2) := by decide +kernel
theorem dX11_goesBy_37 : decode cX11_goesBy 37 = .ok (.bipush 6, 2) := by decide +kernel
theorem dX11_goesBy_39 : decode cX11_goesBy 39 = .ok (.if_icmp .ge 35, 3) := by decide +kernel
theorem dX11_goesBy_42 : decode cX11_goesBy 42 = .ok (.aload_n 0, 1) := by decide +kernel
theorem dX11_goesBy_43 : decode cX11_goesBy 43 = .ok (.getfield 47, 3) := by decide +kernel
theorem dX11_goesBy_46 : decode cX11_goesBy 46 = .ok (.bipush 7, 2) := by decide +kernel
theorem dX11_goesBy_48 : decode cX11_goesBy 48 = .ok (.iload_n 3, 1) := by decide +kernel
theorem dX11_goesBy_49 : decode cX11_goesBy 49 = .ok (.imul, 1) := by decide +kernel
theorem dX11_goesBy_50 : decode cX11_goesBy 50 = .ok (.iload 4, 2) := by decide +kernel
theorem dX11_goesBy_52 : decode cX11_goesBy 52 = .ok (.iadd, 1) := by decide +kernel
theorem dX11_goesBy_53 : decode cX11_goesBy 53 = .ok (.aload_n 0, 1) := by decide +kernel
theorem dX11_goesBy_54 : decode cX11_goesBy 54 = .ok (.getfield 47, 3) := by decide +kernel
theorem dX11_goesBy_57 : decode cX11_goesBy 57 = .ok (.bipush 7, 2) := by decide +kernel
theorem dX11_goesBy_59 : decode cX11_goesBy 59 = .ok (.iload_n 3, 1) := by decide +kernel
theorem dX11_goesBy_60 : decode cX11_goesBy 60 = .ok (.imul, 1) := by decide +kernel
theorem dX11_goesBy_61 : decode cX11_goesBy 61 = .ok (.iload 4, 2) := by decide +kernel
theorem dX11_goesBy_63 : decode cX11_goesBy 63 = .ok (.iadd, 1) := by decide +kernel
theorem dX11_goesBy_64 : decode cX11_goesBy 64 = .ok (.iconst 1, 1) := by decide +kernel
theorem dX11_goesBy_65 : decode cX11_goesBy 65 = .ok (.iadd, 1) := by decide +kernel
theorem dX11_goesBy_66 : decode cX11_goesBy 66 = .ok (.laload, 1) := by decide +kernel
theorem dX11_goesBy_67 : decode cX11_goesBy 67 = .ok (.lastore, 1) := by decide +kernel
theorem dX11_goesBy_68 : decode cX11_goesBy 68 = .ok (.iinc 4 1, 3) := by decide +kernel
theorem dX11_goesBy_71 : decode cX11_goesBy 71 = .ok (.goto (-36), 3) := by decide +kernel
theorem dX11_goesBy_74 : decode cX11_goesBy 74 = .ok (.aload_n 0, 1) := by decide +kernel
theorem dX11_goesBy_75 : decode cX11_goesBy 75 = .ok (.getfield 47, 3) := by decide +kernel
theorem dX11_goesBy_78 : decode cX11_goesBy 78 = .ok (.bipush 7, 2) := by decide +kernel
theorem dX11_goesBy_80 : decode cX11_goesBy 80 = .ok (.iload_n 3, 1) := by decide +kernel
theorem dX11_goesBy_81 : decode cX11_goesBy 81 = .ok (.imul, 1) := by decide +kernel
theorem dX11_goesBy_82 : decode cX11_goesBy 82 = .ok (.bipush 6, 2) := by decide +kernel
theorem dX11_goesBy_84 : decode cX11_goesBy 84 = .ok (.iadd, 1) := by decide +kernel
theorem dX11_goesBy_85 : decode cX11_goesBy 85 = .ok (.lconst 0, 1) := by decide +kernel
theorem dX11_goesBy_86 : decode cX11_goesBy 86 = .ok (.lastore, 1) := by decide +kernel
theorem dX11_goesBy_87 : decode cX11_goesBy 87 = .ok (.aload_n 0, 1) := by decide +kernel
theorem dX11_goesBy_88 : decode cX11_goesBy 88 = .ok (.getfield 59, 3) := by decide +kernel
theorem dX11_goesBy_91 : decode cX11_goesBy 91 = .ok (.iload_n 3, 1) := by decide +kernel
theorem dX11_goesBy_92 : decode cX11_goesBy 92 = .ok (.lconst 0, 1) := by decide +kernel
theorem dX11_goesBy_93 : decode cX11_goesBy 93 = .ok (.lastore, 1) := by decide +kernel
theorem dX11_goesBy_94 : decode cX11_goesBy 94 = .ok (.iinc 3 1, 3) := by decide +kernel
theorem dX11_goesBy_97 : decode cX11_goesBy 97 = .ok (.goto (-93), 3) := by decide +kernel
theorem dX11_goesBy_100 : decode cX11_goesBy 100 = .ok (.iconst 0, 1) := by decide +kernel
theorem dX11_goesBy_101 : decode cX11_goesBy 101 = .ok (.istore_n 3, 1) := by decide +kernel
theorem dX11_goesBy_102 : decode cX11_goesBy 102 = .ok (.iload_n 3, 1) := by decide +kernel
theorem dX11_goesBy_103 : decode cX11_goesBy 103 = .ok (.aload_n 0, 1) := by decide +kernel
theorem dX11_goesBy_104 : decode cX11_goesBy 104 = .ok (.getfield 166, 3) := by decide +kernel
theorem dX11_goesBy_107 : decode cX11_goesBy 107 = .ok (.if_icmp .ge 162, 3) := by decide +kernel
theorem dX11_goesBy_110 : decode cX11_goesBy 110 = .ok (.aload_n 0, 1) := by decide +kernel
theorem dX11_goesBy_111 : decode cX11_goesBy 111 = .ok (.getfield 7, 3) := by decide +kernel
theorem dX11_goesBy_114 : decode cX11_goesBy 114 = .ok (.iload_n 3, 1) := by decide +kernel
theorem dX11_goesBy_115 : decode cX11_goesBy 115 = .ok (.iaload, 1) := by decide +kernel
theorem dX11_goesBy_116 : decode cX11_goesBy 116 = .ok (.iconst 3, 1) := by decide +kernel
theorem dX11_goesBy_117 : decode cX11_goesBy 117 = .ok (.if_icmp .ne 38, 3) := by decide +kernel
theorem dX11_goesBy_120 : decode cX11_goesBy 120 = .ok (.aload_n 0, 1) := by decide +kernel
theorem dX11_goesBy_121 : decode cX11_goesBy 121 = .ok (.getfield 44, 3) := by decide +kernel
theorem dX11_goesBy_124 : decode cX11_goesBy 124 = .ok (.bipush 9, 2) := by decide +kernel
theorem dX11_goesBy_126 : decode cX11_goesBy 126 = .ok (.iload_n 3, 1) := by decide +kernel
theorem dX11_goesBy_127 : decode cX11_goesBy 127 = .ok (.imul, 1) := by decide +kernel
theorem dX11_goesBy_128 : decode cX11_goesBy 128 = .ok (.dup2, 1) := by decide +kernel
theorem dX11_goesBy_129 : decode cX11_goesBy 129 = .ok (.laload, 1) := by decide +kernel
theorem dX11_goesBy_130 : decode cX11_goesBy 130 = .ok (.aload_n 0, 1) := by decide +kernel
theorem dX11_goesBy_131 : decode cX11_goesBy 131 = .ok (.getfield 37, 3) := by decide +kernel
theorem dX11_goesBy_134 : decode cX11_goesBy 134 = .ok (.iload_n 3, 1) := by decide +kernel
theorem dX11_goesBy_135 : decode cX11_goesBy 135 = .ok (.iaload, 1) := by decide +kernel
theorem dX11_goesBy_136 : decode cX11_goesBy 136 = .ok (.i2l, 1) := by decide +kernel
theorem dX11_goesBy_137 : decode cX11_goesBy 137 = .ok (.ladd, 1) := by decide +kernel
theorem dX11_goesBy_138 : decode cX11_goesBy 138 = .ok (.lastore, 1) := by decide +kernel
theorem dX11_goesBy_139 : decode cX11_goesBy 139 = .ok (.aload_n 0, 1) := by decide +kernel
theorem dX11_goesBy_140 : decode cX11_goesBy 140 = .ok (.getfield 59, 3) := by decide +kernel
theorem dX11_goesBy_143 : decode cX11_goesBy 143 = .ok (.iload_n 3, 1) := by decide +kernel
theorem dX11_goesBy_144 : decode cX11_goesBy 144 = .ok (.dup2, 1) := by decide +kernel
theorem dX11_goesBy_145 : decode cX11_goesBy 145 = .ok (.laload, 1) := by decide +kernel
theorem dX11_goesBy_146 : decode cX11_goesBy 146 = .ok (.aload_n 0, 1) := by decide +kernel
theorem dX11_goesBy_147 : decode cX11_goesBy 147 = .ok (.getfield 37, 3) := by decide +kernel
theorem dX11_goesBy_150 : decode cX11_goesBy 150 = .ok (.iload_n 3, 1) := by decide +kernel
theorem dX11_goesBy_151 : decode cX11_goesBy 151 = .ok (.iaload, 1) := by decide +kernel
theorem dX11_goesBy_152 : decode cX11_goesBy 152 = .ok (.i2l, 1) := by decide +kernel
theorem dX11_goesBy_153 : decode cX11_goesBy 153 = .ok (.ladd, 1) := by decide +kernel
theorem dX11_goesBy_154 : decode cX11_goesBy 154 = .ok (.lastore, 1) := by decide +kernel
theorem dX11_goesBy_155 : decode cX11_goesBy 155 = .ok (.aload_n 0, 1) := by decide +kernel
theorem dX11_goesBy_156 : decode cX11_goesBy 156 = .ok (.getfield 7, 3) := by decide +kernel
theorem dX11_goesBy_159 : decode cX11_goesBy 159 = .ok (.iload_n 3, 1) := by decide +kernel
theorem dX11_goesBy_160 : decode cX11_goesBy 160 = .ok (.iaload, 1) := by decide +kernel
theorem dX11_goesBy_161 : decode cX11_goesBy 161 = .ok (.ifCond .eq 102, 3) := by decide +kernel
theorem dX11_goesBy_164 : decode cX11_goesBy 164 = .ok (.aload_n 0, 1) := by decide +kernel
theorem dX11_goesBy_165 : decode cX11_goesBy 165 = .ok (.getfield 44, 3) := by decide +kernel
theorem dX11_goesBy_168 : decode cX11_goesBy 168 = .ok (.bipush 8, 2) := by decide +kernel
theorem dX11_goesBy_170 : decode cX11_goesBy 170 = .ok (.aload_n 0, 1) := by decide +kernel
theorem dX11_goesBy_171 : decode cX11_goesBy 171 = .ok (.getfield 13, 3) := by decide +kernel
theorem dX11_goesBy_174 : decode cX11_goesBy 174 = .ok (.iload_n 3, 1) := by decide +kernel
theorem dX11_goesBy_175 : decode cX11_goesBy 175 = .ok (.iaload, 1) := by decide +kernel
theorem dX11_goesBy_176 : decode cX11_goesBy 176 = .ok (.imul, 1) := by decide +kernel
theorem dX11_goesBy_177 : decode cX11_goesBy 177 = .ok (.iload_n 3, 1) := by decide +kernel
theorem dX11_goesBy_178 : decode cX11_goesBy 178 = .ok (.iadd, 1) := by decide +kernel
theorem dX11_goesBy_179 : decode cX11_goesBy 179 = .ok (.dup2, 1) := by decide +kernel
theorem dX11_goesBy_180 : decode cX11_goesBy 180 = .ok (.laload, 1) := by decide +kernel
theorem dX11_goesBy_181 : decode cX11_goesBy 181 = .ok (.aload_n 0, 1) := by decide +kernel
theorem dX11_goesBy_182 : decode cX11_goesBy 182 = .ok (.getfield 50, 3) := by decide +kernel
theorem dX11_goesBy_185 : decode cX11_goesBy 185 = .ok (.iconst 4, 1) := by decide +kernel
theorem dX11_goesBy_186 : decode cX11_goesBy 186 = .ok (.iload_n 3, 1) := by decide +kernel
theorem dX11_goesBy_187 : decode cX11_goesBy 187 = .ok (.imul, 1) := by decide +kernel
theorem dX11_goesBy_188 : decode cX11_goesBy 188 = .ok (.laload, 1) := by decide +kernel
theorem dX11_goesBy_189 : decode cX11_goesBy 189 = .ok (.ladd, 1) := by decide +kernel
theorem dX11_goesBy_190 : decode cX11_goesBy 190 = .ok (.lastore, 1) := by decide +kernel
theorem dX11_goesBy_191 : decode cX11_goesBy 191 = .ok (.aload_n 0, 1) := by decide +kernel
theorem dX11_goesBy_192 : decode cX11_goesBy 192 = .ok (.getfield 59, 3) := by decide +kernel
theorem dX11_goesBy_195 : decode cX11_goesBy 195 = .ok (.aload_n 0, 1) := by decide +kernel
theorem dX11_goesBy_196 : decode cX11_goesBy 196 = .ok (.getfield 13, 3) := by decide +kernel
theorem dX11_goesBy_199 : decode cX11_goesBy 199 = .ok (.iload_n 3, 1) := by decide +kernel
theorem dX11_goesBy_200 : decode cX11_goesBy 200 = .ok (.iaload, 1) := by decide +kernel
theorem dX11_goesBy_201 : decode cX11_goesBy 201 = .ok (.dup2, 1) := by decide +kernel
theorem dX11_goesBy_202 : decode cX11_goesBy 202 = .ok (.laload, 1) := by decide +kernel
theorem dX11_goesBy_203 : decode cX11_goesBy 203 = .ok (.aload_n 0, 1) := by decide +kernel
theorem dX11_goesBy_204 : decode cX11_goesBy 204 = .ok (.getfield 50, 3) := by decide +kernel
theorem dX11_goesBy_207 : decode cX11_goesBy 207 = .ok (.iconst 4, 1) := by decide +kernel
theorem dX11_goesBy_208 : decode cX11_goesBy 208 = .ok (.iload_n 3, 1) := by decide +kernel
theorem dX11_goesBy_209 : decode cX11_goesBy 209 = .ok (.imul, 1) := by decide +kernel
theorem dX11_goesBy_210 : decode cX11_goesBy 210 = .ok (.laload, 1) := by decide +kernel
theorem dX11_goesBy_211 : decode cX11_goesBy 211 = .ok (.ladd, 1) := by decide +kernel
theorem dX11_goesBy_212 : decode cX11_goesBy 212 = .ok (.lastore, 1) := by decide +kernel
theorem dX11_goesBy_213 : decode cX11_goesBy 213 = .ok (.iconst 0, 1) := by decide +kernel
theorem dX11_goesBy_214 : decode cX11_goesBy 214 = .ok (.istore 4, 2) := by decide +kernel
theorem dX11_goesBy_216 : decode cX11_goesBy 216 = .ok (.iload 4, 2) := by decide +kernel
theorem dX11_goesBy_218 : decode cX11_goesBy 218 = .ok (.iconst 3, 1) := by decide +kernel
theorem dX11_goesBy_219 : decode cX11_goesBy 219 = .ok (.if_icmp .ge 33, 3) := by decide +kernel
theorem dX11_goesBy_222 : decode cX11_goesBy 222 = .ok (.aload_n 0, 1) := by decide +kernel
theorem dX11_goesBy_223 : decode cX11_goesBy 223 = .ok (.getfield 50, 3) := by decide +kernel
theorem dX11_goesBy_226 : decode cX11_goesBy 226 = .ok (.iconst 4, 1) := by decide +kernel
theorem dX11_goesBy_227 : decode cX11_goesBy 227 = .ok (.iload_n 3, 1) := by decide +kernel
theorem dX11_goesBy_228 : decode cX11_goesBy 228 = .ok (.imul, 1) := by decide +kernel
theorem dX11_goesBy_229 : decode cX11_goesBy 229 = .ok (.iload 4, 2) := by decide +kernel
theorem dX11_goesBy_231 : decode cX11_goesBy 231 = .ok (.iadd, 1) := by decide +kernel
theorem dX11_goesBy_232 : decode cX11_goesBy 232 = .ok (.aload_n 0, 1) := by decide +kernel
theorem dX11_goesBy_233 : decode cX11_goesBy 233 = .ok (.getfield 50, 3) := by decide +kernel
theorem dX11_goesBy_236 : decode cX11_goesBy 236 = .ok (.iconst 4, 1) := by decide +kernel
theorem dX11_goesBy_237 : decode cX11_goesBy 237 = .ok (.iload_n 3, 1) := by decide +kernel
theorem dX11_goesBy_238 : decode cX11_goesBy 238 = .ok (.imul, 1) := by decide +kernel
theorem dX11_goesBy_239 : decode cX11_goesBy 239 = .ok (.iload 4, 2) := by decide +kernel
theorem dX11_goesBy_241 : decode cX11_goesBy 241 = .ok (.iadd, 1) := by decide +kernel
theorem dX11_goesBy_242 : decode cX11_goesBy 242 = .ok (.iconst 1, 1) := by decide +kernel
theorem dX11_goesBy_243 : decode cX11_goesBy 243 = .ok (.iadd, 1) := by decide +kernel
theorem dX11_goesBy_244 : decode cX11_goesBy 244 = .ok (.laload, 1) := by decide +kernel
theorem dX11_goesBy_245 : decode cX11_goesBy 245 = .ok (.lastore, 1) := by decide +kernel
theorem dX11_goesBy_246 : decode cX11_goesBy 246 = .ok (.iinc 4 1, 3) := by decide +kernel
theorem dX11_goesBy_249 : decode cX11_goesBy 249 = .ok (.goto (-33), 3) := by decide +kernel
theorem dX11_goesBy_252 : decode cX11_goesBy 252 = .ok (.aload_n 0, 1) := by decide +kernel
theorem dX11_goesBy_253 : decode cX11_goesBy 253 = .ok (.getfield 50, 3) := by decide +kernel
theorem dX11_goesBy_256 : decode cX11_goesBy 256 = .ok (.iconst 4, 1) := by decide +kernel
theorem dX11_goesBy_257 : decode cX11_goesBy 257 = .ok (.iload_n 3, 1) := by decide +kernel
theorem dX11_goesBy_258 : decode cX11_goesBy 258 = .ok (.imul, 1) := by decide +kernel
theorem dX11_goesBy_259 : decode cX11_goesBy 259 = .ok (.iconst 3, 1) := by decide +kernel
theorem dX11_goesBy_260 : decode cX11_goesBy 260 = .ok (.iadd, 1) := by decide +kernel
theorem dX11_goesBy_261 : decode cX11_goesBy 261 = .ok (.lconst 0, 1) := by decide +kernel
theorem dX11_goesBy_262 : decode cX11_goesBy 262 = .ok (.lastore, 1) := by decide +kernel
theorem dX11_goesBy_263 : decode cX11_goesBy 263 = .ok (.iinc 3 1, 3) := by decide +kernel
theorem dX11_goesBy_266 : decode cX11_goesBy 266 = .ok (.goto (-164), 3) := by decide +kernel
theorem dX11_goesBy_269 : decode cX11_goesBy 269 = .ok (.iconst 0, 1) := by decide +kernel
theorem dX11_goesBy_270 : decode cX11_goesBy 270 = .ok (.istore_n 3, 1) := by decide +kernel
theorem dX11_goesBy_271 : decode cX11_goesBy 271 = .ok (.iload_n 3, 1) := by decide +kernel
theorem dX11_goesBy_272 : decode cX11_goesBy 272 = .ok (.aload_n 0, 1) := by decide +kernel
theorem dX11_goesBy_273 : decode cX11_goesBy 273 = .ok (.getfield 166, 3) := by decide +kernel
theorem dX11_goesBy_276 : decode cX11_goesBy 276 = .ok (.if_icmp .ge 17, 3) := by decide +kernel
theorem dX11_goesBy_279 : decode cX11_goesBy 279 = .ok (.lload_n 1, 1) := by decide +kernel
theorem dX11_goesBy_280 : decode cX11_goesBy 280 = .ok (.aload_n 0, 1) := by decide +kernel
theorem dX11_goesBy_281 : decode cX11_goesBy 281 = .ok (.iload_n 3, 1) := by decide +kernel
theorem dX11_goesBy_282 : decode cX11_goesBy 282 = .ok (.invokevirtual 228, 3) := by decide +kernel
theorem dX11_goesBy_285 : decode cX11_goesBy 285 = .ok (.ladd, 1) := by decide +kernel
theorem dX11_goesBy_286 : decode cX11_goesBy 286 = .ok (.lstore_n 1, 1) := by decide +kernel
theorem dX11_goesBy_287 : decode cX11_goesBy 287 = .ok (.iinc 3 1, 3) := by decide +kernel
theorem dX11_goesBy_290 : decode cX11_goesBy 290 = .ok (.goto (-19), 3) := by decide +kernel
theorem dX11_goesBy_293 : decode cX11_goesBy 293 = .ok (.iconst 0, 1) := by decide +kernel
theorem dX11_goesBy_294 : decode cX11_goesBy 294 = .ok (.istore_n 3, 1) := by decide +kernel
theorem dX11_goesBy_295 : decode cX11_goesBy 295 = .ok (.iload_n 3, 1) := by decide +kernel
theorem dX11_goesBy_296 : decode cX11_goesBy 296 = .ok (.aload_n 0, 1) := by decide +kernel
theorem dX11_goesBy_297 : decode cX11_goesBy 297 = .ok (.getfield 166, 3) := by decide +kernel
theorem dX11_goesBy_300 : decode cX11_goesBy 300 = .ok (.if_icmp .ge 60, 3) := by decide +kernel
theorem dX11_goesBy_303 : decode cX11_goesBy 303 = .ok (.aload_n 0, 1) := by decide +kernel
theorem dX11_goesBy_304 : decode cX11_goesBy 304 = .ok (.getfield 65, 3) := by decide +kernel
theorem dX11_goesBy_307 : decode cX11_goesBy 307 = .ok (.bipush 40, 2) := by decide +kernel
theorem dX11_goesBy_309 : decode cX11_goesBy 309 = .ok (.iload_n 3, 1) := by decide +kernel
theorem dX11_goesBy_310 : decode cX11_goesBy 310 = .ok (.imul, 1) := by decide +kernel
theorem dX11_goesBy_311 : decode cX11_goesBy 311 = .ok (.aload_n 0, 1) := by decide +kernel
theorem dX11_goesBy_312 : decode cX11_goesBy 312 = .ok (.getfield 183, 3) := by decide +kernel
theorem dX11_goesBy_315 : decode cX11_goesBy 315 = .ok (.bipush 40, 2) := by decide +kernel
theorem dX11_goesBy_317 : decode cX11_goesBy 317 = .ok (.irem, 1) := by decide +kernel
theorem dX11_goesBy_318 : decode cX11_goesBy 318 = .ok (.iadd, 1) := by decide +kernel
theorem dX11_goesBy_319 : decode cX11_goesBy 319 = .ok (.aload_n 0, 1) := by decide +kernel
theorem dX11_goesBy_320 : decode cX11_goesBy 320 = .ok (.getfield 59, 3) := by decide +kernel
theorem dX11_goesBy_323 : decode cX11_goesBy 323 = .ok (.iload_n 3, 1) := by decide +kernel
theorem dX11_goesBy_324 : decode cX11_goesBy 324 = .ok (.laload, 1) := by decide +kernel
theorem dX11_goesBy_325 : decode cX11_goesBy 325 = .ok (.lastore, 1) := by decide +kernel
theorem dX11_goesBy_326 : decode cX11_goesBy 326 = .ok (.aload_n 0, 1) := by decide +kernel
theorem dX11_goesBy_327 : decode cX11_goesBy 327 = .ok (.iload_n 3, 1) := by decide +kernel
theorem dX11_goesBy_328 : decode cX11_goesBy 328 = .ok (.invokevirtual 231, 3) := by decide +kernel
theorem dX11_goesBy_331 : decode cX11_goesBy 331 = .ok (.aload_n 0, 1) := by decide +kernel
theorem dX11_goesBy_332 : decode cX11_goesBy 332 = .ok (.getfield 68, 3) := by decide +kernel
theorem dX11_goesBy_335 : decode cX11_goesBy 335 = .ok (.bipush 40, 2) := by decide +kernel
theorem dX11_goesBy_337 : decode cX11_goesBy 337 = .ok (.iload_n 3, 1) := by decide +kernel
theorem dX11_goesBy_338 : decode cX11_goesBy 338 = .ok (.imul, 1) := by decide +kernel
theorem dX11_goesBy_339 : decode cX11_goesBy 339 = .ok (.aload_n 0, 1) := by decide +kernel
theorem dX11_goesBy_340 : decode cX11_goesBy 340 = .ok (.getfield 183, 3) := by decide +kernel
theorem dX11_goesBy_343 : decode cX11_goesBy 343 = .ok (.bipush 40, 2) := by decide +kernel
theorem dX11_goesBy_345 : decode cX11_goesBy 345 = .ok (.irem, 1) := by decide +kernel
theorem dX11_goesBy_346 : decode cX11_goesBy 346 = .ok (.iadd, 1) := by decide +kernel
theorem dX11_goesBy_347 : decode cX11_goesBy 347 = .ok (.aload_n 0, 1) := by decide +kernel
theorem dX11_goesBy_348 : decode cX11_goesBy 348 = .ok (.getfield 62, 3) := by decide +kernel
theorem dX11_goesBy_351 : decode cX11_goesBy 351 = .ok (.iload_n 3, 1) := by decide +kernel
theorem dX11_goesBy_352 : decode cX11_goesBy 352 = .ok (.laload, 1) := by decide +kernel
theorem dX11_goesBy_353 : decode cX11_goesBy 353 = .ok (.lastore, 1) := by decide +kernel
theorem dX11_goesBy_354 : decode cX11_goesBy 354 = .ok (.iinc 3 1, 3) := by decide +kernel
theorem dX11_goesBy_357 : decode cX11_goesBy 357 = .ok (.goto (-62), 3) := by decide +kernel
theorem dX11_goesBy_360 : decode cX11_goesBy 360 = .ok (.iconst 0, 1) := by decide +kernel
theorem dX11_goesBy_361 : decode cX11_goesBy 361 = .ok (.istore_n 3, 1) := by decide +kernel
theorem dX11_goesBy_362 : decode cX11_goesBy 362 = .ok (.iload_n 3, 1) := by decide +kernel
theorem dX11_goesBy_363 : decode cX11_goesBy 363 = .ok (.aload_n 0, 1) := by decide +kernel
theorem dX11_goesBy_364 : decode cX11_goesBy 364 = .ok (.getfield 166, 3) := by decide +kernel
theorem dX11_goesBy_367 : decode cX11_goesBy 367 = .ok (.if_icmp .ge 53, 3) := by decide +kernel
theorem dX11_goesBy_370 : decode cX11_goesBy 370 = .ok (.aload_n 0, 1) := by decide +kernel
theorem dX11_goesBy_371 : decode cX11_goesBy 371 = .ok (.getfield 53, 3) := by decide +kernel
theorem dX11_goesBy_374 : decode cX11_goesBy 374 = .ok (.iload_n 3, 1) := by decide +kernel
theorem dX11_goesBy_375 : decode cX11_goesBy 375 = .ok (.dup2, 1) := by decide +kernel
theorem dX11_goesBy_376 : decode cX11_goesBy 376 = .ok (.laload, 1) := by decide +kernel
theorem dX11_goesBy_377 : decode cX11_goesBy 377 = .ok (.aload_n 0, 1) := by decide +kernel
theorem dX11_goesBy_378 : decode cX11_goesBy 378 = .ok (.getfield 28, 3) := by decide +kernel
theorem dX11_goesBy_381 : decode cX11_goesBy 381 = .ok (.iload_n 3, 1) := by decide +kernel
theorem dX11_goesBy_382 : decode cX11_goesBy 382 = .ok (.iaload, 1) := by decide +kernel
theorem dX11_goesBy_383 : decode cX11_goesBy 383 = .ok (.i2l, 1) := by decide +kernel
theorem dX11_goesBy_384 : decode cX11_goesBy 384 = .ok (.aload_n 0, 1) := by decide +kernel
theorem dX11_goesBy_385 : decode cX11_goesBy 385 = .ok (.getfield 40, 3) := by decide +kernel
theorem dX11_goesBy_388 : decode cX11_goesBy 388 = .ok (.iload_n 3, 1) := by decide +kernel
theorem dX11_goesBy_389 : decode cX11_goesBy 389 = .ok (.laload, 1) := by decide +kernel
theorem dX11_goesBy_390 : decode cX11_goesBy 390 = .ok (.lmul, 1) := by decide +kernel
theorem dX11_goesBy_391 : decode cX11_goesBy 391 = .ok (.aload_n 0, 1) := by decide +kernel
theorem dX11_goesBy_392 : decode cX11_goesBy 392 = .ok (.getfield 31, 3) := by decide +kernel
theorem dX11_goesBy_395 : decode cX11_goesBy 395 = .ok (.iload_n 3, 1) := by decide +kernel
theorem dX11_goesBy_396 : decode cX11_goesBy 396 = .ok (.iaload, 1) := by decide +kernel
theorem dX11_goesBy_397 : decode cX11_goesBy 397 = .ok (.i2l, 1) := by decide +kernel
theorem dX11_goesBy_398 : decode cX11_goesBy 398 = .ok (.aload_n 0, 1) := by decide +kernel
theorem dX11_goesBy_399 : decode cX11_goesBy 399 = .ok (.iload_n 3, 1) := by decide +kernel
theorem dX11_goesBy_400 : decode cX11_goesBy 400 = .ok (.invokevirtual 207, 3) := by decide +kernel
theorem dX11_goesBy_403 : decode cX11_goesBy 403 = .ok (.lmul, 1) := by decide +kernel
theorem dX11_goesBy_404 : decode cX11_goesBy 404 = .ok (.ladd, 1) := by decide +kernel
theorem dX11_goesBy_405 : decode cX11_goesBy 405 = .ok (.ladd, 1) := by decide +kernel
theorem dX11_goesBy_406 : decode cX11_goesBy 406 = .ok (.lastore, 1) := by decide +kernel
theorem dX11_goesBy_407 : decode cX11_goesBy 407 = .ok (.aload_n 0, 1) := by decide +kernel
theorem dX11_goesBy_408 : decode cX11_goesBy 408 = .ok (.getfield 37, 3) := by decide +kernel
theorem dX11_goesBy_411 : decode cX11_goesBy 411 = .ok (.iload_n 3, 1) := by decide +kernel
theorem dX11_goesBy_412 : decode cX11_goesBy 412 = .ok (.iconst 0, 1) := by decide +kernel
theorem dX11_goesBy_413 : decode cX11_goesBy 413 = .ok (.iastore, 1) := by decide +kernel
theorem dX11_goesBy_414 : decode cX11_goesBy 414 = .ok (.iinc 3 1, 3) := by decide +kernel
theorem dX11_goesBy_417 : decode cX11_goesBy 417 = .ok (.goto (-55), 3) := by decide +kernel
theorem dX11_goesBy_420 : decode cX11_goesBy 420 = .ok (.aload_n 0, 1) := by decide +kernel
theorem dX11_goesBy_421 : decode cX11_goesBy 421 = .ok (.dup, 1) := by decide +kernel
theorem dX11_goesBy_422 : decode cX11_goesBy 422 = .ok (.getfield 183, 3) := by decide +kernel
theorem dX11_goesBy_425 : decode cX11_goesBy 425 = .ok (.iconst 1, 1) := by decide +kernel
theorem dX11_goesBy_426 : decode cX11_goesBy 426 = .ok (.iadd, 1) := by decide +kernel
theorem dX11_goesBy_427 : decode cX11_goesBy 427 = .ok (.putfield 183, 3) := by decide +kernel
theorem dX11_goesBy_430 : decode cX11_goesBy 430 = .ok (.aload_n 0, 1) := by decide +kernel
theorem dX11_goesBy_431 : decode cX11_goesBy 431 = .ok (.dup, 1) := by decide +kernel
theorem dX11_goesBy_432 : decode cX11_goesBy 432 = .ok (.getfield 220, 3) := by decide +kernel
theorem dX11_goesBy_435 : decode cX11_goesBy 435 = .ok (.lload_n 1, 1) := by decide +kernel
theorem dX11_goesBy_436 : decode cX11_goesBy 436 = .ok (.ladd, 1) := by decide +kernel
theorem dX11_goesBy_437 : decode cX11_goesBy 437 = .ok (.putfield 220, 3) := by decide +kernel
theorem dX11_goesBy_440 : decode cX11_goesBy 440 = .ok (.lload_n 1, 1) := by decide +kernel
theorem dX11_goesBy_441 : decode cX11_goesBy 441 = .ok (.l2i, 1) := by decide +kernel
theorem dX11_goesBy_442 : decode cX11_goesBy 442 = .ok (.ireturn, 1) := by decide +kernel
theorem dX11_sends_0 : decode cX11_sends 0 = .ok (.iconst 0, 1) := by decide +kernel
theorem dX11_sends_1 : decode cX11_sends 1 = .ok (.istore_n 2, 1) := by decide +kernel
theorem dX11_sends_2 : decode cX11_sends 2 = .ok (.iload_n 2, 1) := by decide +kernel
theorem dX11_sends_3 : decode cX11_sends 3 = .ok (.bipush 8, 2) := by decide +kernel
theorem dX11_sends_5 : decode cX11_sends 5 = .ok (.if_icmp .ge 26, 3) := by decide +kernel
theorem dX11_sends_8 : decode cX11_sends 8 = .ok (.aload_n 0, 1) := by decide +kernel
theorem dX11_sends_9 : decode cX11_sends 9 = .ok (.getfield 71, 3) := by decide +kernel
theorem dX11_sends_12 : decode cX11_sends 12 = .ok (.iload_n 2, 1) := by decide +kernel
theorem dX11_sends_13 : decode cX11_sends 13 = .ok (.aload_n 0, 1) := by decide +kernel
theorem dX11_sends_14 : decode cX11_sends 14 = .ok (.getfield 44, 3) := by decide +kernel
theorem dX11_sends_17 : decode cX11_sends 17 = .ok (.bipush 8, 2) := by decide +kernel
theorem dX11_sends_19 : decode cX11_sends 19 = .ok (.iload_n 1, 1) := by decide +kernel
theorem dX11_sends_20 : decode cX11_sends 20 = .ok (.imul, 1) := by decide +kernel
theorem dX11_sends_21 : decode cX11_sends 21 = .ok (.iload_n 2, 1) := by decide +kernel
theorem dX11_sends_22 : decode cX11_sends 22 = .ok (.iadd, 1) := by decide +kernel
theorem dX11_sends_23 : decode cX11_sends 23 = .ok (.laload, 1) := by decide +kernel
theorem dX11_sends_24 : decode cX11_sends 24 = .ok (.lastore, 1) := by decide +kernel
theorem dX11_sends_25 : decode cX11_sends 25 = .ok (.iinc 2 1, 3) := by decide +kernel
theorem dX11_sends_28 : decode cX11_sends 28 = .ok (.goto (-26), 3) := by decide +kernel
theorem dX11_sends_31 : decode cX11_sends 31 = .ok (.aload_n 0, 1) := by decide +kernel
theorem dX11_sends_32 : decode cX11_sends 32 = .ok (.aload_n 0, 1) := by decide +kernel
theorem dX11_sends_33 : decode cX11_sends 33 = .ok (.getfield 200, 3) := by decide +kernel
theorem dX11_sends_36 : decode cX11_sends 36 = .ok (.aload_n 0, 1) := by decide +kernel
theorem dX11_sends_37 : decode cX11_sends 37 = .ok (.getfield 40, 3) := by decide +kernel
theorem dX11_sends_40 : decode cX11_sends 40 = .ok (.iload_n 1, 1) := by decide +kernel
theorem dX11_sends_41 : decode cX11_sends 41 = .ok (.laload, 1) := by decide +kernel
theorem dX11_sends_42 : decode cX11_sends 42 = .ok (.bipush 8, 2) := by decide +kernel
theorem dX11_sends_44 : decode cX11_sends 44 = .ok (.invokevirtual 235, 3) := by decide +kernel
theorem dX11_sends_47 : decode cX11_sends 47 = .ok (.lconst 0, 1) := by decide +kernel
theorem dX11_sends_48 : decode cX11_sends 48 = .ok (.lstore_n 2, 1) := by decide +kernel
theorem dX11_sends_49 : decode cX11_sends 49 = .ok (.iconst 0, 1) := by decide +kernel
theorem dX11_sends_50 : decode cX11_sends 50 = .ok (.istore 4, 2) := by decide +kernel
theorem dX11_sends_52 : decode cX11_sends 52 = .ok (.iload 4, 2) := by decide +kernel
theorem dX11_sends_54 : decode cX11_sends 54 = .ok (.bipush 8, 2) := by decide +kernel
theorem dX11_sends_56 : decode cX11_sends 56 = .ok (.if_icmp .ge 122, 3) := by decide +kernel
theorem dX11_sends_59 : decode cX11_sends 59 = .ok (.aload_n 0, 1) := by decide +kernel
theorem dX11_sends_60 : decode cX11_sends 60 = .ok (.getfield 44, 3) := by decide +kernel
theorem dX11_sends_63 : decode cX11_sends 63 = .ok (.bipush 8, 2) := by decide +kernel
theorem dX11_sends_65 : decode cX11_sends 65 = .ok (.iload_n 1, 1) := by decide +kernel
theorem dX11_sends_66 : decode cX11_sends 66 = .ok (.imul, 1) := by decide +kernel
theorem dX11_sends_67 : decode cX11_sends 67 = .ok (.iload 4, 2) := by decide +kernel
theorem dX11_sends_69 : decode cX11_sends 69 = .ok (.iadd, 1) := by decide +kernel
theorem dX11_sends_70 : decode cX11_sends 70 = .ok (.dup2, 1) := by decide +kernel
theorem dX11_sends_71 : decode cX11_sends 71 = .ok (.laload, 1) := by decide +kernel
theorem dX11_sends_72 : decode cX11_sends 72 = .ok (.aload_n 0, 1) := by decide +kernel
theorem dX11_sends_73 : decode cX11_sends 73 = .ok (.getfield 74, 3) := by decide +kernel
theorem dX11_sends_76 : decode cX11_sends 76 = .ok (.iload 4, 2) := by decide +kernel
theorem dX11_sends_78 : decode cX11_sends 78 = .ok (.laload, 1) := by decide +kernel
theorem dX11_sends_79 : decode cX11_sends 79 = .ok (.lsub, 1) := by decide +kernel
theorem dX11_sends_80 : decode cX11_sends 80 = .ok (.lastore, 1) := by decide +kernel
theorem dX11_sends_81 : decode cX11_sends 81 = .ok (.aload_n 0, 1) := by decide +kernel
theorem dX11_sends_82 : decode cX11_sends 82 = .ok (.getfield 40, 3) := by decide +kernel
theorem dX11_sends_85 : decode cX11_sends 85 = .ok (.iload_n 1, 1) := by decide +kernel
theorem dX11_sends_86 : decode cX11_sends 86 = .ok (.dup2, 1) := by decide +kernel
theorem dX11_sends_87 : decode cX11_sends 87 = .ok (.laload, 1) := by decide +kernel
theorem dX11_sends_88 : decode cX11_sends 88 = .ok (.aload_n 0, 1) := by decide +kernel
theorem dX11_sends_89 : decode cX11_sends 89 = .ok (.getfield 74, 3) := by decide +kernel
theorem dX11_sends_92 : decode cX11_sends 92 = .ok (.iload 4, 2) := by decide +kernel
theorem dX11_sends_94 : decode cX11_sends 94 = .ok (.laload, 1) := by decide +kernel
theorem dX11_sends_95 : decode cX11_sends 95 = .ok (.lsub, 1) := by decide +kernel
theorem dX11_sends_96 : decode cX11_sends 96 = .ok (.lastore, 1) := by decide +kernel
theorem dX11_sends_97 : decode cX11_sends 97 = .ok (.aload_n 0, 1) := by decide +kernel
theorem dX11_sends_98 : decode cX11_sends 98 = .ok (.getfield 56, 3) := by decide +kernel
theorem dX11_sends_101 : decode cX11_sends 101 = .ok (.iload_n 1, 1) := by decide +kernel
theorem dX11_sends_102 : decode cX11_sends 102 = .ok (.dup2, 1) := by decide +kernel
theorem dX11_sends_103 : decode cX11_sends 103 = .ok (.laload, 1) := by decide +kernel
theorem dX11_sends_104 : decode cX11_sends 104 = .ok (.aload_n 0, 1) := by decide +kernel
theorem dX11_sends_105 : decode cX11_sends 105 = .ok (.getfield 74, 3) := by decide +kernel
theorem dX11_sends_108 : decode cX11_sends 108 = .ok (.iload 4, 2) := by decide +kernel
theorem dX11_sends_110 : decode cX11_sends 110 = .ok (.laload, 1) := by decide +kernel
theorem dX11_sends_111 : decode cX11_sends 111 = .ok (.ladd, 1) := by decide +kernel
theorem dX11_sends_112 : decode cX11_sends 112 = .ok (.lastore, 1) := by decide +kernel
theorem dX11_sends_113 : decode cX11_sends 113 = .ok (.iload 4, 2) := by decide +kernel
theorem dX11_sends_115 : decode cX11_sends 115 = .ok (.iload_n 1, 1) := by decide +kernel
theorem dX11_sends_116 : decode cX11_sends 116 = .ok (.if_icmp .ne 16, 3) := by decide +kernel
theorem dX11_sends_119 : decode cX11_sends 119 = .ok (.lload_n 2, 1) := by decide +kernel
theorem dX11_sends_120 : decode cX11_sends 120 = .ok (.aload_n 0, 1) := by decide +kernel
theorem dX11_sends_121 : decode cX11_sends 121 = .ok (.getfield 74, 3) := by decide +kernel
theorem dX11_sends_124 : decode cX11_sends 124 = .ok (.iload 4, 2) := by decide +kernel
theorem dX11_sends_126 : decode cX11_sends 126 = .ok (.laload, 1) := by decide +kernel
theorem dX11_sends_127 : decode cX11_sends 127 = .ok (.ladd, 1) := by decide +kernel
theorem dX11_sends_128 : decode cX11_sends 128 = .ok (.lstore_n 2, 1) := by decide +kernel
theorem dX11_sends_129 : decode cX11_sends 129 = .ok (.goto 43, 3) := by decide +kernel
theorem dX11_sends_132 : decode cX11_sends 132 = .ok (.aload_n 0, 1) := by decide +kernel
theorem dX11_sends_133 : decode cX11_sends 133 = .ok (.getfield 74, 3) := by decide +kernel
theorem dX11_sends_136 : decode cX11_sends 136 = .ok (.iload 4, 2) := by decide +kernel
theorem dX11_sends_138 : decode cX11_sends 138 = .ok (.laload, 1) := by decide +kernel
theorem dX11_sends_139 : decode cX11_sends 139 = .ok (.lconst 0, 1) := by decide +kernel
theorem dX11_sends_140 : decode cX11_sends 140 = .ok (.lcmp, 1) := by decide +kernel
theorem dX11_sends_141 : decode cX11_sends 141 = .ok (.ifCond .le 31, 3) := by decide +kernel
theorem dX11_sends_144 : decode cX11_sends 144 = .ok (.aload_n 0, 1) := by decide +kernel
theorem dX11_sends_145 : decode cX11_sends 145 = .ok (.getfield 47, 3) := by decide +kernel
theorem dX11_sends_148 : decode cX11_sends 148 = .ok (.bipush 7, 2) := by decide +kernel
theorem dX11_sends_150 : decode cX11_sends 150 = .ok (.iload 4, 2) := by decide +kernel
theorem dX11_sends_152 : decode cX11_sends 152 = .ok (.imul, 1) := by decide +kernel
theorem dX11_sends_153 : decode cX11_sends 153 = .ok (.aload_n 0, 1) := by decide +kernel
theorem dX11_sends_154 : decode cX11_sends 154 = .ok (.getfield 16, 3) := by decide +kernel
theorem dX11_sends_157 : decode cX11_sends 157 = .ok (.iload 4, 2) := by decide +kernel
theorem dX11_sends_159 : decode cX11_sends 159 = .ok (.iaload, 1) := by decide +kernel
theorem dX11_sends_160 : decode cX11_sends 160 = .ok (.iadd, 1) := by decide +kernel
theorem dX11_sends_161 : decode cX11_sends 161 = .ok (.dup2, 1) := by decide +kernel
theorem dX11_sends_162 : decode cX11_sends 162 = .ok (.laload, 1) := by decide +kernel
theorem dX11_sends_163 : decode cX11_sends 163 = .ok (.aload_n 0, 1) := by decide +kernel
theorem dX11_sends_164 : decode cX11_sends 164 = .ok (.getfield 74, 3) := by decide +kernel
theorem dX11_sends_167 : decode cX11_sends 167 = .ok (.iload 4, 2) := by decide +kernel
theorem dX11_sends_169 : decode cX11_sends 169 = .ok (.laload, 1) := by decide +kernel
theorem dX11_sends_170 : decode cX11_sends 170 = .ok (.ladd, 1) := by decide +kernel
theorem dX11_sends_171 : decode cX11_sends 171 = .ok (.lastore, 1) := by decide +kernel
theorem dX11_sends_172 : decode cX11_sends 172 = .ok (.iinc 4 1, 3) := by decide +kernel
theorem dX11_sends_175 : decode cX11_sends 175 = .ok (.goto (-123), 3) := by decide +kernel
theorem dX11_sends_178 : decode cX11_sends 178 = .ok (.lload_n 2, 1) := by decide +kernel
theorem dX11_sends_179 : decode cX11_sends 179 = .ok (.lreturn, 1) := by decide +kernel
theorem dX11_orders_0 : decode cX11_orders 0 = .ok (.aload_n 0, 1) := by decide +kernel
theorem dX11_orders_1 : decode cX11_orders 1 = .ok (.getfield 34, 3) := by decide +kernel
theorem dX11_orders_4 : decode cX11_orders 4 = .ok (.iload_n 1, 1) := by decide +kernel
theorem dX11_orders_5 : decode cX11_orders 5 = .ok (.iaload, 1) := by decide +kernel
theorem dX11_orders_6 : decode cX11_orders 6 = .ok (.iconst (-1), 1) := by decide +kernel
theorem dX11_orders_7 : decode cX11_orders 7 = .ok (.if_icmp .ne 7, 3) := by decide +kernel
theorem dX11_orders_10 : decode cX11_orders 10 = .ok (.lconst 0, 1) := by decide +kernel
theorem dX11_orders_11 : decode cX11_orders 11 = .ok (.goto 18, 3) := by decide +kernel
theorem dX11_orders_14 : decode cX11_orders 14 = .ok (.aload_n 0, 1) := by decide +kernel
theorem dX11_orders_15 : decode cX11_orders 15 = .ok (.aload_n 0, 1) := by decide +kernel
theorem dX11_orders_16 : decode cX11_orders 16 = .ok (.getfield 34, 3) := by decide +kernel
theorem dX11_orders_19 : decode cX11_orders 19 = .ok (.iload_n 1, 1) := by decide +kernel
theorem dX11_orders_20 : decode cX11_orders 20 = .ok (.iaload, 1) := by decide +kernel
theorem dX11_orders_21 : decode cX11_orders 21 = .ok (.iload_n 1, 1) := by decide +kernel
theorem dX11_orders_22 : decode cX11_orders 22 = .ok (.aload_n 0, 1) := by decide +kernel
theorem dX11_orders_23 : decode cX11_orders 23 = .ok (.getfield 183, 3) := by decide +kernel
theorem dX11_orders_26 : decode cX11_orders 26 = .ok (.invokevirtual 239, 3) := by decide +kernel
theorem dX11_orders_29 : decode cX11_orders 29 = .ok (.lstore_n 2, 1) := by decide +kernel
theorem dX11_orders_30 : decode cX11_orders 30 = .ok (.lload_n 2, 1) := by decide +kernel
theorem dX11_orders_31 : decode cX11_orders 31 = .ok (.lconst 0, 1) := by decide +kernel
theorem dX11_orders_32 : decode cX11_orders 32 = .ok (.lcmp, 1) := by decide +kernel
theorem dX11_orders_33 : decode cX11_orders 33 = .ok (.ifCond .ge 7, 3) := by decide +kernel
theorem dX11_orders_36 : decode cX11_orders 36 = .ok (.lconst 0, 1) := by decide +kernel
theorem dX11_orders_37 : decode cX11_orders 37 = .ok (.goto 30, 3) := by decide +kernel
theorem dX11_orders_40 : decode cX11_orders 40 = .ok (.lload_n 2, 1) := by decide +kernel
theorem dX11_orders_41 : decode cX11_orders 41 = .ok (.aload_n 0, 1) := by decide +kernel
theorem dX11_orders_42 : decode cX11_orders 42 = .ok (.getfield 22, 3) := by decide +kernel
theorem dX11_orders_45 : decode cX11_orders 45 = .ok (.iload_n 1, 1) := by decide +kernel
theorem dX11_orders_46 : decode cX11_orders 46 = .ok (.iaload, 1) := by decide +kernel
theorem dX11_orders_47 : decode cX11_orders 47 = .ok (.i2l, 1) := by decide +kernel
theorem dX11_orders_48 : decode cX11_orders 48 = .ok (.ladd, 1) := by decide +kernel
theorem dX11_orders_49 : decode cX11_orders 49 = .ok (.lconst 1, 1) := by decide +kernel
theorem dX11_orders_50 : decode cX11_orders 50 = .ok (.lsub, 1) := by decide +kernel
theorem dX11_orders_51 : decode cX11_orders 51 = .ok (.aload_n 0, 1) := by decide +kernel
theorem dX11_orders_52 : decode cX11_orders 52 = .ok (.getfield 22, 3) := by decide +kernel
theorem dX11_orders_55 : decode cX11_orders 55 = .ok (.iload_n 1, 1) := by decide +kernel
theorem dX11_orders_56 : decode cX11_orders 56 = .ok (.iaload, 1) := by decide +kernel
theorem dX11_orders_57 : decode cX11_orders 57 = .ok (.i2l, 1) := by decide +kernel
theorem dX11_orders_58 : decode cX11_orders 58 = .ok (.ldiv, 1) := by decide +kernel
theorem dX11_orders_59 : decode cX11_orders 59 = .ok (.aload_n 0, 1) := by decide +kernel
theorem dX11_orders_60 : decode cX11_orders 60 = .ok (.getfield 22, 3) := by decide +kernel
theorem dX11_orders_63 : decode cX11_orders 63 = .ok (.iload_n 1, 1) := by decide +kernel
theorem dX11_orders_64 : decode cX11_orders 64 = .ok (.iaload, 1) := by decide +kernel
theorem dX11_orders_65 : decode cX11_orders 65 = .ok (.i2l, 1) := by decide +kernel
theorem dX11_orders_66 : decode cX11_orders 66 = .ok (.lmul, 1) := by decide +kernel
theorem dX11_orders_67 : decode cX11_orders 67 = .ok (.lstore_n 2, 1) := by decide +kernel
theorem dX11_orders_68 : decode cX11_orders 68 = .ok (.lload_n 2, 1) := by decide +kernel
theorem dX11_orders_69 : decode cX11_orders 69 = .ok (.aload_n 0, 1) := by decide +kernel
theorem dX11_orders_70 : decode cX11_orders 70 = .ok (.getfield 25, 3) := by decide +kernel
theorem dX11_orders_73 : decode cX11_orders 73 = .ok (.iload_n 1, 1) := by decide +kernel
theorem dX11_orders_74 : decode cX11_orders 74 = .ok (.iaload, 1) := by decide +kernel
theorem dX11_orders_75 : decode cX11_orders 75 = .ok (.i2l, 1) := by decide +kernel
theorem dX11_orders_76 : decode cX11_orders 76 = .ok (.lcmp, 1) := by decide +kernel
theorem dX11_orders_77 : decode cX11_orders 77 = .ok (.ifCond .le 13, 3) := by decide +kernel
theorem dX11_orders_80 : decode cX11_orders 80 = .ok (.aload_n 0, 1) := by decide +kernel
theorem dX11_orders_81 : decode cX11_orders 81 = .ok (.getfield 25, 3) := by decide +kernel
theorem dX11_orders_84 : decode cX11_orders 84 = .ok (.iload_n 1, 1) := by decide +kernel
theorem dX11_orders_85 : decode cX11_orders 85 = .ok (.iaload, 1) := by decide +kernel
theorem dX11_orders_86 : decode cX11_orders 86 = .ok (.i2l, 1) := by decide +kernel
theorem dX11_orders_87 : decode cX11_orders 87 = .ok (.goto 4, 3) := by decide +kernel
theorem dX11_orders_90 : decode cX11_orders 90 = .ok (.lload_n 2, 1) := by decide +kernel
theorem dX11_orders_91 : decode cX11_orders 91 = .ok (.lstore_n 2, 1) := by decide +kernel
theorem dX11_orders_92 : decode cX11_orders 92 = .ok (.aload_n 0, 1) := by decide +kernel
theorem dX11_orders_93 : decode cX11_orders 93 = .ok (.getfield 62, 3) := by decide +kernel
theorem dX11_orders_96 : decode cX11_orders 96 = .ok (.iload_n 1, 1) := by decide +kernel
theorem dX11_orders_97 : decode cX11_orders 97 = .ok (.lload_n 2, 1) := by decide +kernel
theorem dX11_orders_98 : decode cX11_orders 98 = .ok (.lastore, 1) := by decide +kernel
theorem dX11_orders_99 : decode cX11_orders 99 = .ok (.aload_n 0, 1) := by decide +kernel
theorem dX11_orders_100 : decode cX11_orders 100 = .ok (.getfield 7, 3) := by decide +kernel
theorem dX11_orders_103 : decode cX11_orders 103 = .ok (.iload_n 1, 1) := by decide +kernel
theorem dX11_orders_104 : decode cX11_orders 104 = .ok (.iaload, 1) := by decide +kernel
theorem dX11_orders_105 : decode cX11_orders 105 = .ok (.ifCond .ne 36, 3) := by decide +kernel
theorem dX11_orders_108 : decode cX11_orders 108 = .ok (.aload_n 0, 1) := by decide +kernel
theorem dX11_orders_109 : decode cX11_orders 109 = .ok (.dup, 1) := by decide +kernel
theorem dX11_orders_110 : decode cX11_orders 110 = .ok (.getfield 217, 3) := by decide +kernel
theorem dX11_orders_113 : decode cX11_orders 113 = .ok (.lload_n 2, 1) := by decide +kernel
theorem dX11_orders_114 : decode cX11_orders 114 = .ok (.ladd, 1) := by decide +kernel
theorem dX11_orders_115 : decode cX11_orders 115 = .ok (.putfield 217, 3) := by decide +kernel
theorem dX11_orders_118 : decode cX11_orders 118 = .ok (.aload_n 0, 1) := by decide +kernel
theorem dX11_orders_119 : decode cX11_orders 119 = .ok (.getfield 47, 3) := by decide +kernel
theorem dX11_orders_122 : decode cX11_orders 122 = .ok (.bipush 7, 2) := by decide +kernel
theorem dX11_orders_124 : decode cX11_orders 124 = .ok (.iload_n 1, 1) := by decide +kernel
theorem dX11_orders_125 : decode cX11_orders 125 = .ok (.imul, 1) := by decide +kernel
theorem dX11_orders_126 : decode cX11_orders 126 = .ok (.aload_n 0, 1) := by decide +kernel
theorem dX11_orders_127 : decode cX11_orders 127 = .ok (.getfield 16, 3) := by decide +kernel
theorem dX11_orders_130 : decode cX11_orders 130 = .ok (.iload_n 1, 1) := by decide +kernel
theorem dX11_orders_131 : decode cX11_orders 131 = .ok (.iaload, 1) := by decide +kernel
theorem dX11_orders_132 : decode cX11_orders 132 = .ok (.iadd, 1) := by decide +kernel
theorem dX11_orders_133 : decode cX11_orders 133 = .ok (.dup2, 1) := by decide +kernel
theorem dX11_orders_134 : decode cX11_orders 134 = .ok (.laload, 1) := by decide +kernel
theorem dX11_orders_135 : decode cX11_orders 135 = .ok (.lload_n 2, 1) := by decide +kernel
theorem dX11_orders_136 : decode cX11_orders 136 = .ok (.ladd, 1) := by decide +kernel
theorem dX11_orders_137 : decode cX11_orders 137 = .ok (.lastore, 1) := by decide +kernel
theorem dX11_orders_138 : decode cX11_orders 138 = .ok (.goto 22, 3) := by decide +kernel
theorem dX11_orders_141 : decode cX11_orders 141 = .ok (.aload_n 0, 1) := by decide +kernel
theorem dX11_orders_142 : decode cX11_orders 142 = .ok (.getfield 50, 3) := by decide +kernel
theorem dX11_orders_145 : decode cX11_orders 145 = .ok (.iconst 4, 1) := by decide +kernel
theorem dX11_orders_146 : decode cX11_orders 146 = .ok (.iload_n 1, 1) := by decide +kernel
theorem dX11_orders_147 : decode cX11_orders 147 = .ok (.imul, 1) := by decide +kernel
theorem dX11_orders_148 : decode cX11_orders 148 = .ok (.aload_n 0, 1) := by decide +kernel
theorem dX11_orders_149 : decode cX11_orders 149 = .ok (.getfield 19, 3) := by decide +kernel
theorem dX11_orders_152 : decode cX11_orders 152 = .ok (.iload_n 1, 1) := by decide +kernel
theorem dX11_orders_153 : decode cX11_orders 153 = .ok (.iaload, 1) := by decide +kernel
theorem dX11_orders_154 : decode cX11_orders 154 = .ok (.iadd, 1) := by decide +kernel
theorem dX11_orders_155 : decode cX11_orders 155 = .ok (.dup2, 1) := by decide +kernel
theorem dX11_orders_156 : decode cX11_orders 156 = .ok (.laload, 1) := by decide +kernel
theorem dX11_orders_157 : decode cX11_orders 157 = .ok (.lload_n 2, 1) := by decide +kernel
theorem dX11_orders_158 : decode cX11_orders 158 = .ok (.ladd, 1) := by decide +kernel
theorem dX11_orders_159 : decode cX11_orders 159 = .ok (.lastore, 1) := by decide +kernel
theorem dX11_orders_160 : decode cX11_orders 160 = .ok (.return_, 1) := by decide +kernel
theorem dX11_week_0 : decode cX11_week 0 = .ok (.aload_n 0, 1) := by decide +kernel
theorem dX11_week_1 : decode cX11_week 1 = .ok (.getfield 166, 3) := by decide +kernel
theorem dX11_week_4 : decode cX11_week 4 = .ok (.ifCond .ne 6, 3) := by decide +kernel
theorem dX11_week_7 : decode cX11_week 7 = .ok (.bipush (-3), 2) := by decide +kernel
theorem dX11_week_9 : decode cX11_week 9 = .ok (.ireturn, 1) := by decide +kernel
theorem dX11_week_10 : decode cX11_week 10 = .ok (.aload_n 0, 1) := by decide +kernel
theorem dX11_week_11 : decode cX11_week 11 = .ok (.getfield 183, 3) := by decide +kernel
theorem dX11_week_14 : decode cX11_week 14 = .ok (.sipush 400, 3) := by decide +kernel
theorem dX11_week_17 : decode cX11_week 17 = .ok (.if_icmp .ne 8, 3) := by decide +kernel
theorem dX11_week_20 : decode cX11_week 20 = .ok (.bipush (-4), 2) := by decide +kernel
theorem dX11_week_22 : decode cX11_week 22 = .ok (.goto 7, 3) := by decide +kernel
theorem dX11_week_25 : decode cX11_week 25 = .ok (.aload_n 0, 1) := by decide +kernel
theorem dX11_week_26 : decode cX11_week 26 = .ok (.invokevirtual 243, 3) := by decide +kernel
theorem dX11_week_29 : decode cX11_week 29 = .ok (.ireturn, 1) := by decide +kernel
theorem dX11_demands_0 : decode cX11_demands 0 = .ok (.iconst 0, 1) := by decide +kernel
theorem dX11_demands_1 : decode cX11_demands 1 = .ok (.istore_n 2, 1) := by decide +kernel
theorem dX11_demands_2 : decode cX11_demands 2 = .ok (.iload_n 2, 1) := by decide +kernel
theorem dX11_demands_3 : decode cX11_demands 3 = .ok (.aload_n 0, 1) := by decide +kernel
theorem dX11_demands_4 : decode cX11_demands 4 = .ok (.getfield 166, 3) := by decide +kernel
theorem dX11_demands_7 : decode cX11_demands 7 = .ok (.if_icmp .ge 30, 3) := by decide +kernel
theorem dX11_demands_10 : decode cX11_demands 10 = .ok (.aload_n 0, 1) := by decide +kernel
theorem dX11_demands_11 : decode cX11_demands 11 = .ok (.getfield 37, 3) := by decide +kernel
theorem dX11_demands_14 : decode cX11_demands 14 = .ok (.iload_n 2, 1) := by decide +kernel
theorem dX11_demands_15 : decode cX11_demands 15 = .ok (.aload_n 0, 1) := by decide +kernel
theorem dX11_demands_16 : decode cX11_demands 16 = .ok (.getfield 7, 3) := by decide +kernel
theorem dX11_demands_19 : decode cX11_demands 19 = .ok (.iload_n 2, 1) := by decide +kernel
theorem dX11_demands_20 : decode cX11_demands 20 = .ok (.iaload, 1) := by decide +kernel
theorem dX11_demands_21 : decode cX11_demands 21 = .ok (.iconst 3, 1) := by decide +kernel
theorem dX11_demands_22 : decode cX11_demands 22 = .ok (.if_icmp .ne 7, 3) := by decide +kernel
theorem dX11_demands_25 : decode cX11_demands 25 = .ok (.iload_n 1, 1) := by decide +kernel
theorem dX11_demands_26 : decode cX11_demands 26 = .ok (.goto 4, 3) := by decide +kernel
theorem dX11_demands_29 : decode cX11_demands 29 = .ok (.iconst 0, 1) := by decide +kernel
theorem dX11_demands_30 : decode cX11_demands 30 = .ok (.iastore, 1) := by decide +kernel
theorem dX11_demands_31 : decode cX11_demands 31 = .ok (.iinc 2 1, 3) := by decide +kernel
theorem dX11_demands_34 : decode cX11_demands 34 = .ok (.goto (-32), 3) := by decide +kernel
theorem dX11_demands_37 : decode cX11_demands 37 = .ok (.return_, 1) := by decide +kernel
theorem dX11_weeks_0 : decode cX11_weeks 0 = .ok (.iload_n 1, 1) := by decide +kernel
theorem dX11_weeks_1 : decode cX11_weeks 1 = .ok (.i2l, 1) := by decide +kernel
theorem dX11_weeks_2 : decode cX11_weeks 2 = .ok (.lconst 1, 1) := by decide +kernel
theorem dX11_weeks_3 : decode cX11_weeks 3 = .ok (.ldc2_w 247, 3) := by decide +kernel
theorem dX11_weeks_6 : decode cX11_weeks 6 = .ok (.invokestatic 169, 3) := by decide +kernel
theorem dX11_weeks_9 : decode cX11_weeks 9 = .ok (.ifCond .eq 15, 3) := by decide +kernel
theorem dX11_weeks_12 : decode cX11_weeks 12 = .ok (.iload_n 2, 1) := by decide +kernel
theorem dX11_weeks_13 : decode cX11_weeks 13 = .ok (.i2l, 1) := by decide +kernel
theorem dX11_weeks_14 : decode cX11_weeks 14 = .ok (.lconst 0, 1) := by decide +kernel
theorem dX11_weeks_15 : decode cX11_weeks 15 = .ok (.ldc2_w 226, 3) := by decide +kernel
theorem dX11_weeks_18 : decode cX11_weeks 18 = .ok (.invokestatic 169, 3) := by decide +kernel
theorem dX11_weeks_21 : decode cX11_weeks 21 = .ok (.ifCond .ne 6, 3) := by decide +kernel
theorem dX11_weeks_24 : decode cX11_weeks 24 = .ok (.bipush (-2), 2) := by decide +kernel
theorem dX11_weeks_26 : decode cX11_weeks 26 = .ok (.ireturn, 1) := by decide +kernel
theorem dX11_weeks_27 : decode cX11_weeks 27 = .ok (.aload_n 0, 1) := by decide +kernel
theorem dX11_weeks_28 : decode cX11_weeks 28 = .ok (.getfield 166, 3) := by decide +kernel
theorem dX11_weeks_31 : decode cX11_weeks 31 = .ok (.ifCond .ne 6, 3) := by decide +kernel
theorem dX11_weeks_34 : decode cX11_weeks 34 = .ok (.bipush (-3), 2) := by decide +kernel
theorem dX11_weeks_36 : decode cX11_weeks 36 = .ok (.ireturn, 1) := by decide +kernel
theorem dX11_weeks_37 : decode cX11_weeks 37 = .ok (.aload_n 0, 1) := by decide +kernel
theorem dX11_weeks_38 : decode cX11_weeks 38 = .ok (.getfield 183, 3) := by decide +kernel
theorem dX11_weeks_41 : decode cX11_weeks 41 = .ok (.iload_n 1, 1) := by decide +kernel
theorem dX11_weeks_42 : decode cX11_weeks 42 = .ok (.iadd, 1) := by decide +kernel
theorem dX11_weeks_43 : decode cX11_weeks 43 = .ok (.sipush 400, 3) := by decide +kernel
theorem dX11_weeks_46 : decode cX11_weeks 46 = .ok (.if_icmp .le 6, 3) := by decide +kernel
theorem dX11_weeks_49 : decode cX11_weeks 49 = .ok (.bipush (-4), 2) := by decide +kernel
theorem dX11_weeks_51 : decode cX11_weeks 51 = .ok (.ireturn, 1) := by decide +kernel
theorem dX11_weeks_52 : decode cX11_weeks 52 = .ok (.iconst 0, 1) := by decide +kernel
theorem dX11_weeks_53 : decode cX11_weeks 53 = .ok (.istore_n 3, 1) := by decide +kernel
theorem dX11_weeks_54 : decode cX11_weeks 54 = .ok (.iconst 0, 1) := by decide +kernel
theorem dX11_weeks_55 : decode cX11_weeks 55 = .ok (.istore 4, 2) := by decide +kernel
theorem dX11_weeks_57 : decode cX11_weeks 57 = .ok (.iload 4, 2) := by decide +kernel
theorem dX11_weeks_59 : decode cX11_weeks 59 = .ok (.iload_n 1, 1) := by decide +kernel
theorem dX11_weeks_60 : decode cX11_weeks 60 = .ok (.if_icmp .ge 21, 3) := by decide +kernel
theorem dX11_weeks_63 : decode cX11_weeks 63 = .ok (.aload_n 0, 1) := by decide +kernel
theorem dX11_weeks_64 : decode cX11_weeks 64 = .ok (.iload_n 2, 1) := by decide +kernel
theorem dX11_weeks_65 : decode cX11_weeks 65 = .ok (.invokevirtual 249, 3) := by decide +kernel
theorem dX11_weeks_68 : decode cX11_weeks 68 = .ok (.iload_n 3, 1) := by decide +kernel
theorem dX11_weeks_69 : decode cX11_weeks 69 = .ok (.aload_n 0, 1) := by decide +kernel
theorem dX11_weeks_70 : decode cX11_weeks 70 = .ok (.invokevirtual 243, 3) := by decide +kernel
theorem dX11_weeks_73 : decode cX11_weeks 73 = .ok (.iadd, 1) := by decide +kernel
theorem dX11_weeks_74 : decode cX11_weeks 74 = .ok (.istore_n 3, 1) := by decide +kernel
theorem dX11_weeks_75 : decode cX11_weeks 75 = .ok (.iinc 4 1, 3) := by decide +kernel
theorem dX11_weeks_78 : decode cX11_weeks 78 = .ok (.goto (-21), 3) := by decide +kernel
theorem dX11_weeks_81 : decode cX11_weeks 81 = .ok (.iload_n 3, 1) := by decide +kernel
theorem dX11_weeks_82 : decode cX11_weeks 82 = .ok (.ireturn, 1) := by decide +kernel
theorem dX11_feed_0 : decode cX11_feed 0 = .ok (.iload_n 3, 1) := by decide +kernel
theorem dX11_feed_1 : decode cX11_feed 1 = .ok (.i2l, 1) := by decide +kernel
theorem dX11_feed_2 : decode cX11_feed 2 = .ok (.lconst 1, 1) := by decide +kernel
theorem dX11_feed_3 : decode cX11_feed 3 = .ok (.ldc2_w 252, 3) := by decide +kernel
theorem dX11_feed_6 : decode cX11_feed 6 = .ok (.invokestatic 169, 3) := by decide +kernel
theorem dX11_feed_9 : decode cX11_feed 9 = .ok (.ifCond .ne 6, 3) := by decide +kernel
theorem dX11_feed_12 : decode cX11_feed 12 = .ok (.bipush (-2), 2) := by decide +kernel
theorem dX11_feed_14 : decode cX11_feed 14 = .ok (.ireturn, 1) := by decide +kernel
theorem dX11_feed_15 : decode cX11_feed 15 = .ok (.aload_n 0, 1) := by decide +kernel
theorem dX11_feed_16 : decode cX11_feed 16 = .ok (.getfield 254, 3) := by decide +kernel
theorem dX11_feed_19 : decode cX11_feed 19 = .ok (.iload_n 3, 1) := by decide +kernel
theorem dX11_feed_20 : decode cX11_feed 20 = .ok (.iadd, 1) := by decide +kernel
theorem dX11_feed_21 : decode cX11_feed 21 = .ok (.bipush 120, 2) := by decide +kernel
theorem dX11_feed_23 : decode cX11_feed 23 = .ok (.if_icmp .le 6, 3) := by decide +kernel
theorem dX11_feed_26 : decode cX11_feed 26 = .ok (.bipush (-4), 2) := by decide +kernel
theorem dX11_feed_28 : decode cX11_feed 28 = .ok (.ireturn, 1) := by decide +kernel
theorem dX11_feed_29 : decode cX11_feed 29 = .ok (.iload_n 3, 1) := by decide +kernel
theorem dX11_feed_30 : decode cX11_feed 30 = .ok (.iconst 1, 1) := by decide +kernel
theorem dX11_feed_31 : decode cX11_feed 31 = .ok (.isub, 1) := by decide +kernel
theorem dX11_feed_32 : decode cX11_feed 32 = .ok (.istore 4, 2) := by decide +kernel
theorem dX11_feed_34 : decode cX11_feed 34 = .ok (.iload 4, 2) := by decide +kernel
theorem dX11_feed_36 : decode cX11_feed 36 = .ok (.ifCond .lt 40, 3) := by decide +kernel
theorem dX11_feed_39 : decode cX11_feed 39 = .ok (.aload_n 0, 1) := by decide +kernel
theorem dX11_feed_40 : decode cX11_feed 40 = .ok (.getfield 83, 3) := by decide +kernel
theorem dX11_feed_43 : decode cX11_feed 43 = .ok (.aload_n 0, 1) := by decide +kernel
theorem dX11_feed_44 : decode cX11_feed 44 = .ok (.getfield 254, 3) := by decide +kernel
theorem dX11_feed_47 : decode cX11_feed 47 = .ok (.lload_n 1, 1) := by decide +kernel
theorem dX11_feed_48 : decode cX11_feed 48 = .ok (.bipush 8, 2) := by decide +kernel
theorem dX11_feed_50 : decode cX11_feed 50 = .ok (.iload 4, 2) := by decide +kernel
theorem dX11_feed_52 : decode cX11_feed 52 = .ok (.imul, 1) := by decide +kernel
theorem dX11_feed_53 : decode cX11_feed 53 = .ok (.lshr, 1) := by decide +kernel
theorem dX11_feed_54 : decode cX11_feed 54 = .ok (.ldc2_w 257, 3) := by decide +kernel
theorem dX11_feed_57 : decode cX11_feed 57 = .ok (.land, 1) := by decide +kernel
theorem dX11_feed_58 : decode cX11_feed 58 = .ok (.l2i, 1) := by decide +kernel
theorem dX11_feed_59 : decode cX11_feed 59 = .ok (.iastore, 1) := by decide +kernel
theorem dX11_feed_60 : decode cX11_feed 60 = .ok (.aload_n 0, 1) := by decide +kernel
theorem dX11_feed_61 : decode cX11_feed 61 = .ok (.dup, 1) := by decide +kernel
theorem dX11_feed_62 : decode cX11_feed 62 = .ok (.getfield 254, 3) := by decide +kernel
theorem dX11_feed_65 : decode cX11_feed 65 = .ok (.iconst 1, 1) := by decide +kernel
theorem dX11_feed_66 : decode cX11_feed 66 = .ok (.iadd, 1) := by decide +kernel
theorem dX11_feed_67 : decode cX11_feed 67 = .ok (.putfield 254, 3) := by decide +kernel
theorem dX11_feed_70 : decode cX11_feed 70 = .ok (.iinc 4 (-1), 3) := by decide +kernel
theorem dX11_feed_73 : decode cX11_feed 73 = .ok (.goto (-39), 3) := by decide +kernel
theorem dX11_feed_76 : decode cX11_feed 76 = .ok (.aload_n 0, 1) := by decide +kernel
theorem dX11_feed_77 : decode cX11_feed 77 = .ok (.getfield 254, 3) := by decide +kernel
theorem dX11_feed_80 : decode cX11_feed 80 = .ok (.ireturn, 1) := by decide +kernel
theorem dX11_byteAt_0 : decode cX11_byteAt 0 = .ok (.iload_n 1, 1) := by decide +kernel
theorem dX11_byteAt_1 : decode cX11_byteAt 1 = .ok (.aload_n 0, 1) := by decide +kernel
theorem dX11_byteAt_2 : decode cX11_byteAt 2 = .ok (.getfield 254, 3) := by decide +kernel
theorem dX11_byteAt_5 : decode cX11_byteAt 5 = .ok (.if_icmp .ge 12, 3) := by decide +kernel
theorem dX11_byteAt_8 : decode cX11_byteAt 8 = .ok (.aload_n 0, 1) := by decide +kernel
theorem dX11_byteAt_9 : decode cX11_byteAt 9 = .ok (.getfield 83, 3) := by decide +kernel
theorem dX11_byteAt_12 : decode cX11_byteAt 12 = .ok (.iload_n 1, 1) := by decide +kernel
theorem dX11_byteAt_13 : decode cX11_byteAt 13 = .ok (.iaload, 1) := by decide +kernel
theorem dX11_byteAt_14 : decode cX11_byteAt 14 = .ok (.goto 4, 3) := by decide +kernel
theorem dX11_byteAt_17 : decode cX11_byteAt 17 = .ok (.iconst (-1), 1) := by decide +kernel
theorem dX11_byteAt_18 : decode cX11_byteAt 18 = .ok (.ireturn, 1) := by decide +kernel
theorem dX11_puts_0 : decode cX11_puts 0 = .ok (.aload_n 0, 1) := by decide +kernel
theorem dX11_puts_1 : decode cX11_puts 1 = .ok (.getfield 80, 3) := by decide +kernel
theorem dX11_puts_4 : decode cX11_puts 4 = .ok (.bipush 120, 2) := by decide +kernel
theorem dX11_puts_6 : decode cX11_puts 6 = .ok (.aload_n 0, 1) := by decide +kernel
theorem dX11_puts_7 : decode cX11_puts 7 = .ok (.getfield 195, 3) := by decide +kernel
theorem dX11_puts_10 : decode cX11_puts 10 = .ok (.imul, 1) := by decide +kernel
theorem dX11_puts_11 : decode cX11_puts 11 = .ok (.aload_n 0, 1) := by decide +kernel
theorem dX11_puts_12 : decode cX11_puts 12 = .ok (.getfield 259, 3) := by decide +kernel
theorem dX11_puts_15 : decode cX11_puts 15 = .ok (.iadd, 1) := by decide +kernel
theorem dX11_puts_16 : decode cX11_puts 16 = .ok (.iload_n 1, 1) := by decide +kernel
theorem dX11_puts_17 : decode cX11_puts 17 = .ok (.iastore, 1) := by decide +kernel
theorem dX11_puts_18 : decode cX11_puts 18 = .ok (.aload_n 0, 1) := by decide +kernel
theorem dX11_puts_19 : decode cX11_puts 19 = .ok (.dup, 1) := by decide +kernel
theorem dX11_puts_20 : decode cX11_puts 20 = .ok (.getfield 259, 3) := by decide +kernel
theorem dX11_puts_23 : decode cX11_puts 23 = .ok (.iconst 1, 1) := by decide +kernel
theorem dX11_puts_24 : decode cX11_puts 24 = .ok (.iadd, 1) := by decide +kernel
theorem dX11_puts_25 : decode cX11_puts 25 = .ok (.putfield 259, 3) := by decide +kernel
theorem dX11_puts_28 : decode cX11_puts 28 = .ok (.return_, 1) := by decide +kernel
theorem dX11_rank_0 : decode cX11_rank 0 = .ok (.iload_n 0, 1) := by decide +kernel
theorem dX11_rank_1 : decode cX11_rank 1 = .ok (.bipush 43, 2) := by decide +kernel
theorem dX11_rank_3 : decode cX11_rank 3 = .ok (.if_icmp .eq 9, 3) := by decide +kernel
theorem dX11_rank_6 : decode cX11_rank 6 = .ok (.iload_n 0, 1) := by decide +kernel
theorem dX11_rank_7 : decode cX11_rank 7 = .ok (.bipush 45, 2) := by decide +kernel
theorem dX11_rank_9 : decode cX11_rank 9 = .ok (.if_icmp .ne 7, 3) := by decide +kernel
theorem dX11_rank_12 : decode cX11_rank 12 = .ok (.iconst 1, 1) := by decide +kernel
theorem dX11_rank_13 : decode cX11_rank 13 = .ok (.goto 20, 3) := by decide +kernel
theorem dX11_rank_16 : decode cX11_rank 16 = .ok (.iload_n 0, 1) := by decide +kernel
theorem dX11_rank_17 : decode cX11_rank 17 = .ok (.bipush 42, 2) := by decide +kernel
theorem dX11_rank_19 : decode cX11_rank 19 = .ok (.if_icmp .eq 9, 3) := by decide +kernel
theorem dX11_rank_22 : decode cX11_rank 22 = .ok (.iload_n 0, 1) := by decide +kernel
theorem dX11_rank_23 : decode cX11_rank 23 = .ok (.bipush 47, 2) := by decide +kernel
theorem dX11_rank_25 : decode cX11_rank 25 = .ok (.if_icmp .ne 7, 3) := by decide +kernel
theorem dX11_rank_28 : decode cX11_rank 28 = .ok (.iconst 2, 1) := by decide +kernel
theorem dX11_rank_29 : decode cX11_rank 29 = .ok (.goto 4, 3) := by decide +kernel
theorem dX11_rank_32 : decode cX11_rank 32 = .ok (.iconst 0, 1) := by decide +kernel
theorem dX11_rank_33 : decode cX11_rank 33 = .ok (.ireturn, 1) := by decide +kernel
theorem dX11_unwinds_0 : decode cX11_unwinds 0 = .ok (.aload_n 0, 1) := by decide +kernel
theorem dX11_unwinds_1 : decode cX11_unwinds 1 = .ok (.getfield 262, 3) := by decide +kernel
theorem dX11_unwinds_4 : decode cX11_unwinds 4 = .ok (.ifCond .le 68, 3) := by decide +kernel
theorem dX11_unwinds_7 : decode cX11_unwinds 7 = .ok (.aload_n 0, 1) := by decide +kernel
theorem dX11_unwinds_8 : decode cX11_unwinds 8 = .ok (.getfield 89, 3) := by decide +kernel
theorem dX11_unwinds_11 : decode cX11_unwinds 11 = .ok (.aload_n 0, 1) := by decide +kernel
theorem dX11_unwinds_12 : decode cX11_unwinds 12 = .ok (.getfield 262, 3) := by decide +kernel
theorem dX11_unwinds_15 : decode cX11_unwinds 15 = .ok (.iconst 1, 1) := by decide +kernel
theorem dX11_unwinds_16 : decode cX11_unwinds 16 = .ok (.isub, 1) := by decide +kernel
theorem dX11_unwinds_17 : decode cX11_unwinds 17 = .ok (.iaload, 1) := by decide +kernel
theorem dX11_unwinds_18 : decode cX11_unwinds 18 = .ok (.invokestatic 265, 3) := by decide +kernel
theorem dX11_unwinds_21 : decode cX11_unwinds 21 = .ok (.iload_n 1, 1) := by decide +kernel
theorem dX11_unwinds_22 : decode cX11_unwinds 22 = .ok (.if_icmp .lt 50, 3) := by decide +kernel
theorem dX11_unwinds_25 : decode cX11_unwinds 25 = .ok (.aload_n 0, 1) := by decide +kernel
theorem dX11_unwinds_26 : decode cX11_unwinds 26 = .ok (.getfield 89, 3) := by decide +kernel
theorem dX11_unwinds_29 : decode cX11_unwinds 29 = .ok (.aload_n 0, 1) := by decide +kernel
theorem dX11_unwinds_30 : decode cX11_unwinds 30 = .ok (.getfield 262, 3) := by decide +kernel
theorem dX11_unwinds_33 : decode cX11_unwinds 33 = .ok (.iconst 1, 1) := by decide +kernel
theorem dX11_unwinds_34 : decode cX11_unwinds 34 = .ok (.isub, 1) := by decide +kernel
theorem dX11_unwinds_35 : decode cX11_unwinds 35 = .ok (.iaload, 1) := by decide +kernel
theorem dX11_unwinds_36 : decode cX11_unwinds 36 = .ok (.invokestatic 265, 3) := by decide +kernel
theorem dX11_unwinds_39 : decode cX11_unwinds 39 = .ok (.ifCond .le 33, 3) := by decide +kernel
theorem dX11_unwinds_42 : decode cX11_unwinds 42 = .ok (.aload_n 0, 1) := by decide +kernel
theorem dX11_unwinds_43 : decode cX11_unwinds 43 = .ok (.dup, 1) := by decide +kernel
theorem dX11_unwinds_44 : decode cX11_unwinds 44 = .ok (.getfield 262, 3) := by decide +kernel
theorem dX11_unwinds_47 : decode cX11_unwinds 47 = .ok (.iconst 1, 1) := by decide +kernel
theorem dX11_unwinds_48 : decode cX11_unwinds 48 = .ok (.isub, 1) := by decide +kernel
theorem dX11_unwinds_49 : decode cX11_unwinds 49 = .ok (.putfield 262, 3) := by decide +kernel
theorem dX11_unwinds_52 : decode cX11_unwinds 52 = .ok (.aload_n 0, 1) := by decide +kernel
theorem dX11_unwinds_53 : decode cX11_unwinds 53 = .ok (.sipush 20000, 3) := by decide +kernel
theorem dX11_unwinds_56 : decode cX11_unwinds 56 = .ok (.aload_n 0, 1) := by decide +kernel
theorem dX11_unwinds_57 : decode cX11_unwinds 57 = .ok (.getfield 89, 3) := by decide +kernel
theorem dX11_unwinds_60 : decode cX11_unwinds 60 = .ok (.aload_n 0, 1) := by decide +kernel
theorem dX11_unwinds_61 : decode cX11_unwinds 61 = .ok (.getfield 262, 3) := by decide +kernel
theorem dX11_unwinds_64 : decode cX11_unwinds 64 = .ok (.iaload, 1) := by decide +kernel
theorem dX11_unwinds_65 : decode cX11_unwinds 65 = .ok (.iadd, 1) := by decide +kernel
theorem dX11_unwinds_66 : decode cX11_unwinds 66 = .ok (.invokevirtual 269, 3) := by decide +kernel
theorem dX11_unwinds_69 : decode cX11_unwinds 69 = .ok (.goto (-69), 3) := by decide +kernel
theorem dX11_unwinds_72 : decode cX11_unwinds 72 = .ok (.return_, 1) := by decide +kernel
theorem dX11_readWord_0 : decode cX11_readWord 0 = .ok (.sipush 511, 3) := by decide +kernel
theorem dX11_readWord_3 : decode cX11_readWord 3 = .ok (.istore_n 2, 1) := by decide +kernel
theorem dX11_readWord_4 : decode cX11_readWord 4 = .ok (.iconst 0, 1) := by decide +kernel
theorem dX11_readWord_5 : decode cX11_readWord 5 = .ok (.istore_n 3, 1) := by decide +kernel
theorem dX11_readWord_6 : decode cX11_readWord 6 = .ok (.aload_n 0, 1) := by decide +kernel
theorem dX11_readWord_7 : decode cX11_readWord 7 = .ok (.iload_n 1, 1) := by decide +kernel
theorem dX11_readWord_8 : decode cX11_readWord 8 = .ok (.iload_n 3, 1) := by decide +kernel
theorem dX11_readWord_9 : decode cX11_readWord 9 = .ok (.iadd, 1) := by decide +kernel
theorem dX11_readWord_10 : decode cX11_readWord 10 = .ok (.invokevirtual 272, 3) := by decide +kernel
theorem dX11_readWord_13 : decode cX11_readWord 13 = .ok (.istore 4, 2) := by decide +kernel
theorem dX11_readWord_15 : decode cX11_readWord 15 = .ok (.iconst 0, 1) := by decide +kernel
theorem dX11_readWord_16 : decode cX11_readWord 16 = .ok (.istore 5, 2) := by decide +kernel
theorem dX11_readWord_18 : decode cX11_readWord 18 = .ok (.iconst 0, 1) := by decide +kernel
theorem dX11_readWord_19 : decode cX11_readWord 19 = .ok (.istore 6, 2) := by decide +kernel
theorem dX11_readWord_21 : decode cX11_readWord 21 = .ok (.iload 6, 2) := by decide +kernel
theorem dX11_readWord_23 : decode cX11_readWord 23 = .ok (.bipush 9, 2) := by decide +kernel
theorem dX11_readWord_25 : decode cX11_readWord 25 = .ok (.if_icmp .ge 71, 3) := by decide +kernel
theorem dX11_readWord_28 : decode cX11_readWord 28 = .ok (.iload_n 2, 1) := by decide +kernel
theorem dX11_readWord_29 : decode cX11_readWord 29 = .ok (.iload 6, 2) := by decide +kernel
theorem dX11_readWord_31 : decode cX11_readWord 31 = .ok (.ishr, 1) := by decide +kernel
theorem dX11_readWord_32 : decode cX11_readWord 32 = .ok (.iconst 1, 1) := by decide +kernel
theorem dX11_readWord_33 : decode cX11_readWord 33 = .ok (.iand, 1) := by decide +kernel
theorem dX11_readWord_34 : decode cX11_readWord 34 = .ok (.iconst 1, 1) := by decide +kernel
theorem dX11_readWord_35 : decode cX11_readWord 35 = .ok (.if_icmp .ne 34, 3) := by decide +kernel
theorem dX11_readWord_38 : decode cX11_readWord 38 = .ok (.iload_n 3, 1) := by decide +kernel
theorem dX11_readWord_39 : decode cX11_readWord 39 = .ok (.iconst 5, 1) := by decide +kernel
theorem dX11_readWord_40 : decode cX11_readWord 40 = .ok (.if_icmp .ge 29, 3) := by decide +kernel
theorem dX11_readWord_43 : decode cX11_readWord 43 = .ok (.aload_n 0, 1) := by decide +kernel
theorem dX11_readWord_44 : decode cX11_readWord 44 = .ok (.getfield 86, 3) := by decide +kernel
theorem dX11_readWord_47 : decode cX11_readWord 47 = .ok (.bipush 6, 2) := by decide +kernel
theorem dX11_readWord_49 : decode cX11_readWord 49 = .ok (.iload 6, 2) := by decide +kernel
theorem dX11_readWord_51 : decode cX11_readWord 51 = .ok (.imul, 1) := by decide +kernel
theorem dX11_readWord_52 : decode cX11_readWord 52 = .ok (.iload_n 3, 1) := by decide +kernel
theorem dX11_readWord_53 : decode cX11_readWord 53 = .ok (.iadd, 1) := by decide +kernel
theorem dX11_readWord_54 : decode cX11_readWord 54 = .ok (.iaload, 1) := by decide +kernel
theorem dX11_readWord_55 : decode cX11_readWord 55 = .ok (.iload 4, 2) := by decide +kernel
theorem dX11_readWord_57 : decode cX11_readWord 57 = .ok (.if_icmp .ne 12, 3) := by decide +kernel
theorem dX11_readWord_60 : decode cX11_readWord 60 = .ok (.iload 4, 2) := by decide +kernel
theorem dX11_readWord_62 : decode cX11_readWord 62 = .ok (.ifCond .le 7, 3) := by decide +kernel
theorem dX11_readWord_65 : decode cX11_readWord 65 = .ok (.iconst 1, 1) := by decide +kernel
theorem dX11_readWord_66 : decode cX11_readWord 66 = .ok (.goto 4, 3) := by decide +kernel
theorem dX11_readWord_69 : decode cX11_readWord 69 = .ok (.iconst 0, 1) := by decide +kernel
theorem dX11_readWord_70 : decode cX11_readWord 70 = .ok (.istore 7, 2) := by decide +kernel
theorem dX11_readWord_72 : decode cX11_readWord 72 = .ok (.iload 5, 2) := by decide +kernel
theorem dX11_readWord_74 : decode cX11_readWord 74 = .ok (.iload 7, 2) := by decide +kernel
theorem dX11_readWord_76 : decode cX11_readWord 76 = .ok (.ifCond .eq 10, 3) := by decide +kernel
theorem dX11_readWord_79 : decode cX11_readWord 79 = .ok (.iconst 1, 1) := by decide +kernel
theorem dX11_readWord_80 : decode cX11_readWord 80 = .ok (.iload 6, 2) := by decide +kernel
theorem dX11_readWord_82 : decode cX11_readWord 82 = .ok (.ishl, 1) := by decide +kernel
theorem dX11_readWord_83 : decode cX11_readWord 83 = .ok (.goto 4, 3) := by decide +kernel
theorem dX11_readWord_86 : decode cX11_readWord 86 = .ok (.iconst 0, 1) := by decide +kernel
theorem dX11_readWord_87 : decode cX11_readWord 87 = .ok (.ior, 1) := by decide +kernel
theorem dX11_readWord_88 : decode cX11_readWord 88 = .ok (.istore 5, 2) := by decide +kernel
theorem dX11_readWord_90 : decode cX11_readWord 90 = .ok (.iinc 6 1, 3) := by decide +kernel
theorem dX11_readWord_93 : decode cX11_readWord 93 = .ok (.goto (-72), 3) := by decide +kernel
theorem dX11_readWord_96 : decode cX11_readWord 96 = .ok (.iload 5, 2) := by decide +kernel
theorem dX11_readWord_98 : decode cX11_readWord 98 = .ok (.ifCond .ne 9, 3) := by decide +kernel
theorem dX11_readWord_101 : decode cX11_readWord 101 = .ok (.iconst (-1), 1) := by decide +kernel
theorem dX11_readWord_102 : decode cX11_readWord 102 = .ok (.iload_n 1, 1) := by decide +kernel
theorem dX11_readWord_103 : decode cX11_readWord 103 = .ok (.isub, 1) := by decide +kernel
theorem dX11_readWord_104 : decode cX11_readWord 104 = .ok (.iload_n 3, 1) := by decide +kernel
theorem dX11_readWord_105 : decode cX11_readWord 105 = .ok (.isub, 1) := by decide +kernel
theorem dX11_readWord_106 : decode cX11_readWord 106 = .ok (.ireturn, 1) := by decide +kernel
theorem dX11_readWord_107 : decode cX11_readWord 107 = .ok (.iload 5, 2) := by decide +kernel
theorem dX11_readWord_109 : decode cX11_readWord 109 = .ok (.istore_n 2, 1) := by decide +kernel
theorem dX11_readWord_110 : decode cX11_readWord 110 = .ok (.iinc 3 1, 3) := by decide +kernel
theorem dX11_readWord_113 : decode cX11_readWord 113 = .ok (.iconst 0, 1) := by decide +kernel
theorem dX11_readWord_114 : decode cX11_readWord 114 = .ok (.istore 6, 2) := by decide +kernel
theorem dX11_readWord_116 : decode cX11_readWord 116 = .ok (.iload 6, 2) := by decide +kernel
theorem dX11_readWord_118 : decode cX11_readWord 118 = .ok (.bipush 9, 2) := by decide +kernel
theorem dX11_readWord_120 : decode cX11_readWord 120 = .ok (.if_icmp .ge 44, 3) := by decide +kernel
theorem dX11_readWord_123 : decode cX11_readWord 123 = .ok (.iload_n 2, 1) := by decide +kernel
theorem dX11_readWord_124 : decode cX11_readWord 124 = .ok (.iload 6, 2) := by decide +kernel
theorem dX11_readWord_126 : decode cX11_readWord 126 = .ok (.ishr, 1) := by decide +kernel
theorem dX11_readWord_127 : decode cX11_readWord 127 = .ok (.iconst 1, 1) := by decide +kernel
theorem dX11_readWord_128 : decode cX11_readWord 128 = .ok (.iand, 1) := by decide +kernel
theorem dX11_readWord_129 : decode cX11_readWord 129 = .ok (.iconst 1, 1) := by decide +kernel
theorem dX11_readWord_130 : decode cX11_readWord 130 = .ok (.if_icmp .ne 28, 3) := by decide +kernel
theorem dX11_readWord_133 : decode cX11_readWord 133 = .ok (.aload_n 0, 1) := by decide +kernel
theorem dX11_readWord_134 : decode cX11_readWord 134 = .ok (.getfield 86, 3) := by decide +kernel
theorem dX11_readWord_137 : decode cX11_readWord 137 = .ok (.bipush 6, 2) := by decide +kernel
theorem dX11_readWord_139 : decode cX11_readWord 139 = .ok (.iload 6, 2) := by decide +kernel
theorem dX11_readWord_141 : decode cX11_readWord 141 = .ok (.imul, 1) := by decide +kernel
theorem dX11_readWord_142 : decode cX11_readWord 142 = .ok (.iload_n 3, 1) := by decide +kernel
theorem dX11_readWord_143 : decode cX11_readWord 143 = .ok (.iadd, 1) := by decide +kernel
theorem dX11_readWord_144 : decode cX11_readWord 144 = .ok (.iaload, 1) := by decide +kernel
theorem dX11_readWord_145 : decode cX11_readWord 145 = .ok (.ifCond .ne 13, 3) := by decide +kernel
theorem dX11_readWord_148 : decode cX11_readWord 148 = .ok (.aload_n 0, 1) := by decide +kernel
theorem dX11_readWord_149 : decode cX11_readWord 149 = .ok (.iload 6, 2) := by decide +kernel
theorem dX11_readWord_151 : decode cX11_readWord 151 = .ok (.putfield 275, 3) := by decide +kernel
theorem dX11_readWord_154 : decode cX11_readWord 154 = .ok (.iload_n 1, 1) := by decide +kernel
theorem dX11_readWord_155 : decode cX11_readWord 155 = .ok (.iload_n 3, 1) := by decide +kernel
theorem dX11_readWord_156 : decode cX11_readWord 156 = .ok (.iadd, 1) := by decide +kernel
theorem dX11_readWord_157 : decode cX11_readWord 157 = .ok (.ireturn, 1) := by decide +kernel
theorem dX11_readWord_158 : decode cX11_readWord 158 = .ok (.iinc 6 1, 3) := by decide +kernel
theorem dX11_readWord_161 : decode cX11_readWord 161 = .ok (.goto (-45), 3) := by decide +kernel
theorem dX11_readWord_164 : decode cX11_readWord 164 = .ok (.goto (-158), 3) := by decide +kernel
theorem dX11_operand_0 : decode cX11_operand 0 = .ok (.aload_n 0, 1) := by decide +kernel
theorem dX11_operand_1 : decode cX11_operand 1 = .ok (.iload_n 1, 1) := by decide +kernel
theorem dX11_operand_2 : decode cX11_operand 2 = .ok (.invokevirtual 272, 3) := by decide +kernel
theorem dX11_operand_5 : decode cX11_operand 5 = .ok (.istore_n 2, 1) := by decide +kernel
theorem dX11_operand_6 : decode cX11_operand 6 = .ok (.iload_n 2, 1) := by decide +kernel
theorem dX11_operand_7 : decode cX11_operand 7 = .ok (.i2l, 1) := by decide +kernel
theorem dX11_operand_8 : decode cX11_operand 8 = .ok (.ldc2_w 278, 3) := by decide +kernel
theorem dX11_operand_11 : decode cX11_operand 11 = .ok (.ldc2_w 280, 3) := by decide +kernel
theorem dX11_operand_14 : decode cX11_operand 14 = .ok (.invokestatic 169, 3) := by decide +kernel
theorem dX11_operand_17 : decode cX11_operand 17 = .ok (.ifCond .eq 64, 3) := by decide +kernel
theorem dX11_operand_20 : decode cX11_operand 20 = .ok (.iconst 0, 1) := by decide +kernel
theorem dX11_operand_21 : decode cX11_operand 21 = .ok (.istore_n 3, 1) := by decide +kernel
theorem dX11_operand_22 : decode cX11_operand 22 = .ok (.iload_n 1, 1) := by decide +kernel
theorem dX11_operand_23 : decode cX11_operand 23 = .ok (.istore 4, 2) := by decide +kernel
theorem dX11_operand_25 : decode cX11_operand 25 = .ok (.aload_n 0, 1) := by decide +kernel
theorem dX11_operand_26 : decode cX11_operand 26 = .ok (.iload 4, 2) := by decide +kernel
theorem dX11_operand_28 : decode cX11_operand 28 = .ok (.invokevirtual 272, 3) := by decide +kernel
theorem dX11_operand_31 : decode cX11_operand 31 = .ok (.i2l, 1) := by decide +kernel
theorem dX11_operand_32 : decode cX11_operand 32 = .ok (.ldc2_w 278, 3) := by decide +kernel
theorem dX11_operand_35 : decode cX11_operand 35 = .ok (.ldc2_w 280, 3) := by decide +kernel
theorem dX11_operand_38 : decode cX11_operand 38 = .ok (.invokestatic 169, 3) := by decide +kernel
theorem dX11_operand_41 : decode cX11_operand 41 = .ok (.ifCond .eq 32, 3) := by decide +kernel
theorem dX11_operand_44 : decode cX11_operand 44 = .ok (.iload 4, 2) := by decide +kernel
theorem dX11_operand_46 : decode cX11_operand 46 = .ok (.iload_n 1, 1) := by decide +kernel
theorem dX11_operand_47 : decode cX11_operand 47 = .ok (.iconst 4, 1) := by decide +kernel
theorem dX11_operand_48 : decode cX11_operand 48 = .ok (.iadd, 1) := by decide +kernel
theorem dX11_operand_49 : decode cX11_operand 49 = .ok (.if_icmp .ge 24, 3) := by decide +kernel
theorem dX11_operand_52 : decode cX11_operand 52 = .ok (.bipush 10, 2) := by decide +kernel
theorem dX11_operand_54 : decode cX11_operand 54 = .ok (.iload_n 3, 1) := by decide +kernel
theorem dX11_operand_55 : decode cX11_operand 55 = .ok (.imul, 1) := by decide +kernel
theorem dX11_operand_56 : decode cX11_operand 56 = .ok (.aload_n 0, 1) := by decide +kernel
theorem dX11_operand_57 : decode cX11_operand 57 = .ok (.iload 4, 2) := by decide +kernel
theorem dX11_operand_59 : decode cX11_operand 59 = .ok (.invokevirtual 272, 3) := by decide +kernel
theorem dX11_operand_62 : decode cX11_operand 62 = .ok (.iadd, 1) := by decide +kernel
theorem dX11_operand_63 : decode cX11_operand 63 = .ok (.bipush 48, 2) := by decide +kernel
theorem dX11_operand_65 : decode cX11_operand 65 = .ok (.isub, 1) := by decide +kernel
theorem dX11_operand_66 : decode cX11_operand 66 = .ok (.istore_n 3, 1) := by decide +kernel
theorem dX11_operand_67 : decode cX11_operand 67 = .ok (.iinc 4 1, 3) := by decide +kernel
theorem dX11_operand_70 : decode cX11_operand 70 = .ok (.goto (-45), 3) := by decide +kernel
theorem dX11_operand_73 : decode cX11_operand 73 = .ok (.aload_n 0, 1) := by decide +kernel
theorem dX11_operand_74 : decode cX11_operand 74 = .ok (.iload_n 3, 1) := by decide +kernel
theorem dX11_operand_75 : decode cX11_operand 75 = .ok (.invokevirtual 269, 3) := by decide +kernel
theorem dX11_operand_78 : decode cX11_operand 78 = .ok (.iload 4, 2) := by decide +kernel
theorem dX11_operand_80 : decode cX11_operand 80 = .ok (.ireturn, 1) := by decide +kernel
theorem dX11_operand_81 : decode cX11_operand 81 = .ok (.iload_n 2, 1) := by decide +kernel
theorem dX11_operand_82 : decode cX11_operand 82 = .ok (.bipush 40, 2) := by decide +kernel
theorem dX11_operand_84 : decode cX11_operand 84 = .ok (.if_icmp .ne 11, 3) := by decide +kernel
theorem dX11_operand_87 : decode cX11_operand 87 = .ok (.aload_n 0, 1) := by decide +kernel
theorem dX11_operand_88 : decode cX11_operand 88 = .ok (.iload_n 1, 1) := by decide +kernel
theorem dX11_operand_89 : decode cX11_operand 89 = .ok (.bipush 40, 2) := by decide +kernel
theorem dX11_operand_91 : decode cX11_operand 91 = .ok (.invokevirtual 282, 3) := by decide +kernel
theorem dX11_operand_94 : decode cX11_operand 94 = .ok (.ireturn, 1) := by decide +kernel
theorem dX11_operand_95 : decode cX11_operand 95 = .ok (.aload_n 0, 1) := by decide +kernel
theorem dX11_operand_96 : decode cX11_operand 96 = .ok (.iload_n 1, 1) := by decide +kernel
theorem dX11_operand_97 : decode cX11_operand 97 = .ok (.invokevirtual 286, 3) := by decide +kernel
theorem dX11_operand_100 : decode cX11_operand 100 = .ok (.istore_n 3, 1) := by decide +kernel
theorem dX11_operand_101 : decode cX11_operand 101 = .ok (.iload_n 3, 1) := by decide +kernel
theorem dX11_operand_102 : decode cX11_operand 102 = .ok (.ifCond .ge 5, 3) := by decide +kernel
theorem dX11_operand_105 : decode cX11_operand 105 = .ok (.iload_n 3, 1) := by decide +kernel
theorem dX11_operand_106 : decode cX11_operand 106 = .ok (.ireturn, 1) := by decide +kernel
theorem dX11_operand_107 : decode cX11_operand 107 = .ok (.aload_n 0, 1) := by decide +kernel
theorem dX11_operand_108 : decode cX11_operand 108 = .ok (.getfield 275, 3) := by decide +kernel
theorem dX11_operand_111 : decode cX11_operand 111 = .ok (.bipush 7, 2) := by decide +kernel
theorem dX11_operand_113 : decode cX11_operand 113 = .ok (.if_icmp .ge 17, 3) := by decide +kernel
theorem dX11_operand_116 : decode cX11_operand 116 = .ok (.aload_n 0, 1) := by decide +kernel
theorem dX11_operand_117 : decode cX11_operand 117 = .ok (.sipush 10000, 3) := by decide +kernel
theorem dX11_operand_120 : decode cX11_operand 120 = .ok (.aload_n 0, 1) := by decide +kernel
theorem dX11_operand_121 : decode cX11_operand 121 = .ok (.getfield 275, 3) := by decide +kernel
theorem dX11_operand_124 : decode cX11_operand 124 = .ok (.iadd, 1) := by decide +kernel
theorem dX11_operand_125 : decode cX11_operand 125 = .ok (.invokevirtual 269, 3) := by decide +kernel
theorem dX11_operand_128 : decode cX11_operand 128 = .ok (.iload_n 3, 1) := by decide +kernel
theorem dX11_operand_129 : decode cX11_operand 129 = .ok (.ireturn, 1) := by decide +kernel
theorem dX11_operand_130 : decode cX11_operand 130 = .ok (.aload_n 0, 1) := by decide +kernel
theorem dX11_operand_131 : decode cX11_operand 131 = .ok (.iload_n 3, 1) := by decide +kernel
theorem dX11_operand_132 : decode cX11_operand 132 = .ok (.invokevirtual 272, 3) := by decide +kernel
theorem dX11_operand_135 : decode cX11_operand 135 = .ok (.bipush 40, 2) := by decide +kernel
theorem dX11_operand_137 : decode cX11_operand 137 = .ok (.if_icmp .ne 27, 3) := by decide +kernel
theorem dX11_operand_140 : decode cX11_operand 140 = .ok (.aload_n 0, 1) := by decide +kernel
theorem dX11_operand_141 : decode cX11_operand 141 = .ok (.iload_n 3, 1) := by decide +kernel
theorem dX11_operand_142 : decode cX11_operand 142 = .ok (.aload_n 0, 1) := by decide +kernel
theorem dX11_operand_143 : decode cX11_operand 143 = .ok (.getfield 275, 3) := by decide +kernel
theorem dX11_operand_146 : decode cX11_operand 146 = .ok (.bipush 7, 2) := by decide +kernel
theorem dX11_operand_148 : decode cX11_operand 148 = .ok (.if_icmp .ne 8, 3) := by decide +kernel
theorem dX11_operand_151 : decode cX11_operand 151 = .ok (.bipush 109, 2) := by decide +kernel
theorem dX11_operand_153 : decode cX11_operand 153 = .ok (.goto 5, 3) := by decide +kernel
theorem dX11_operand_156 : decode cX11_operand 156 = .ok (.bipush 120, 2) := by decide +kernel
theorem dX11_operand_158 : decode cX11_operand 158 = .ok (.invokevirtual 282, 3) := by decide +kernel
theorem dX11_operand_161 : decode cX11_operand 161 = .ok (.goto 6, 3) := by decide +kernel
theorem dX11_operand_164 : decode cX11_operand 164 = .ok (.iconst (-1), 1) := by decide +kernel
theorem dX11_operand_165 : decode cX11_operand 165 = .ok (.iload_n 3, 1) := by decide +kernel
theorem dX11_operand_166 : decode cX11_operand 166 = .ok (.isub, 1) := by decide +kernel
theorem dX11_operand_167 : decode cX11_operand 167 = .ok (.ireturn, 1) := by decide +kernel
theorem dX11_opensAt_0 : decode cX11_opensAt 0 = .ok (.aload_n 0, 1) := by decide +kernel
theorem dX11_opensAt_1 : decode cX11_opensAt 1 = .ok (.getfield 289, 3) := by decide +kernel
theorem dX11_opensAt_4 : decode cX11_opensAt 4 = .ok (.bipush 6, 2) := by decide +kernel
theorem dX11_opensAt_6 : decode cX11_opensAt 6 = .ok (.if_icmp .ne 7, 3) := by decide +kernel
theorem dX11_opensAt_9 : decode cX11_opensAt 9 = .ok (.iconst (-1), 1) := by decide +kernel
theorem dX11_opensAt_10 : decode cX11_opensAt 10 = .ok (.iload_n 1, 1) := by decide +kernel
theorem dX11_opensAt_11 : decode cX11_opensAt 11 = .ok (.isub, 1) := by decide +kernel
theorem dX11_opensAt_12 : decode cX11_opensAt 12 = .ok (.ireturn, 1) := by decide +kernel
theorem dX11_opensAt_13 : decode cX11_opensAt 13 = .ok (.aload_n 0, 1) := by decide +kernel
theorem dX11_opensAt_14 : decode cX11_opensAt 14 = .ok (.dup, 1) := by decide +kernel
theorem dX11_opensAt_15 : decode cX11_opensAt 15 = .ok (.getfield 289, 3) := by decide +kernel
theorem dX11_opensAt_18 : decode cX11_opensAt 18 = .ok (.iconst 1, 1) := by decide +kernel
theorem dX11_opensAt_19 : decode cX11_opensAt 19 = .ok (.iadd, 1) := by decide +kernel
theorem dX11_opensAt_20 : decode cX11_opensAt 20 = .ok (.putfield 289, 3) := by decide +kernel
theorem dX11_opensAt_23 : decode cX11_opensAt 23 = .ok (.aload_n 0, 1) := by decide +kernel
theorem dX11_opensAt_24 : decode cX11_opensAt 24 = .ok (.getfield 89, 3) := by decide +kernel
theorem dX11_opensAt_27 : decode cX11_opensAt 27 = .ok (.aload_n 0, 1) := by decide +kernel
theorem dX11_opensAt_28 : decode cX11_opensAt 28 = .ok (.getfield 262, 3) := by decide +kernel
theorem dX11_opensAt_31 : decode cX11_opensAt 31 = .ok (.iload_n 2, 1) := by decide +kernel
theorem dX11_opensAt_32 : decode cX11_opensAt 32 = .ok (.iastore, 1) := by decide +kernel
theorem dX11_opensAt_33 : decode cX11_opensAt 33 = .ok (.aload_n 0, 1) := by decide +kernel
theorem dX11_opensAt_34 : decode cX11_opensAt 34 = .ok (.dup, 1) := by decide +kernel
theorem dX11_opensAt_35 : decode cX11_opensAt 35 = .ok (.getfield 262, 3) := by decide +kernel
theorem dX11_opensAt_38 : decode cX11_opensAt 38 = .ok (.iconst 1, 1) := by decide +kernel
theorem dX11_opensAt_39 : decode cX11_opensAt 39 = .ok (.iadd, 1) := by decide +kernel
theorem dX11_opensAt_40 : decode cX11_opensAt 40 = .ok (.putfield 262, 3) := by decide +kernel
theorem dX11_opensAt_43 : decode cX11_opensAt 43 = .ok (.iload_n 1, 1) := by decide +kernel
theorem dX11_opensAt_44 : decode cX11_opensAt 44 = .ok (.iconst 1, 1) := by decide +kernel
theorem dX11_opensAt_45 : decode cX11_opensAt 45 = .ok (.iadd, 1) := by decide +kernel
theorem dX11_opensAt_46 : decode cX11_opensAt 46 = .ok (.ireturn, 1) := by decide +kernel
theorem dX11_behind_0 : decode cX11_behind 0 = .ok (.aload_n 0, 1) := by decide +kernel
theorem dX11_behind_1 : decode cX11_behind 1 = .ok (.iload_n 1, 1) := by decide +kernel
theorem dX11_behind_2 : decode cX11_behind 2 = .ok (.invokevirtual 272, 3) := by decide +kernel
theorem dX11_behind_5 : decode cX11_behind 5 = .ok (.istore_n 2, 1) := by decide +kernel
theorem dX11_behind_6 : decode cX11_behind 6 = .ok (.iload_n 2, 1) := by decide +kernel
theorem dX11_behind_7 : decode cX11_behind 7 = .ok (.invokestatic 265, 3) := by decide +kernel
theorem dX11_behind_10 : decode cX11_behind 10 = .ok (.ifCond .le 35, 3) := by decide +kernel
theorem dX11_behind_13 : decode cX11_behind 13 = .ok (.aload_n 0, 1) := by decide +kernel
theorem dX11_behind_14 : decode cX11_behind 14 = .ok (.iload_n 2, 1) := by decide +kernel
theorem dX11_behind_15 : decode cX11_behind 15 = .ok (.invokestatic 265, 3) := by decide +kernel
theorem dX11_behind_18 : decode cX11_behind 18 = .ok (.invokevirtual 292, 3) := by decide +kernel
theorem dX11_behind_21 : decode cX11_behind 21 = .ok (.aload_n 0, 1) := by decide +kernel
theorem dX11_behind_22 : decode cX11_behind 22 = .ok (.getfield 89, 3) := by decide +kernel
theorem dX11_behind_25 : decode cX11_behind 25 = .ok (.aload_n 0, 1) := by decide +kernel
theorem dX11_behind_26 : decode cX11_behind 26 = .ok (.getfield 262, 3) := by decide +kernel
theorem dX11_behind_29 : decode cX11_behind 29 = .ok (.iload_n 2, 1) := by decide +kernel
theorem dX11_behind_30 : decode cX11_behind 30 = .ok (.iastore, 1) := by decide +kernel
theorem dX11_behind_31 : decode cX11_behind 31 = .ok (.aload_n 0, 1) := by decide +kernel
theorem dX11_behind_32 : decode cX11_behind 32 = .ok (.dup, 1) := by decide +kernel
theorem dX11_behind_33 : decode cX11_behind 33 = .ok (.getfield 262, 3) := by decide +kernel
theorem dX11_behind_36 : decode cX11_behind 36 = .ok (.iconst 1, 1) := by decide +kernel
theorem dX11_behind_37 : decode cX11_behind 37 = .ok (.iadd, 1) := by decide +kernel
theorem dX11_behind_38 : decode cX11_behind 38 = .ok (.putfield 262, 3) := by decide +kernel
theorem dX11_behind_41 : decode cX11_behind 41 = .ok (.iload_n 1, 1) := by decide +kernel
theorem dX11_behind_42 : decode cX11_behind 42 = .ok (.iconst 1, 1) := by decide +kernel
theorem dX11_behind_43 : decode cX11_behind 43 = .ok (.iadd, 1) := by decide +kernel
theorem dX11_behind_44 : decode cX11_behind 44 = .ok (.ireturn, 1) := by decide +kernel
theorem dX11_behind_45 : decode cX11_behind 45 = .ok (.aload_n 0, 1) := by decide +kernel
theorem dX11_behind_46 : decode cX11_behind 46 = .ok (.getfield 262, 3) := by decide +kernel
theorem dX11_behind_49 : decode cX11_behind 49 = .ok (.iconst 1, 1) := by decide +kernel
theorem dX11_behind_50 : decode cX11_behind 50 = .ok (.isub, 1) := by decide +kernel
theorem dX11_behind_51 : decode cX11_behind 51 = .ok (.istore_n 3, 1) := by decide +kernel
theorem dX11_behind_52 : decode cX11_behind 52 = .ok (.iload_n 3, 1) := by decide +kernel
theorem dX11_behind_53 : decode cX11_behind 53 = .ok (.ifCond .lt 21, 3) := by decide +kernel
theorem dX11_behind_56 : decode cX11_behind 56 = .ok (.aload_n 0, 1) := by decide +kernel
theorem dX11_behind_57 : decode cX11_behind 57 = .ok (.getfield 89, 3) := by decide +kernel
theorem dX11_behind_60 : decode cX11_behind 60 = .ok (.iload_n 3, 1) := by decide +kernel
theorem dX11_behind_61 : decode cX11_behind 61 = .ok (.iaload, 1) := by decide +kernel
theorem dX11_behind_62 : decode cX11_behind 62 = .ok (.invokestatic 265, 3) := by decide +kernel
theorem dX11_behind_65 : decode cX11_behind 65 = .ok (.ifCond .le 9, 3) := by decide +kernel
theorem dX11_behind_68 : decode cX11_behind 68 = .ok (.iinc 3 (-1), 3) := by decide +kernel
theorem dX11_behind_71 : decode cX11_behind 71 = .ok (.goto (-19), 3) := by decide +kernel
theorem dX11_behind_74 : decode cX11_behind 74 = .ok (.iload_n 3, 1) := by decide +kernel
theorem dX11_behind_75 : decode cX11_behind 75 = .ok (.ifCond .ge 7, 3) := by decide +kernel
theorem dX11_behind_78 : decode cX11_behind 78 = .ok (.iconst 0, 1) := by decide +kernel
theorem dX11_behind_79 : decode cX11_behind 79 = .ok (.goto 9, 3) := by decide +kernel
theorem dX11_behind_82 : decode cX11_behind 82 = .ok (.aload_n 0, 1) := by decide +kernel
theorem dX11_behind_83 : decode cX11_behind 83 = .ok (.getfield 89, 3) := by decide +kernel
theorem dX11_behind_86 : decode cX11_behind 86 = .ok (.iload_n 3, 1) := by decide +kernel
theorem dX11_behind_87 : decode cX11_behind 87 = .ok (.iaload, 1) := by decide +kernel
theorem dX11_behind_88 : decode cX11_behind 88 = .ok (.istore 4, 2) := by decide +kernel
theorem dX11_behind_90 : decode cX11_behind 90 = .ok (.iload_n 2, 1) := by decide +kernel
theorem dX11_behind_91 : decode cX11_behind 91 = .ok (.bipush 44, 2) := by decide +kernel
theorem dX11_behind_93 : decode cX11_behind 93 = .ok (.if_icmp .ne 51, 3) := by decide +kernel
theorem dX11_behind_96 : decode cX11_behind 96 = .ok (.iload 4, 2) := by decide +kernel
theorem dX11_behind_98 : decode cX11_behind 98 = .ok (.bipush 109, 2) := by decide +kernel
theorem dX11_behind_100 : decode cX11_behind 100 = .ok (.if_icmp .eq 10, 3) := by decide +kernel
theorem dX11_behind_103 : decode cX11_behind 103 = .ok (.iload 4, 2) := by decide +kernel
theorem dX11_behind_105 : decode cX11_behind 105 = .ok (.bipush 120, 2) := by decide +kernel
theorem dX11_behind_107 : decode cX11_behind 107 = .ok (.if_icmp .ne 37, 3) := by decide +kernel
theorem dX11_behind_110 : decode cX11_behind 110 = .ok (.aload_n 0, 1) := by decide +kernel
theorem dX11_behind_111 : decode cX11_behind 111 = .ok (.iconst 1, 1) := by decide +kernel
theorem dX11_behind_112 : decode cX11_behind 112 = .ok (.invokevirtual 292, 3) := by decide +kernel
theorem dX11_behind_115 : decode cX11_behind 115 = .ok (.aload_n 0, 1) := by decide +kernel
theorem dX11_behind_116 : decode cX11_behind 116 = .ok (.getfield 89, 3) := by decide +kernel
theorem dX11_behind_119 : decode cX11_behind 119 = .ok (.aload_n 0, 1) := by decide +kernel
theorem dX11_behind_120 : decode cX11_behind 120 = .ok (.getfield 262, 3) := by decide +kernel
theorem dX11_behind_123 : decode cX11_behind 123 = .ok (.iconst 1, 1) := by decide +kernel
theorem dX11_behind_124 : decode cX11_behind 124 = .ok (.isub, 1) := by decide +kernel
theorem dX11_behind_125 : decode cX11_behind 125 = .ok (.iload 4, 2) := by decide +kernel
theorem dX11_behind_127 : decode cX11_behind 127 = .ok (.bipush 109, 2) := by decide +kernel
theorem dX11_behind_129 : decode cX11_behind 129 = .ok (.if_icmp .ne 8, 3) := by decide +kernel
theorem dX11_behind_132 : decode cX11_behind 132 = .ok (.bipush 77, 2) := by decide +kernel
theorem dX11_behind_134 : decode cX11_behind 134 = .ok (.goto 5, 3) := by decide +kernel
theorem dX11_behind_137 : decode cX11_behind 137 = .ok (.bipush 88, 2) := by decide +kernel
theorem dX11_behind_139 : decode cX11_behind 139 = .ok (.iastore, 1) := by decide +kernel
theorem dX11_behind_140 : decode cX11_behind 140 = .ok (.iload_n 1, 1) := by decide +kernel
theorem dX11_behind_141 : decode cX11_behind 141 = .ok (.iconst 1, 1) := by decide +kernel
theorem dX11_behind_142 : decode cX11_behind 142 = .ok (.iadd, 1) := by decide +kernel
theorem dX11_behind_143 : decode cX11_behind 143 = .ok (.ireturn, 1) := by decide +kernel
theorem dX11_behind_144 : decode cX11_behind 144 = .ok (.iload_n 2, 1) := by decide +kernel
theorem dX11_behind_145 : decode cX11_behind 145 = .ok (.bipush 41, 2) := by decide +kernel
theorem dX11_behind_147 : decode cX11_behind 147 = .ok (.if_icmp .ne 70, 3) := by decide +kernel
theorem dX11_behind_150 : decode cX11_behind 150 = .ok (.iload 4, 2) := by decide +kernel
theorem dX11_behind_152 : decode cX11_behind 152 = .ok (.bipush 40, 2) := by decide +kernel
theorem dX11_behind_154 : decode cX11_behind 154 = .ok (.if_icmp .eq 17, 3) := by decide +kernel
theorem dX11_behind_157 : decode cX11_behind 157 = .ok (.iload 4, 2) := by decide +kernel
theorem dX11_behind_159 : decode cX11_behind 159 = .ok (.bipush 77, 2) := by decide +kernel
theorem dX11_behind_161 : decode cX11_behind 161 = .ok (.if_icmp .eq 10, 3) := by decide +kernel
theorem dX11_behind_164 : decode cX11_behind 164 = .ok (.iload 4, 2) := by decide +kernel
theorem dX11_behind_166 : decode cX11_behind 166 = .ok (.bipush 88, 2) := by decide +kernel
theorem dX11_behind_168 : decode cX11_behind 168 = .ok (.if_icmp .ne 49, 3) := by decide +kernel
theorem dX11_behind_171 : decode cX11_behind 171 = .ok (.aload_n 0, 1) := by decide +kernel
theorem dX11_behind_172 : decode cX11_behind 172 = .ok (.iconst 1, 1) := by decide +kernel
theorem dX11_behind_173 : decode cX11_behind 173 = .ok (.invokevirtual 292, 3) := by decide +kernel
theorem dX11_behind_176 : decode cX11_behind 176 = .ok (.aload_n 0, 1) := by decide +kernel
theorem dX11_behind_177 : decode cX11_behind 177 = .ok (.dup, 1) := by decide +kernel
theorem dX11_behind_178 : decode cX11_behind 178 = .ok (.getfield 262, 3) := by decide +kernel
theorem dX11_behind_181 : decode cX11_behind 181 = .ok (.iconst 1, 1) := by decide +kernel
theorem dX11_behind_182 : decode cX11_behind 182 = .ok (.isub, 1) := by decide +kernel
theorem dX11_behind_183 : decode cX11_behind 183 = .ok (.putfield 262, 3) := by decide +kernel
theorem dX11_behind_186 : decode cX11_behind 186 = .ok (.aload_n 0, 1) := by decide +kernel
theorem dX11_behind_187 : decode cX11_behind 187 = .ok (.dup, 1) := by decide +kernel
theorem dX11_behind_188 : decode cX11_behind 188 = .ok (.getfield 289, 3) := by decide +kernel
theorem dX11_behind_191 : decode cX11_behind 191 = .ok (.iconst 1, 1) := by decide +kernel
theorem dX11_behind_192 : decode cX11_behind 192 = .ok (.isub, 1) := by decide +kernel
theorem dX11_behind_193 : decode cX11_behind 193 = .ok (.putfield 289, 3) := by decide +kernel
theorem dX11_behind_196 : decode cX11_behind 196 = .ok (.iload 4, 2) := by decide +kernel
theorem dX11_behind_198 : decode cX11_behind 198 = .ok (.bipush 40, 2) := by decide +kernel
theorem dX11_behind_200 : decode cX11_behind 200 = .ok (.if_icmp .eq 13, 3) := by decide +kernel
theorem dX11_behind_203 : decode cX11_behind 203 = .ok (.aload_n 0, 1) := by decide +kernel
theorem dX11_behind_204 : decode cX11_behind 204 = .ok (.sipush 20000, 3) := by decide +kernel
theorem dX11_behind_207 : decode cX11_behind 207 = .ok (.iload 4, 2) := by decide +kernel
theorem dX11_behind_209 : decode cX11_behind 209 = .ok (.iadd, 1) := by decide +kernel
theorem dX11_behind_210 : decode cX11_behind 210 = .ok (.invokevirtual 269, 3) := by decide +kernel
theorem dX11_behind_213 : decode cX11_behind 213 = .ok (.iload_n 1, 1) := by decide +kernel
theorem dX11_behind_214 : decode cX11_behind 214 = .ok (.iconst 1, 1) := by decide +kernel
theorem dX11_behind_215 : decode cX11_behind 215 = .ok (.iadd, 1) := by decide +kernel
theorem dX11_behind_216 : decode cX11_behind 216 = .ok (.ireturn, 1) := by decide +kernel
theorem dX11_behind_217 : decode cX11_behind 217 = .ok (.iconst (-1), 1) := by decide +kernel
theorem dX11_behind_218 : decode cX11_behind 218 = .ok (.iload_n 1, 1) := by decide +kernel
theorem dX11_behind_219 : decode cX11_behind 219 = .ok (.isub, 1) := by decide +kernel
theorem dX11_behind_220 : decode cX11_behind 220 = .ok (.ireturn, 1) := by decide +kernel
theorem dX11_reads_0 : decode cX11_reads 0 = .ok (.aload_n 0, 1) := by decide +kernel
theorem dX11_reads_1 : decode cX11_reads 1 = .ok (.iconst 0, 1) := by decide +kernel
theorem dX11_reads_2 : decode cX11_reads 2 = .ok (.putfield 262, 3) := by decide +kernel
theorem dX11_reads_5 : decode cX11_reads 5 = .ok (.aload_n 0, 1) := by decide +kernel
theorem dX11_reads_6 : decode cX11_reads 6 = .ok (.iconst 0, 1) := by decide +kernel
theorem dX11_reads_7 : decode cX11_reads 7 = .ok (.putfield 289, 3) := by decide +kernel
theorem dX11_reads_10 : decode cX11_reads 10 = .ok (.aload_n 0, 1) := by decide +kernel
theorem dX11_reads_11 : decode cX11_reads 11 = .ok (.iconst 0, 1) := by decide +kernel
theorem dX11_reads_12 : decode cX11_reads 12 = .ok (.putfield 259, 3) := by decide +kernel
theorem dX11_reads_15 : decode cX11_reads 15 = .ok (.iconst 0, 1) := by decide +kernel
theorem dX11_reads_16 : decode cX11_reads 16 = .ok (.istore_n 1, 1) := by decide +kernel
theorem dX11_reads_17 : decode cX11_reads 17 = .ok (.iconst 1, 1) := by decide +kernel
theorem dX11_reads_18 : decode cX11_reads 18 = .ok (.istore_n 2, 1) := by decide +kernel
theorem dX11_reads_19 : decode cX11_reads 19 = .ok (.iload_n 2, 1) := by decide +kernel
theorem dX11_reads_20 : decode cX11_reads 20 = .ok (.ifCond .ne 11, 3) := by decide +kernel
theorem dX11_reads_23 : decode cX11_reads 23 = .ok (.iload_n 1, 1) := by decide +kernel
theorem dX11_reads_24 : decode cX11_reads 24 = .ok (.aload_n 0, 1) := by decide +kernel
theorem dX11_reads_25 : decode cX11_reads 25 = .ok (.getfield 254, 3) := by decide +kernel
theorem dX11_reads_28 : decode cX11_reads 28 = .ok (.if_icmp .ge 98, 3) := by decide +kernel
theorem dX11_reads_31 : decode cX11_reads 31 = .ok (.iload_n 2, 1) := by decide +kernel
theorem dX11_reads_32 : decode cX11_reads 32 = .ok (.ifCond .eq 11, 3) := by decide +kernel
theorem dX11_reads_35 : decode cX11_reads 35 = .ok (.aload_n 0, 1) := by decide +kernel
theorem dX11_reads_36 : decode cX11_reads 36 = .ok (.iload_n 1, 1) := by decide +kernel
theorem dX11_reads_37 : decode cX11_reads 37 = .ok (.invokevirtual 295, 3) := by decide +kernel
theorem dX11_reads_40 : decode cX11_reads 40 = .ok (.goto 8, 3) := by decide +kernel
theorem dX11_reads_43 : decode cX11_reads 43 = .ok (.aload_n 0, 1) := by decide +kernel
theorem dX11_reads_44 : decode cX11_reads 44 = .ok (.iload_n 1, 1) := by decide +kernel
theorem dX11_reads_45 : decode cX11_reads 45 = .ok (.invokevirtual 298, 3) := by decide +kernel
theorem dX11_reads_48 : decode cX11_reads 48 = .ok (.istore_n 3, 1) := by decide +kernel
theorem dX11_reads_49 : decode cX11_reads 49 = .ok (.iload_n 3, 1) := by decide +kernel
theorem dX11_reads_50 : decode cX11_reads 50 = .ok (.ifCond .ge 7, 3) := by decide +kernel
theorem dX11_reads_53 : decode cX11_reads 53 = .ok (.iconst (-1), 1) := by decide +kernel
theorem dX11_reads_54 : decode cX11_reads 54 = .ok (.iload_n 3, 1) := by decide +kernel
theorem dX11_reads_55 : decode cX11_reads 55 = .ok (.isub, 1) := by decide +kernel
theorem dX11_reads_56 : decode cX11_reads 56 = .ok (.ireturn, 1) := by decide +kernel
theorem dX11_reads_57 : decode cX11_reads 57 = .ok (.iload_n 2, 1) := by decide +kernel
theorem dX11_reads_58 : decode cX11_reads 58 = .ok (.ifCond .ne 17, 3) := by decide +kernel
theorem dX11_reads_61 : decode cX11_reads 61 = .ok (.aload_n 0, 1) := by decide +kernel
theorem dX11_reads_62 : decode cX11_reads 62 = .ok (.iload_n 1, 1) := by decide +kernel
theorem dX11_reads_63 : decode cX11_reads 63 = .ok (.invokevirtual 272, 3) := by decide +kernel
theorem dX11_reads_66 : decode cX11_reads 66 = .ok (.bipush 41, 2) := by decide +kernel
theorem dX11_reads_68 : decode cX11_reads 68 = .ok (.if_icmp .ne 7, 3) := by decide +kernel
theorem dX11_reads_71 : decode cX11_reads 71 = .ok (.iconst 1, 1) := by decide +kernel
theorem dX11_reads_72 : decode cX11_reads 72 = .ok (.goto 4, 3) := by decide +kernel
theorem dX11_reads_75 : decode cX11_reads 75 = .ok (.iconst 0, 1) := by decide +kernel
theorem dX11_reads_76 : decode cX11_reads 76 = .ok (.istore 4, 2) := by decide +kernel
theorem dX11_reads_78 : decode cX11_reads 78 = .ok (.iload_n 2, 1) := by decide +kernel
theorem dX11_reads_79 : decode cX11_reads 79 = .ok (.ifCond .eq 19, 3) := by decide +kernel
theorem dX11_reads_82 : decode cX11_reads 82 = .ok (.aload_n 0, 1) := by decide +kernel
theorem dX11_reads_83 : decode cX11_reads 83 = .ok (.iload_n 3, 1) := by decide +kernel
theorem dX11_reads_84 : decode cX11_reads 84 = .ok (.iconst 1, 1) := by decide +kernel
theorem dX11_reads_85 : decode cX11_reads 85 = .ok (.isub, 1) := by decide +kernel
theorem dX11_reads_86 : decode cX11_reads 86 = .ok (.invokevirtual 272, 3) := by decide +kernel
theorem dX11_reads_89 : decode cX11_reads 89 = .ok (.bipush 40, 2) := by decide +kernel
theorem dX11_reads_91 : decode cX11_reads 91 = .ok (.if_icmp .ne 7, 3) := by decide +kernel
theorem dX11_reads_94 : decode cX11_reads 94 = .ok (.iconst 1, 1) := by decide +kernel
theorem dX11_reads_95 : decode cX11_reads 95 = .ok (.goto 4, 3) := by decide +kernel
theorem dX11_reads_98 : decode cX11_reads 98 = .ok (.iconst 0, 1) := by decide +kernel
theorem dX11_reads_99 : decode cX11_reads 99 = .ok (.istore 5, 2) := by decide +kernel
theorem dX11_reads_101 : decode cX11_reads 101 = .ok (.iload_n 2, 1) := by decide +kernel
theorem dX11_reads_102 : decode cX11_reads 102 = .ok (.ifCond .eq 8, 3) := by decide +kernel
theorem dX11_reads_105 : decode cX11_reads 105 = .ok (.iload 5, 2) := by decide +kernel
theorem dX11_reads_107 : decode cX11_reads 107 = .ok (.goto 13, 3) := by decide +kernel
theorem dX11_reads_110 : decode cX11_reads 110 = .ok (.iload 4, 2) := by decide +kernel
theorem dX11_reads_112 : decode cX11_reads 112 = .ok (.ifCond .ne 7, 3) := by decide +kernel
theorem dX11_reads_115 : decode cX11_reads 115 = .ok (.iconst 1, 1) := by decide +kernel
theorem dX11_reads_116 : decode cX11_reads 116 = .ok (.goto 4, 3) := by decide +kernel
theorem dX11_reads_119 : decode cX11_reads 119 = .ok (.iconst 0, 1) := by decide +kernel
theorem dX11_reads_120 : decode cX11_reads 120 = .ok (.istore_n 2, 1) := by decide +kernel
theorem dX11_reads_121 : decode cX11_reads 121 = .ok (.iload_n 3, 1) := by decide +kernel
theorem dX11_reads_122 : decode cX11_reads 122 = .ok (.istore_n 1, 1) := by decide +kernel
theorem dX11_reads_123 : decode cX11_reads 123 = .ok (.goto (-104), 3) := by decide +kernel
theorem dX11_reads_126 : decode cX11_reads 126 = .ok (.aload_n 0, 1) := by decide +kernel
theorem dX11_reads_127 : decode cX11_reads 127 = .ok (.getfield 289, 3) := by decide +kernel
theorem dX11_reads_130 : decode cX11_reads 130 = .ok (.ifCond .le 8, 3) := by decide +kernel
theorem dX11_reads_133 : decode cX11_reads 133 = .ok (.aload_n 0, 1) := by decide +kernel
theorem dX11_reads_134 : decode cX11_reads 134 = .ok (.getfield 254, 3) := by decide +kernel
theorem dX11_reads_137 : decode cX11_reads 137 = .ok (.ireturn, 1) := by decide +kernel
theorem dX11_reads_138 : decode cX11_reads 138 = .ok (.aload_n 0, 1) := by decide +kernel
theorem dX11_reads_139 : decode cX11_reads 139 = .ok (.iconst 1, 1) := by decide +kernel
theorem dX11_reads_140 : decode cX11_reads 140 = .ok (.invokevirtual 292, 3) := by decide +kernel
theorem dX11_reads_143 : decode cX11_reads 143 = .ok (.iconst (-1), 1) := by decide +kernel
theorem dX11_reads_144 : decode cX11_reads 144 = .ok (.ireturn, 1) := by decide +kernel
theorem dX11_rule_0 : decode cX11_rule 0 = .ok (.aload_n 0, 1) := by decide +kernel
theorem dX11_rule_1 : decode cX11_rule 1 = .ok (.getfield 195, 3) := by decide +kernel
theorem dX11_rule_4 : decode cX11_rule 4 = .ok (.bipush 12, 2) := by decide +kernel
theorem dX11_rule_6 : decode cX11_rule 6 = .ok (.if_icmp .ne 6, 3) := by decide +kernel
theorem dX11_rule_9 : decode cX11_rule 9 = .ok (.bipush (-4), 2) := by decide +kernel
theorem dX11_rule_11 : decode cX11_rule 11 = .ok (.ireturn, 1) := by decide +kernel
theorem dX11_rule_12 : decode cX11_rule 12 = .ok (.aload_n 0, 1) := by decide +kernel
theorem dX11_rule_13 : decode cX11_rule 13 = .ok (.invokevirtual 301, 3) := by decide +kernel
theorem dX11_rule_16 : decode cX11_rule 16 = .ok (.istore_n 1, 1) := by decide +kernel
theorem dX11_rule_17 : decode cX11_rule 17 = .ok (.aload_n 0, 1) := by decide +kernel
theorem dX11_rule_18 : decode cX11_rule 18 = .ok (.iconst 0, 1) := by decide +kernel
theorem dX11_rule_19 : decode cX11_rule 19 = .ok (.putfield 254, 3) := by decide +kernel
theorem dX11_rule_22 : decode cX11_rule 22 = .ok (.iload_n 1, 1) := by decide +kernel
theorem dX11_rule_23 : decode cX11_rule 23 = .ok (.iconst (-1), 1) := by decide +kernel
theorem dX11_rule_24 : decode cX11_rule 24 = .ok (.if_icmp .eq 8, 3) := by decide +kernel
theorem dX11_rule_27 : decode cX11_rule 27 = .ok (.bipush (-10), 2) := by decide +kernel
theorem dX11_rule_29 : decode cX11_rule 29 = .ok (.iload_n 1, 1) := by decide +kernel
theorem dX11_rule_30 : decode cX11_rule 30 = .ok (.isub, 1) := by decide +kernel
theorem dX11_rule_31 : decode cX11_rule 31 = .ok (.ireturn, 1) := by decide +kernel
theorem dX11_rule_32 : decode cX11_rule 32 = .ok (.aload_n 0, 1) := by decide +kernel
theorem dX11_rule_33 : decode cX11_rule 33 = .ok (.getfield 77, 3) := by decide +kernel
theorem dX11_rule_36 : decode cX11_rule 36 = .ok (.aload_n 0, 1) := by decide +kernel
theorem dX11_rule_37 : decode cX11_rule 37 = .ok (.getfield 195, 3) := by decide +kernel
theorem dX11_rule_40 : decode cX11_rule 40 = .ok (.aload_n 0, 1) := by decide +kernel
theorem dX11_rule_41 : decode cX11_rule 41 = .ok (.getfield 259, 3) := by decide +kernel
theorem dX11_rule_44 : decode cX11_rule 44 = .ok (.iastore, 1) := by decide +kernel
theorem dX11_rule_45 : decode cX11_rule 45 = .ok (.aload_n 0, 1) := by decide +kernel
theorem dX11_rule_46 : decode cX11_rule 46 = .ok (.dup, 1) := by decide +kernel
theorem dX11_rule_47 : decode cX11_rule 47 = .ok (.getfield 195, 3) := by decide +kernel
theorem dX11_rule_50 : decode cX11_rule 50 = .ok (.iconst 1, 1) := by decide +kernel
theorem dX11_rule_51 : decode cX11_rule 51 = .ok (.iadd, 1) := by decide +kernel
theorem dX11_rule_52 : decode cX11_rule 52 = .ok (.putfield 195, 3) := by decide +kernel
theorem dX11_rule_55 : decode cX11_rule 55 = .ok (.aload_n 0, 1) := by decide +kernel
theorem dX11_rule_56 : decode cX11_rule 56 = .ok (.getfield 195, 3) := by decide +kernel
theorem dX11_rule_59 : decode cX11_rule 59 = .ok (.iconst 1, 1) := by decide +kernel
theorem dX11_rule_60 : decode cX11_rule 60 = .ok (.isub, 1) := by decide +kernel
theorem dX11_rule_61 : decode cX11_rule 61 = .ok (.ireturn, 1) := by decide +kernel
theorem dX11_kept0_0 : decode cX11_kept0 0 = .ok (.lload_n 0, 1) := by decide +kernel
theorem dX11_kept0_1 : decode cX11_kept0 1 = .ok (.ldc2_w 304, 3) := by decide +kernel
theorem dX11_kept0_4 : decode cX11_kept0 4 = .ok (.lcmp, 1) := by decide +kernel
theorem dX11_kept0_5 : decode cX11_kept0 5 = .ok (.ifCond .le 9, 3) := by decide +kernel
theorem dX11_kept0_8 : decode cX11_kept0 8 = .ok (.ldc2_w 304, 3) := by decide +kernel
theorem dX11_kept0_11 : decode cX11_kept0 11 = .ok (.goto 18, 3) := by decide +kernel
theorem dX11_kept0_14 : decode cX11_kept0 14 = .ok (.lload_n 0, 1) := by decide +kernel
theorem dX11_kept0_15 : decode cX11_kept0 15 = .ok (.ldc2_w 306, 3) := by decide +kernel
theorem dX11_kept0_18 : decode cX11_kept0 18 = .ok (.lcmp, 1) := by decide +kernel
theorem dX11_kept0_19 : decode cX11_kept0 19 = .ok (.ifCond .ge 9, 3) := by decide +kernel
theorem dX11_kept0_22 : decode cX11_kept0 22 = .ok (.ldc2_w 306, 3) := by decide +kernel
theorem dX11_kept0_25 : decode cX11_kept0 25 = .ok (.goto 4, 3) := by decide +kernel
theorem dX11_kept0_28 : decode cX11_kept0 28 = .ok (.lload_n 0, 1) := by decide +kernel
theorem dX11_kept0_29 : decode cX11_kept0 29 = .ok (.lreturn, 1) := by decide +kernel
theorem dX11_mean_0 : decode cX11_mean 0 = .ok (.lconst 0, 1) := by decide +kernel
theorem dX11_mean_1 : decode cX11_mean 1 = .ok (.lstore_n 3, 1) := by decide +kernel
theorem dX11_mean_2 : decode cX11_mean 2 = .ok (.iconst 0, 1) := by decide +kernel
theorem dX11_mean_3 : decode cX11_mean 3 = .ok (.istore 5, 2) := by decide +kernel
theorem dX11_mean_5 : decode cX11_mean 5 = .ok (.iload_n 2, 1) := by decide +kernel
theorem dX11_mean_6 : decode cX11_mean 6 = .ok (.istore 6, 2) := by decide +kernel
theorem dX11_mean_8 : decode cX11_mean 8 = .ok (.iload 6, 2) := by decide +kernel
theorem dX11_mean_10 : decode cX11_mean 10 = .ok (.ifCond .lt 36, 3) := by decide +kernel
theorem dX11_mean_13 : decode cX11_mean 13 = .ok (.iload 5, 2) := by decide +kernel
theorem dX11_mean_15 : decode cX11_mean 15 = .ok (.iconst 4, 1) := by decide +kernel
theorem dX11_mean_16 : decode cX11_mean 16 = .ok (.if_icmp .ge 30, 3) := by decide +kernel
theorem dX11_mean_19 : decode cX11_mean 19 = .ok (.lload_n 3, 1) := by decide +kernel
theorem dX11_mean_20 : decode cX11_mean 20 = .ok (.aload_n 0, 1) := by decide +kernel
theorem dX11_mean_21 : decode cX11_mean 21 = .ok (.getfield 65, 3) := by decide +kernel
theorem dX11_mean_24 : decode cX11_mean 24 = .ok (.bipush 40, 2) := by decide +kernel
theorem dX11_mean_26 : decode cX11_mean 26 = .ok (.iload_n 1, 1) := by decide +kernel
theorem dX11_mean_27 : decode cX11_mean 27 = .ok (.imul, 1) := by decide +kernel
theorem dX11_mean_28 : decode cX11_mean 28 = .ok (.iload 6, 2) := by decide +kernel
theorem dX11_mean_30 : decode cX11_mean 30 = .ok (.bipush 40, 2) := by decide +kernel
theorem dX11_mean_32 : decode cX11_mean 32 = .ok (.irem, 1) := by decide +kernel
theorem dX11_mean_33 : decode cX11_mean 33 = .ok (.iadd, 1) := by decide +kernel
theorem dX11_mean_34 : decode cX11_mean 34 = .ok (.laload, 1) := by decide +kernel
theorem dX11_mean_35 : decode cX11_mean 35 = .ok (.ladd, 1) := by decide +kernel
theorem dX11_mean_36 : decode cX11_mean 36 = .ok (.lstore_n 3, 1) := by decide +kernel
theorem dX11_mean_37 : decode cX11_mean 37 = .ok (.iinc 5 1, 3) := by decide +kernel
theorem dX11_mean_40 : decode cX11_mean 40 = .ok (.iinc 6 (-1), 3) := by decide +kernel
theorem dX11_mean_43 : decode cX11_mean 43 = .ok (.goto (-35), 3) := by decide +kernel
theorem dX11_mean_46 : decode cX11_mean 46 = .ok (.iload 5, 2) := by decide +kernel
theorem dX11_mean_48 : decode cX11_mean 48 = .ok (.ifCond .ne 7, 3) := by decide +kernel
theorem dX11_mean_51 : decode cX11_mean 51 = .ok (.lconst 0, 1) := by decide +kernel
theorem dX11_mean_52 : decode cX11_mean 52 = .ok (.goto 8, 3) := by decide +kernel
theorem dX11_mean_55 : decode cX11_mean 55 = .ok (.lload_n 3, 1) := by decide +kernel
theorem dX11_mean_56 : decode cX11_mean 56 = .ok (.iload 5, 2) := by decide +kernel
theorem dX11_mean_58 : decode cX11_mean 58 = .ok (.i2l, 1) := by decide +kernel
theorem dX11_mean_59 : decode cX11_mean 59 = .ok (.ldiv, 1) := by decide +kernel
theorem dX11_mean_60 : decode cX11_mean 60 = .ok (.lreturn, 1) := by decide +kernel
theorem dX11_field_0 : decode cX11_field 0 = .ok (.iload_n 1, 1) := by decide +kernel
theorem dX11_field_1 : decode cX11_field 1 = .ok (.tableswitch 83 0 5 #[39, 46, 52, 58, 65, 72], 39) := by decide +kernel
theorem dX11_field_40 : decode cX11_field 40 = .ok (.aload_n 0, 1) := by decide +kernel
theorem dX11_field_41 : decode cX11_field 41 = .ok (.getfield 40, 3) := by decide +kernel
theorem dX11_field_44 : decode cX11_field 44 = .ok (.iload_n 2, 1) := by decide +kernel
theorem dX11_field_45 : decode cX11_field 45 = .ok (.laload, 1) := by decide +kernel
theorem dX11_field_46 : decode cX11_field 46 = .ok (.lreturn, 1) := by decide +kernel
theorem dX11_field_47 : decode cX11_field 47 = .ok (.aload_n 0, 1) := by decide +kernel
theorem dX11_field_48 : decode cX11_field 48 = .ok (.iload_n 2, 1) := by decide +kernel
theorem dX11_field_49 : decode cX11_field 49 = .ok (.invokevirtual 207, 3) := by decide +kernel
theorem dX11_field_52 : decode cX11_field 52 = .ok (.lreturn, 1) := by decide +kernel
theorem dX11_field_53 : decode cX11_field 53 = .ok (.aload_n 0, 1) := by decide +kernel
theorem dX11_field_54 : decode cX11_field 54 = .ok (.iload_n 2, 1) := by decide +kernel
theorem dX11_field_55 : decode cX11_field 55 = .ok (.invokevirtual 203, 3) := by decide +kernel
theorem dX11_field_58 : decode cX11_field 58 = .ok (.lreturn, 1) := by decide +kernel
theorem dX11_field_59 : decode cX11_field 59 = .ok (.aload_n 0, 1) := by decide +kernel
theorem dX11_field_60 : decode cX11_field 60 = .ok (.getfield 59, 3) := by decide +kernel
theorem dX11_field_63 : decode cX11_field 63 = .ok (.iload_n 2, 1) := by decide +kernel
theorem dX11_field_64 : decode cX11_field 64 = .ok (.laload, 1) := by decide +kernel
theorem dX11_field_65 : decode cX11_field 65 = .ok (.lreturn, 1) := by decide +kernel
theorem dX11_field_66 : decode cX11_field 66 = .ok (.aload_n 0, 1) := by decide +kernel
theorem dX11_field_67 : decode cX11_field 67 = .ok (.iload_n 2, 1) := by decide +kernel
theorem dX11_field_68 : decode cX11_field 68 = .ok (.iload_n 3, 1) := by decide +kernel
theorem dX11_field_69 : decode cX11_field 69 = .ok (.invokevirtual 308, 3) := by decide +kernel
theorem dX11_field_72 : decode cX11_field 72 = .ok (.lreturn, 1) := by decide +kernel
theorem dX11_field_73 : decode cX11_field 73 = .ok (.iload_n 3, 1) := by decide +kernel
theorem dX11_field_74 : decode cX11_field 74 = .ok (.ifCond .ge 7, 3) := by decide +kernel
theorem dX11_field_77 : decode cX11_field 77 = .ok (.lconst 0, 1) := by decide +kernel
theorem dX11_field_78 : decode cX11_field 78 = .ok (.goto 5, 3) := by decide +kernel
theorem dX11_field_81 : decode cX11_field 81 = .ok (.iload_n 3, 1) := by decide +kernel
theorem dX11_field_82 : decode cX11_field 82 = .ok (.i2l, 1) := by decide +kernel
theorem dX11_field_83 : decode cX11_field 83 = .ok (.lreturn, 1) := by decide +kernel
theorem dX11_field_84 : decode cX11_field 84 = .ok (.aload_n 0, 1) := by decide +kernel
theorem dX11_field_85 : decode cX11_field 85 = .ok (.iload_n 2, 1) := by decide +kernel
theorem dX11_field_86 : decode cX11_field 86 = .ok (.invokevirtual 212, 3) := by decide +kernel
theorem dX11_field_89 : decode cX11_field 89 = .ok (.lreturn, 1) := by decide +kernel
theorem dX11_stepOf_0 : decode cX11_stepOf 0 = .ok (.iload_n 0, 1) := by decide +kernel
theorem dX11_stepOf_1 : decode cX11_stepOf 1 = .ok (.lookupswitch 89 #[(42, 59), (43, 51), (45, 55), (47, 63), (77, 77)], 51) := by decide +kernel
theorem dX11_stepOf_52 : decode cX11_stepOf 52 = .ok (.lload_n 1, 1) := by decide +kernel
theorem dX11_stepOf_53 : decode cX11_stepOf 53 = .ok (.lload_n 3, 1) := by decide +kernel
theorem dX11_stepOf_54 : decode cX11_stepOf 54 = .ok (.ladd, 1) := by decide +kernel
theorem dX11_stepOf_55 : decode cX11_stepOf 55 = .ok (.lreturn, 1) := by decide +kernel
theorem dX11_stepOf_56 : decode cX11_stepOf 56 = .ok (.lload_n 1, 1) := by decide +kernel
theorem dX11_stepOf_57 : decode cX11_stepOf 57 = .ok (.lload_n 3, 1) := by decide +kernel
theorem dX11_stepOf_58 : decode cX11_stepOf 58 = .ok (.lsub, 1) := by decide +kernel
theorem dX11_stepOf_59 : decode cX11_stepOf 59 = .ok (.lreturn, 1) := by decide +kernel
theorem dX11_stepOf_60 : decode cX11_stepOf 60 = .ok (.lload_n 1, 1) := by decide +kernel
theorem dX11_stepOf_61 : decode cX11_stepOf 61 = .ok (.lload_n 3, 1) := by decide +kernel
theorem dX11_stepOf_62 : decode cX11_stepOf 62 = .ok (.lmul, 1) := by decide +kernel
theorem dX11_stepOf_63 : decode cX11_stepOf 63 = .ok (.lreturn, 1) := by decide +kernel
theorem dX11_stepOf_64 : decode cX11_stepOf 64 = .ok (.lload_n 3, 1) := by decide +kernel
theorem dX11_stepOf_65 : decode cX11_stepOf 65 = .ok (.lconst 0, 1) := by decide +kernel
theorem dX11_stepOf_66 : decode cX11_stepOf 66 = .ok (.lcmp, 1) := by decide +kernel
theorem dX11_stepOf_67 : decode cX11_stepOf 67 = .ok (.ifCond .ne 7, 3) := by decide +kernel
theorem dX11_stepOf_70 : decode cX11_stepOf 70 = .ok (.lconst 0, 1) := by decide +kernel
theorem dX11_stepOf_71 : decode cX11_stepOf 71 = .ok (.goto 6, 3) := by decide +kernel
theorem dX11_stepOf_74 : decode cX11_stepOf 74 = .ok (.lload_n 1, 1) := by decide +kernel
theorem dX11_stepOf_75 : decode cX11_stepOf 75 = .ok (.lload_n 3, 1) := by decide +kernel
theorem dX11_stepOf_76 : decode cX11_stepOf 76 = .ok (.ldiv, 1) := by decide +kernel
theorem dX11_stepOf_77 : decode cX11_stepOf 77 = .ok (.lreturn, 1) := by decide +kernel
theorem dX11_stepOf_78 : decode cX11_stepOf 78 = .ok (.lload_n 1, 1) := by decide +kernel
theorem dX11_stepOf_79 : decode cX11_stepOf 79 = .ok (.lload_n 3, 1) := by decide +kernel
theorem dX11_stepOf_80 : decode cX11_stepOf 80 = .ok (.lcmp, 1) := by decide +kernel
theorem dX11_stepOf_81 : decode cX11_stepOf 81 = .ok (.ifCond .ge 7, 3) := by decide +kernel
theorem dX11_stepOf_84 : decode cX11_stepOf 84 = .ok (.lload_n 1, 1) := by decide +kernel
theorem dX11_stepOf_85 : decode cX11_stepOf 85 = .ok (.goto 4, 3) := by decide +kernel
theorem dX11_stepOf_88 : decode cX11_stepOf 88 = .ok (.lload_n 3, 1) := by decide +kernel
theorem dX11_stepOf_89 : decode cX11_stepOf 89 = .ok (.lreturn, 1) := by decide +kernel
theorem dX11_stepOf_90 : decode cX11_stepOf 90 = .ok (.lload_n 1, 1) := by decide +kernel
theorem dX11_stepOf_91 : decode cX11_stepOf 91 = .ok (.lload_n 3, 1) := by decide +kernel
theorem dX11_stepOf_92 : decode cX11_stepOf 92 = .ok (.lcmp, 1) := by decide +kernel
theorem dX11_stepOf_93 : decode cX11_stepOf 93 = .ok (.ifCond .le 7, 3) := by decide +kernel
theorem dX11_stepOf_96 : decode cX11_stepOf 96 = .ok (.lload_n 1, 1) := by decide +kernel
theorem dX11_stepOf_97 : decode cX11_stepOf 97 = .ok (.goto 4, 3) := by decide +kernel
theorem dX11_stepOf_100 : decode cX11_stepOf 100 = .ok (.lload_n 3, 1) := by decide +kernel
theorem dX11_stepOf_101 : decode cX11_stepOf 101 = .ok (.lreturn, 1) := by decide +kernel
theorem dX11_worthOf_0 : decode cX11_worthOf 0 = .ok (.iconst 0, 1) := by decide +kernel
theorem dX11_worthOf_1 : decode cX11_worthOf 1 = .ok (.istore 4, 2) := by decide +kernel
theorem dX11_worthOf_3 : decode cX11_worthOf 3 = .ok (.iconst 0, 1) := by decide +kernel
theorem dX11_worthOf_4 : decode cX11_worthOf 4 = .ok (.istore 5, 2) := by decide +kernel
theorem dX11_worthOf_6 : decode cX11_worthOf 6 = .ok (.iload 5, 2) := by decide +kernel
theorem dX11_worthOf_8 : decode cX11_worthOf 8 = .ok (.aload_n 0, 1) := by decide +kernel
theorem dX11_worthOf_9 : decode cX11_worthOf 9 = .ok (.getfield 77, 3) := by decide +kernel
theorem dX11_worthOf_12 : decode cX11_worthOf 12 = .ok (.iload_n 1, 1) := by decide +kernel
theorem dX11_worthOf_13 : decode cX11_worthOf 13 = .ok (.iaload, 1) := by decide +kernel
theorem dX11_worthOf_14 : decode cX11_worthOf 14 = .ok (.if_icmp .ge 113, 3) := by decide +kernel
theorem dX11_worthOf_17 : decode cX11_worthOf 17 = .ok (.aload_n 0, 1) := by decide +kernel
theorem dX11_worthOf_18 : decode cX11_worthOf 18 = .ok (.getfield 80, 3) := by decide +kernel
theorem dX11_worthOf_21 : decode cX11_worthOf 21 = .ok (.bipush 120, 2) := by decide +kernel
theorem dX11_worthOf_23 : decode cX11_worthOf 23 = .ok (.iload_n 1, 1) := by decide +kernel
theorem dX11_worthOf_24 : decode cX11_worthOf 24 = .ok (.imul, 1) := by decide +kernel
theorem dX11_worthOf_25 : decode cX11_worthOf 25 = .ok (.iload 5, 2) := by decide +kernel
theorem dX11_worthOf_27 : decode cX11_worthOf 27 = .ok (.iadd, 1) := by decide +kernel
theorem dX11_worthOf_28 : decode cX11_worthOf 28 = .ok (.iaload, 1) := by decide +kernel
theorem dX11_worthOf_29 : decode cX11_worthOf 29 = .ok (.istore 6, 2) := by decide +kernel
theorem dX11_worthOf_31 : decode cX11_worthOf 31 = .ok (.iload 6, 2) := by decide +kernel
theorem dX11_worthOf_33 : decode cX11_worthOf 33 = .ok (.sipush 20000, 3) := by decide +kernel
theorem dX11_worthOf_36 : decode cX11_worthOf 36 = .ok (.if_icmp .ge 45, 3) := by decide +kernel
theorem dX11_worthOf_39 : decode cX11_worthOf 39 = .ok (.aload_n 0, 1) := by decide +kernel
theorem dX11_worthOf_40 : decode cX11_worthOf 40 = .ok (.getfield 92, 3) := by decide +kernel
theorem dX11_worthOf_43 : decode cX11_worthOf 43 = .ok (.iload 4, 2) := by decide +kernel
theorem dX11_worthOf_45 : decode cX11_worthOf 45 = .ok (.iload 6, 2) := by decide +kernel
theorem dX11_worthOf_47 : decode cX11_worthOf 47 = .ok (.sipush 10000, 3) := by decide +kernel
theorem dX11_worthOf_50 : decode cX11_worthOf 50 = .ok (.if_icmp .ge 9, 3) := by decide +kernel
theorem dX11_worthOf_53 : decode cX11_worthOf 53 = .ok (.iload 6, 2) := by decide +kernel
theorem dX11_worthOf_55 : decode cX11_worthOf 55 = .ok (.i2l, 1) := by decide +kernel
theorem dX11_worthOf_56 : decode cX11_worthOf 56 = .ok (.goto 15, 3) := by decide +kernel
theorem dX11_worthOf_59 : decode cX11_worthOf 59 = .ok (.aload_n 0, 1) := by decide +kernel
theorem dX11_worthOf_60 : decode cX11_worthOf 60 = .ok (.iload 6, 2) := by decide +kernel
theorem dX11_worthOf_62 : decode cX11_worthOf 62 = .ok (.sipush 10000, 3) := by decide +kernel
theorem dX11_worthOf_65 : decode cX11_worthOf 65 = .ok (.isub, 1) := by decide +kernel
theorem dX11_worthOf_66 : decode cX11_worthOf 66 = .ok (.iload_n 2, 1) := by decide +kernel
theorem dX11_worthOf_67 : decode cX11_worthOf 67 = .ok (.iload_n 3, 1) := by decide +kernel
theorem dX11_worthOf_68 : decode cX11_worthOf 68 = .ok (.invokevirtual 312, 3) := by decide +kernel
theorem dX11_worthOf_71 : decode cX11_worthOf 71 = .ok (.invokestatic 315, 3) := by decide +kernel
theorem dX11_worthOf_74 : decode cX11_worthOf 74 = .ok (.lastore, 1) := by decide +kernel
theorem dX11_worthOf_75 : decode cX11_worthOf 75 = .ok (.iinc 4 1, 3) := by decide +kernel
theorem dX11_worthOf_78 : decode cX11_worthOf 78 = .ok (.goto 43, 3) := by decide +kernel
theorem dX11_worthOf_81 : decode cX11_worthOf 81 = .ok (.iinc 4 (-1), 3) := by decide +kernel
theorem dX11_worthOf_84 : decode cX11_worthOf 84 = .ok (.aload_n 0, 1) := by decide +kernel
theorem dX11_worthOf_85 : decode cX11_worthOf 85 = .ok (.getfield 92, 3) := by decide +kernel
theorem dX11_worthOf_88 : decode cX11_worthOf 88 = .ok (.iload 4, 2) := by decide +kernel
theorem dX11_worthOf_90 : decode cX11_worthOf 90 = .ok (.iconst 1, 1) := by decide +kernel
theorem dX11_worthOf_91 : decode cX11_worthOf 91 = .ok (.isub, 1) := by decide +kernel
theorem dX11_worthOf_92 : decode cX11_worthOf 92 = .ok (.iload 6, 2) := by decide +kernel
theorem dX11_worthOf_94 : decode cX11_worthOf 94 = .ok (.sipush 20000, 3) := by decide +kernel
theorem dX11_worthOf_97 : decode cX11_worthOf 97 = .ok (.isub, 1) := by decide +kernel
theorem dX11_worthOf_98 : decode cX11_worthOf 98 = .ok (.aload_n 0, 1) := by decide +kernel
theorem dX11_worthOf_99 : decode cX11_worthOf 99 = .ok (.getfield 92, 3) := by decide +kernel
theorem dX11_worthOf_102 : decode cX11_worthOf 102 = .ok (.iload 4, 2) := by decide +kernel
theorem dX11_worthOf_104 : decode cX11_worthOf 104 = .ok (.iconst 1, 1) := by decide +kernel
theorem dX11_worthOf_105 : decode cX11_worthOf 105 = .ok (.isub, 1) := by decide +kernel
theorem dX11_worthOf_106 : decode cX11_worthOf 106 = .ok (.laload, 1) := by decide +kernel
theorem dX11_worthOf_107 : decode cX11_worthOf 107 = .ok (.aload_n 0, 1) := by decide +kernel
theorem dX11_worthOf_108 : decode cX11_worthOf 108 = .ok (.getfield 92, 3) := by decide +kernel
theorem dX11_worthOf_111 : decode cX11_worthOf 111 = .ok (.iload 4, 2) := by decide +kernel
theorem dX11_worthOf_113 : decode cX11_worthOf 113 = .ok (.laload, 1) := by decide +kernel
theorem dX11_worthOf_114 : decode cX11_worthOf 114 = .ok (.invokestatic 319, 3) := by decide +kernel
theorem dX11_worthOf_117 : decode cX11_worthOf 117 = .ok (.invokestatic 315, 3) := by decide +kernel
theorem dX11_worthOf_120 : decode cX11_worthOf 120 = .ok (.lastore, 1) := by decide +kernel
theorem dX11_worthOf_121 : decode cX11_worthOf 121 = .ok (.iinc 5 1, 3) := by decide +kernel
theorem dX11_worthOf_124 : decode cX11_worthOf 124 = .ok (.goto (-118), 3) := by decide +kernel
theorem dX11_worthOf_127 : decode cX11_worthOf 127 = .ok (.aload_n 0, 1) := by decide +kernel
theorem dX11_worthOf_128 : decode cX11_worthOf 128 = .ok (.getfield 92, 3) := by decide +kernel
theorem dX11_worthOf_131 : decode cX11_worthOf 131 = .ok (.iconst 0, 1) := by decide +kernel
theorem dX11_worthOf_132 : decode cX11_worthOf 132 = .ok (.laload, 1) := by decide +kernel
theorem dX11_worthOf_133 : decode cX11_worthOf 133 = .ok (.lreturn, 1) := by decide +kernel
theorem dX11_worth_0 : decode cX11_worth 0 = .ok (.iload_n 1, 1) := by decide +kernel
theorem dX11_worth_1 : decode cX11_worth 1 = .ok (.i2l, 1) := by decide +kernel
theorem dX11_worth_2 : decode cX11_worth 2 = .ok (.lconst 0, 1) := by decide +kernel
theorem dX11_worth_3 : decode cX11_worth 3 = .ok (.aload_n 0, 1) := by decide +kernel
theorem dX11_worth_4 : decode cX11_worth 4 = .ok (.getfield 195, 3) := by decide +kernel
theorem dX11_worth_7 : decode cX11_worth 7 = .ok (.iconst 1, 1) := by decide +kernel
theorem dX11_worth_8 : decode cX11_worth 8 = .ok (.isub, 1) := by decide +kernel
theorem dX11_worth_9 : decode cX11_worth 9 = .ok (.i2l, 1) := by decide +kernel
theorem dX11_worth_10 : decode cX11_worth 10 = .ok (.invokestatic 169, 3) := by decide +kernel
theorem dX11_worth_13 : decode cX11_worth 13 = .ok (.ifCond .eq 26, 3) := by decide +kernel
theorem dX11_worth_16 : decode cX11_worth 16 = .ok (.aload_n 0, 1) := by decide +kernel
theorem dX11_worth_17 : decode cX11_worth 17 = .ok (.iload_n 2, 1) := by decide +kernel
theorem dX11_worth_18 : decode cX11_worth 18 = .ok (.invokevirtual 173, 3) := by decide +kernel
theorem dX11_worth_21 : decode cX11_worth 21 = .ok (.ifCond .eq 18, 3) := by decide +kernel
theorem dX11_worth_24 : decode cX11_worth 24 = .ok (.aload_n 0, 1) := by decide +kernel
theorem dX11_worth_25 : decode cX11_worth 25 = .ok (.iload_n 1, 1) := by decide +kernel
theorem dX11_worth_26 : decode cX11_worth 26 = .ok (.iload_n 2, 1) := by decide +kernel
theorem dX11_worth_27 : decode cX11_worth 27 = .ok (.aload_n 0, 1) := by decide +kernel
theorem dX11_worth_28 : decode cX11_worth 28 = .ok (.getfield 183, 3) := by decide +kernel
theorem dX11_worth_31 : decode cX11_worth 31 = .ok (.iconst 1, 1) := by decide +kernel
theorem dX11_worth_32 : decode cX11_worth 32 = .ok (.isub, 1) := by decide +kernel
theorem dX11_worth_33 : decode cX11_worth 33 = .ok (.invokevirtual 239, 3) := by decide +kernel
theorem dX11_worth_36 : decode cX11_worth 36 = .ok (.goto 6, 3) := by decide +kernel
theorem dX11_worth_39 : decode cX11_worth 39 = .ok (.ldc2_w 215, 3) := by decide +kernel
theorem dX11_worth_42 : decode cX11_worth 42 = .ok (.lreturn, 1) := by decide +kernel
theorem dX11_swing_0 : decode cX11_swing 0 = .ok (.aload_n 0, 1) := by decide +kernel
theorem dX11_swing_1 : decode cX11_swing 1 = .ok (.iload_n 1, 1) := by decide +kernel
theorem dX11_swing_2 : decode cX11_swing 2 = .ok (.invokevirtual 173, 3) := by decide +kernel
theorem dX11_swing_5 : decode cX11_swing 5 = .ok (.ifCond .eq 35, 3) := by decide +kernel
theorem dX11_swing_8 : decode cX11_swing 8 = .ok (.iload_n 2, 1) := by decide +kernel
theorem dX11_swing_9 : decode cX11_swing 9 = .ok (.i2l, 1) := by decide +kernel
theorem dX11_swing_10 : decode cX11_swing 10 = .ok (.lconst 0, 1) := by decide +kernel
theorem dX11_swing_11 : decode cX11_swing 11 = .ok (.lconst 1, 1) := by decide +kernel
theorem dX11_swing_12 : decode cX11_swing 12 = .ok (.invokestatic 169, 3) := by decide +kernel
theorem dX11_swing_15 : decode cX11_swing 15 = .ok (.ifCond .eq 25, 3) := by decide +kernel
theorem dX11_swing_18 : decode cX11_swing 18 = .ok (.iload_n 3, 1) := by decide +kernel
theorem dX11_swing_19 : decode cX11_swing 19 = .ok (.i2l, 1) := by decide +kernel
theorem dX11_swing_20 : decode cX11_swing 20 = .ok (.ldc2_w 198, 3) := by decide +kernel
theorem dX11_swing_23 : decode cX11_swing 23 = .ok (.ldc2_w 323, 3) := by decide +kernel
theorem dX11_swing_26 : decode cX11_swing 26 = .ok (.invokestatic 169, 3) := by decide +kernel
theorem dX11_swing_29 : decode cX11_swing 29 = .ok (.ifCond .eq 11, 3) := by decide +kernel
theorem dX11_swing_32 : decode cX11_swing 32 = .ok (.aload_n 0, 1) := by decide +kernel
theorem dX11_swing_33 : decode cX11_swing 33 = .ok (.getfield 183, 3) := by decide +kernel
theorem dX11_swing_36 : decode cX11_swing 36 = .ok (.iload_n 3, 1) := by decide +kernel
theorem dX11_swing_37 : decode cX11_swing 37 = .ok (.if_icmp .ge 7, 3) := by decide +kernel
theorem dX11_swing_40 : decode cX11_swing 40 = .ok (.ldc2_w 215, 3) := by decide +kernel
theorem dX11_swing_43 : decode cX11_swing 43 = .ok (.lreturn, 1) := by decide +kernel
theorem dX11_swing_44 : decode cX11_swing 44 = .ok (.lconst 0, 1) := by decide +kernel
theorem dX11_swing_45 : decode cX11_swing 45 = .ok (.lstore 4, 2) := by decide +kernel
theorem dX11_swing_47 : decode cX11_swing 47 = .ok (.lconst 0, 1) := by decide +kernel
theorem dX11_swing_48 : decode cX11_swing 48 = .ok (.lstore 6, 2) := by decide +kernel
theorem dX11_swing_50 : decode cX11_swing 50 = .ok (.aload_n 0, 1) := by decide +kernel
theorem dX11_swing_51 : decode cX11_swing 51 = .ok (.getfield 183, 3) := by decide +kernel
theorem dX11_swing_54 : decode cX11_swing 54 = .ok (.iload_n 3, 1) := by decide +kernel
theorem dX11_swing_55 : decode cX11_swing 55 = .ok (.isub, 1) := by decide +kernel
theorem dX11_swing_56 : decode cX11_swing 56 = .ok (.istore 8, 2) := by decide +kernel
theorem dX11_swing_58 : decode cX11_swing 58 = .ok (.iload 8, 2) := by decide +kernel
theorem dX11_swing_60 : decode cX11_swing 60 = .ok (.aload_n 0, 1) := by decide +kernel
theorem dX11_swing_61 : decode cX11_swing 61 = .ok (.getfield 183, 3) := by decide +kernel
theorem dX11_swing_64 : decode cX11_swing 64 = .ok (.if_icmp .ge 65, 3) := by decide +kernel
theorem dX11_swing_67 : decode cX11_swing 67 = .ok (.iload_n 2, 1) := by decide +kernel
theorem dX11_swing_68 : decode cX11_swing 68 = .ok (.ifCond .ne 21, 3) := by decide +kernel
theorem dX11_swing_71 : decode cX11_swing 71 = .ok (.aload_n 0, 1) := by decide +kernel
theorem dX11_swing_72 : decode cX11_swing 72 = .ok (.getfield 65, 3) := by decide +kernel
theorem dX11_swing_75 : decode cX11_swing 75 = .ok (.bipush 40, 2) := by decide +kernel
theorem dX11_swing_77 : decode cX11_swing 77 = .ok (.iload_n 1, 1) := by decide +kernel
theorem dX11_swing_78 : decode cX11_swing 78 = .ok (.imul, 1) := by decide +kernel
theorem dX11_swing_79 : decode cX11_swing 79 = .ok (.iload 8, 2) := by decide +kernel
theorem dX11_swing_81 : decode cX11_swing 81 = .ok (.bipush 40, 2) := by decide +kernel
theorem dX11_swing_83 : decode cX11_swing 83 = .ok (.irem, 1) := by decide +kernel
theorem dX11_swing_84 : decode cX11_swing 84 = .ok (.iadd, 1) := by decide +kernel
theorem dX11_swing_85 : decode cX11_swing 85 = .ok (.laload, 1) := by decide +kernel
theorem dX11_swing_86 : decode cX11_swing 86 = .ok (.goto 18, 3) := by decide +kernel
theorem dX11_swing_89 : decode cX11_swing 89 = .ok (.aload_n 0, 1) := by decide +kernel
theorem dX11_swing_90 : decode cX11_swing 90 = .ok (.getfield 68, 3) := by decide +kernel
theorem dX11_swing_93 : decode cX11_swing 93 = .ok (.bipush 40, 2) := by decide +kernel
theorem dX11_swing_95 : decode cX11_swing 95 = .ok (.iload_n 1, 1) := by decide +kernel
theorem dX11_swing_96 : decode cX11_swing 96 = .ok (.imul, 1) := by decide +kernel
theorem dX11_swing_97 : decode cX11_swing 97 = .ok (.iload 8, 2) := by decide +kernel
theorem dX11_swing_99 : decode cX11_swing 99 = .ok (.bipush 40, 2) := by decide +kernel
theorem dX11_swing_101 : decode cX11_swing 101 = .ok (.irem, 1) := by decide +kernel
theorem dX11_swing_102 : decode cX11_swing 102 = .ok (.iadd, 1) := by decide +kernel
theorem dX11_swing_103 : decode cX11_swing 103 = .ok (.laload, 1) := by decide +kernel
theorem dX11_swing_104 : decode cX11_swing 104 = .ok (.lstore 9, 2) := by decide +kernel
theorem dX11_swing_106 : decode cX11_swing 106 = .ok (.lload 4, 2) := by decide +kernel
theorem dX11_swing_108 : decode cX11_swing 108 = .ok (.lload 9, 2) := by decide +kernel
theorem dX11_swing_110 : decode cX11_swing 110 = .ok (.ladd, 1) := by decide +kernel
theorem dX11_swing_111 : decode cX11_swing 111 = .ok (.lstore 4, 2) := by decide +kernel
theorem dX11_swing_113 : decode cX11_swing 113 = .ok (.lload 6, 2) := by decide +kernel
theorem dX11_swing_115 : decode cX11_swing 115 = .ok (.lload 9, 2) := by decide +kernel
theorem dX11_swing_117 : decode cX11_swing 117 = .ok (.lload 9, 2) := by decide +kernel
theorem dX11_swing_119 : decode cX11_swing 119 = .ok (.lmul, 1) := by decide +kernel
theorem dX11_swing_120 : decode cX11_swing 120 = .ok (.ladd, 1) := by decide +kernel
theorem dX11_swing_121 : decode cX11_swing 121 = .ok (.lstore 6, 2) := by decide +kernel
theorem dX11_swing_123 : decode cX11_swing 123 = .ok (.iinc 8 1, 3) := by decide +kernel
theorem dX11_swing_126 : decode cX11_swing 126 = .ok (.goto (-68), 3) := by decide +kernel
theorem dX11_swing_129 : decode cX11_swing 129 = .ok (.iload_n 3, 1) := by decide +kernel
theorem dX11_swing_130 : decode cX11_swing 130 = .ok (.i2l, 1) := by decide +kernel
theorem dX11_swing_131 : decode cX11_swing 131 = .ok (.lload 6, 2) := by decide +kernel
theorem dX11_swing_133 : decode cX11_swing 133 = .ok (.lmul, 1) := by decide +kernel
theorem dX11_swing_134 : decode cX11_swing 134 = .ok (.lload 4, 2) := by decide +kernel
theorem dX11_swing_136 : decode cX11_swing 136 = .ok (.lload 4, 2) := by decide +kernel
theorem dX11_swing_138 : decode cX11_swing 138 = .ok (.lmul, 1) := by decide +kernel
theorem dX11_swing_139 : decode cX11_swing 139 = .ok (.lsub, 1) := by decide +kernel
theorem dX11_swing_140 : decode cX11_swing 140 = .ok (.lreturn, 1) := by decide +kernel
theorem dX11_divisor_0 : decode cX11_divisor 0 = .ok (.lload_n 0, 1) := by decide +kernel
theorem dX11_divisor_1 : decode cX11_divisor 1 = .ok (.lconst 0, 1) := by decide +kernel
theorem dX11_divisor_2 : decode cX11_divisor 2 = .ok (.lcmp, 1) := by decide +kernel
theorem dX11_divisor_3 : decode cX11_divisor 3 = .ok (.ifCond .ge 8, 3) := by decide +kernel
theorem dX11_divisor_6 : decode cX11_divisor 6 = .ok (.lload_n 0, 1) := by decide +kernel
theorem dX11_divisor_7 : decode cX11_divisor 7 = .ok (.lneg, 1) := by decide +kernel
theorem dX11_divisor_8 : decode cX11_divisor 8 = .ok (.goto 4, 3) := by decide +kernel
theorem dX11_divisor_11 : decode cX11_divisor 11 = .ok (.lload_n 0, 1) := by decide +kernel
theorem dX11_divisor_12 : decode cX11_divisor 12 = .ok (.lstore 4, 2) := by decide +kernel
theorem dX11_divisor_14 : decode cX11_divisor 14 = .ok (.lload_n 2, 1) := by decide +kernel
theorem dX11_divisor_15 : decode cX11_divisor 15 = .ok (.lconst 0, 1) := by decide +kernel
theorem dX11_divisor_16 : decode cX11_divisor 16 = .ok (.lcmp, 1) := by decide +kernel
theorem dX11_divisor_17 : decode cX11_divisor 17 = .ok (.ifCond .ge 8, 3) := by decide +kernel
theorem dX11_divisor_20 : decode cX11_divisor 20 = .ok (.lload_n 2, 1) := by decide +kernel
theorem dX11_divisor_21 : decode cX11_divisor 21 = .ok (.lneg, 1) := by decide +kernel
theorem dX11_divisor_22 : decode cX11_divisor 22 = .ok (.goto 4, 3) := by decide +kernel
theorem dX11_divisor_25 : decode cX11_divisor 25 = .ok (.lload_n 2, 1) := by decide +kernel
theorem dX11_divisor_26 : decode cX11_divisor 26 = .ok (.lstore 6, 2) := by decide +kernel
theorem dX11_divisor_28 : decode cX11_divisor 28 = .ok (.lload 6, 2) := by decide +kernel
theorem dX11_divisor_30 : decode cX11_divisor 30 = .ok (.lconst 0, 1) := by decide +kernel
theorem dX11_divisor_31 : decode cX11_divisor 31 = .ok (.lcmp, 1) := by decide +kernel
theorem dX11_divisor_32 : decode cX11_divisor 32 = .ok (.ifCond .eq 21, 3) := by decide +kernel
theorem dX11_divisor_35 : decode cX11_divisor 35 = .ok (.lload 4, 2) := by decide +kernel
theorem dX11_divisor_37 : decode cX11_divisor 37 = .ok (.lload 6, 2) := by decide +kernel
theorem dX11_divisor_39 : decode cX11_divisor 39 = .ok (.lrem, 1) := by decide +kernel
theorem dX11_divisor_40 : decode cX11_divisor 40 = .ok (.lstore 8, 2) := by decide +kernel
theorem dX11_divisor_42 : decode cX11_divisor 42 = .ok (.lload 6, 2) := by decide +kernel
theorem dX11_divisor_44 : decode cX11_divisor 44 = .ok (.lstore 4, 2) := by decide +kernel
theorem dX11_divisor_46 : decode cX11_divisor 46 = .ok (.lload 8, 2) := by decide +kernel
theorem dX11_divisor_48 : decode cX11_divisor 48 = .ok (.lstore 6, 2) := by decide +kernel
theorem dX11_divisor_50 : decode cX11_divisor 50 = .ok (.goto (-22), 3) := by decide +kernel
theorem dX11_divisor_53 : decode cX11_divisor 53 = .ok (.lload 4, 2) := by decide +kernel
theorem dX11_divisor_55 : decode cX11_divisor 55 = .ok (.lreturn, 1) := by decide +kernel
theorem dX11_gain_0 : decode cX11_gain 0 = .ok (.aload_n 0, 1) := by decide +kernel
theorem dX11_gain_1 : decode cX11_gain 1 = .ok (.iload_n 1, 1) := by decide +kernel
theorem dX11_gain_2 : decode cX11_gain 2 = .ok (.iconst 0, 1) := by decide +kernel
theorem dX11_gain_3 : decode cX11_gain 3 = .ok (.iload_n 2, 1) := by decide +kernel
theorem dX11_gain_4 : decode cX11_gain 4 = .ok (.invokevirtual 325, 3) := by decide +kernel
theorem dX11_gain_7 : decode cX11_gain 7 = .ok (.lstore 4, 2) := by decide +kernel
theorem dX11_gain_9 : decode cX11_gain 9 = .ok (.lload 4, 2) := by decide +kernel
theorem dX11_gain_11 : decode cX11_gain 11 = .ok (.ldc2_w 215, 3) := by decide +kernel
theorem dX11_gain_14 : decode cX11_gain 14 = .ok (.lcmp, 1) := by decide +kernel
theorem dX11_gain_15 : decode cX11_gain 15 = .ok (.ifCond .eq 20, 3) := by decide +kernel
theorem dX11_gain_18 : decode cX11_gain 18 = .ok (.lload 4, 2) := by decide +kernel
theorem dX11_gain_20 : decode cX11_gain 20 = .ok (.lconst 0, 1) := by decide +kernel
theorem dX11_gain_21 : decode cX11_gain 21 = .ok (.lcmp, 1) := by decide +kernel
theorem dX11_gain_22 : decode cX11_gain 22 = .ok (.ifCond .eq 13, 3) := by decide +kernel
theorem dX11_gain_25 : decode cX11_gain 25 = .ok (.iload_n 3, 1) := by decide +kernel
theorem dX11_gain_26 : decode cX11_gain 26 = .ok (.i2l, 1) := by decide +kernel
theorem dX11_gain_27 : decode cX11_gain 27 = .ok (.lconst 0, 1) := by decide +kernel
theorem dX11_gain_28 : decode cX11_gain 28 = .ok (.lconst 1, 1) := by decide +kernel
theorem dX11_gain_29 : decode cX11_gain 29 = .ok (.invokestatic 169, 3) := by decide +kernel
theorem dX11_gain_32 : decode cX11_gain 32 = .ok (.ifCond .ne 7, 3) := by decide +kernel
theorem dX11_gain_35 : decode cX11_gain 35 = .ok (.ldc2_w 215, 3) := by decide +kernel
theorem dX11_gain_38 : decode cX11_gain 38 = .ok (.lreturn, 1) := by decide +kernel
theorem dX11_gain_39 : decode cX11_gain 39 = .ok (.aload_n 0, 1) := by decide +kernel
theorem dX11_gain_40 : decode cX11_gain 40 = .ok (.iload_n 1, 1) := by decide +kernel
theorem dX11_gain_41 : decode cX11_gain 41 = .ok (.iconst 1, 1) := by decide +kernel
theorem dX11_gain_42 : decode cX11_gain 42 = .ok (.iload_n 2, 1) := by decide +kernel
theorem dX11_gain_43 : decode cX11_gain 43 = .ok (.invokevirtual 325, 3) := by decide +kernel
theorem dX11_gain_46 : decode cX11_gain 46 = .ok (.lstore 6, 2) := by decide +kernel
theorem dX11_gain_48 : decode cX11_gain 48 = .ok (.lload 6, 2) := by decide +kernel
theorem dX11_gain_50 : decode cX11_gain 50 = .ok (.lload 4, 2) := by decide +kernel
theorem dX11_gain_52 : decode cX11_gain 52 = .ok (.invokestatic 328, 3) := by decide +kernel
theorem dX11_gain_55 : decode cX11_gain 55 = .ok (.lstore 8, 2) := by decide +kernel
theorem dX11_gain_57 : decode cX11_gain 57 = .ok (.lload 6, 2) := by decide +kernel
theorem dX11_gain_59 : decode cX11_gain 59 = .ok (.lload 8, 2) := by decide +kernel
theorem dX11_gain_61 : decode cX11_gain 61 = .ok (.ldiv, 1) := by decide +kernel
theorem dX11_gain_62 : decode cX11_gain 62 = .ok (.ldc2_w 304, 3) := by decide +kernel
theorem dX11_gain_65 : decode cX11_gain 65 = .ok (.lcmp, 1) := by decide +kernel
theorem dX11_gain_66 : decode cX11_gain 66 = .ok (.ifCond .gt 15, 3) := by decide +kernel
theorem dX11_gain_69 : decode cX11_gain 69 = .ok (.lload 4, 2) := by decide +kernel
theorem dX11_gain_71 : decode cX11_gain 71 = .ok (.lload 8, 2) := by decide +kernel
theorem dX11_gain_73 : decode cX11_gain 73 = .ok (.ldiv, 1) := by decide +kernel
theorem dX11_gain_74 : decode cX11_gain 74 = .ok (.ldc2_w 304, 3) := by decide +kernel
theorem dX11_gain_77 : decode cX11_gain 77 = .ok (.lcmp, 1) := by decide +kernel
theorem dX11_gain_78 : decode cX11_gain 78 = .ok (.ifCond .le 9, 3) := by decide +kernel
theorem dX11_gain_81 : decode cX11_gain 81 = .ok (.ldc2_w 332, 3) := by decide +kernel
theorem dX11_gain_84 : decode cX11_gain 84 = .ok (.goto 20, 3) := by decide +kernel
theorem dX11_gain_87 : decode cX11_gain 87 = .ok (.iload_n 3, 1) := by decide +kernel
theorem dX11_gain_88 : decode cX11_gain 88 = .ok (.ifCond .ne 11, 3) := by decide +kernel
theorem dX11_gain_91 : decode cX11_gain 91 = .ok (.lload 6, 2) := by decide +kernel
theorem dX11_gain_93 : decode cX11_gain 93 = .ok (.lload 8, 2) := by decide +kernel
theorem dX11_gain_95 : decode cX11_gain 95 = .ok (.ldiv, 1) := by decide +kernel
theorem dX11_gain_96 : decode cX11_gain 96 = .ok (.goto 8, 3) := by decide +kernel
theorem dX11_gain_99 : decode cX11_gain 99 = .ok (.lload 4, 2) := by decide +kernel
theorem dX11_gain_101 : decode cX11_gain 101 = .ok (.lload 8, 2) := by decide +kernel
theorem dX11_gain_103 : decode cX11_gain 103 = .ok (.ldiv, 1) := by decide +kernel
theorem dX11_gain_104 : decode cX11_gain 104 = .ok (.lreturn, 1) := by decide +kernel
theorem dX11_isPart_0 : decode cX11_isPart 0 = .ok (.iload_n 0, 1) := by decide +kernel
theorem dX11_isPart_1 : decode cX11_isPart 1 = .ok (.ifCond .lt 35, 3) := by decide +kernel
theorem dX11_isPart_4 : decode cX11_isPart 4 = .ok (.iload_n 0, 1) := by decide +kernel
theorem dX11_isPart_5 : decode cX11_isPart 5 = .ok (.bipush 100, 2) := by decide +kernel
theorem dX11_isPart_7 : decode cX11_isPart 7 = .ok (.irem, 1) := by decide +kernel
theorem dX11_isPart_8 : decode cX11_isPart 8 = .ok (.i2l, 1) := by decide +kernel
theorem dX11_isPart_9 : decode cX11_isPart 9 = .ok (.lconst 1, 1) := by decide +kernel
theorem dX11_isPart_10 : decode cX11_isPart 10 = .ok (.ldc2_w 247, 3) := by decide +kernel
theorem dX11_isPart_13 : decode cX11_isPart 13 = .ok (.invokestatic 169, 3) := by decide +kernel
theorem dX11_isPart_16 : decode cX11_isPart 16 = .ok (.ifCond .eq 20, 3) := by decide +kernel
theorem dX11_isPart_19 : decode cX11_isPart 19 = .ok (.iload_n 0, 1) := by decide +kernel
theorem dX11_isPart_20 : decode cX11_isPart 20 = .ok (.bipush 100, 2) := by decide +kernel
theorem dX11_isPart_22 : decode cX11_isPart 22 = .ok (.idiv, 1) := by decide +kernel
theorem dX11_isPart_23 : decode cX11_isPart 23 = .ok (.iconst 2, 1) := by decide +kernel
theorem dX11_isPart_24 : decode cX11_isPart 24 = .ok (.iload_n 0, 1) := by decide +kernel
theorem dX11_isPart_25 : decode cX11_isPart 25 = .ok (.bipush 100, 2) := by decide +kernel
theorem dX11_isPart_27 : decode cX11_isPart 27 = .ok (.irem, 1) := by decide +kernel
theorem dX11_isPart_28 : decode cX11_isPart 28 = .ok (.imul, 1) := by decide +kernel
theorem dX11_isPart_29 : decode cX11_isPart 29 = .ok (.if_icmp .gt 7, 3) := by decide +kernel
theorem dX11_isPart_32 : decode cX11_isPart 32 = .ok (.iconst 1, 1) := by decide +kernel
theorem dX11_isPart_33 : decode cX11_isPart 33 = .ok (.goto 4, 3) := by decide +kernel
theorem dX11_isPart_36 : decode cX11_isPart 36 = .ok (.iconst 0, 1) := by decide +kernel
theorem dX11_isPart_37 : decode cX11_isPart 37 = .ok (.ireturn, 1) := by decide +kernel
theorem dX11_straight_0 : decode cX11_straight 0 = .ok (.iload_n 1, 1) := by decide +kernel
theorem dX11_straight_1 : decode cX11_straight 1 = .ok (.invokestatic 334, 3) := by decide +kernel
theorem dX11_straight_4 : decode cX11_straight 4 = .ok (.ifCond .eq 22, 3) := by decide +kernel
theorem dX11_straight_7 : decode cX11_straight 7 = .ok (.iload_n 2, 1) := by decide +kernel
theorem dX11_straight_8 : decode cX11_straight 8 = .ok (.invokestatic 334, 3) := by decide +kernel
theorem dX11_straight_11 : decode cX11_straight 11 = .ok (.ifCond .eq 15, 3) := by decide +kernel
theorem dX11_straight_14 : decode cX11_straight 14 = .ok (.iload_n 3, 1) := by decide +kernel
theorem dX11_straight_15 : decode cX11_straight 15 = .ok (.i2l, 1) := by decide +kernel
theorem dX11_straight_16 : decode cX11_straight 16 = .ok (.lconst 1, 1) := by decide +kernel
theorem dX11_straight_17 : decode cX11_straight 17 = .ok (.ldc2_w 252, 3) := by decide +kernel
theorem dX11_straight_20 : decode cX11_straight 20 = .ok (.invokestatic 169, 3) := by decide +kernel
theorem dX11_straight_23 : decode cX11_straight 23 = .ok (.ifCond .ne 6, 3) := by decide +kernel
theorem dX11_straight_26 : decode cX11_straight 26 = .ok (.bipush (-2), 2) := by decide +kernel
theorem dX11_straight_28 : decode cX11_straight 28 = .ok (.ireturn, 1) := by decide +kernel
theorem dX11_straight_29 : decode cX11_straight 29 = .ok (.iload_n 1, 1) := by decide +kernel
theorem dX11_straight_30 : decode cX11_straight 30 = .ok (.bipush 100, 2) := by decide +kernel
theorem dX11_straight_32 : decode cX11_straight 32 = .ok (.idiv, 1) := by decide +kernel
theorem dX11_straight_33 : decode cX11_straight 33 = .ok (.i2l, 1) := by decide +kernel
theorem dX11_straight_34 : decode cX11_straight 34 = .ok (.iload_n 1, 1) := by decide +kernel
theorem dX11_straight_35 : decode cX11_straight 35 = .ok (.bipush 100, 2) := by decide +kernel
theorem dX11_straight_37 : decode cX11_straight 37 = .ok (.irem, 1) := by decide +kernel
theorem dX11_straight_38 : decode cX11_straight 38 = .ok (.i2l, 1) := by decide +kernel
theorem dX11_straight_39 : decode cX11_straight 39 = .ok (.invokestatic 328, 3) := by decide +kernel
theorem dX11_straight_42 : decode cX11_straight 42 = .ok (.lstore 4, 2) := by decide +kernel
theorem dX11_straight_44 : decode cX11_straight 44 = .ok (.aload_n 0, 1) := by decide +kernel
theorem dX11_straight_45 : decode cX11_straight 45 = .ok (.iload_n 1, 1) := by decide +kernel
theorem dX11_straight_46 : decode cX11_straight 46 = .ok (.bipush 100, 2) := by decide +kernel
theorem dX11_straight_48 : decode cX11_straight 48 = .ok (.idiv, 1) := by decide +kernel
theorem dX11_straight_49 : decode cX11_straight 49 = .ok (.i2l, 1) := by decide +kernel
theorem dX11_straight_50 : decode cX11_straight 50 = .ok (.lload 4, 2) := by decide +kernel
theorem dX11_straight_52 : decode cX11_straight 52 = .ok (.ldiv, 1) := by decide +kernel
theorem dX11_straight_53 : decode cX11_straight 53 = .ok (.putfield 95, 3) := by decide +kernel
theorem dX11_straight_56 : decode cX11_straight 56 = .ok (.aload_n 0, 1) := by decide +kernel
theorem dX11_straight_57 : decode cX11_straight 57 = .ok (.iload_n 1, 1) := by decide +kernel
theorem dX11_straight_58 : decode cX11_straight 58 = .ok (.bipush 100, 2) := by decide +kernel
theorem dX11_straight_60 : decode cX11_straight 60 = .ok (.irem, 1) := by decide +kernel
theorem dX11_straight_61 : decode cX11_straight 61 = .ok (.i2l, 1) := by decide +kernel
theorem dX11_straight_62 : decode cX11_straight 62 = .ok (.lload 4, 2) := by decide +kernel
theorem dX11_straight_64 : decode cX11_straight 64 = .ok (.ldiv, 1) := by decide +kernel
theorem dX11_straight_65 : decode cX11_straight 65 = .ok (.putfield 99, 3) := by decide +kernel
theorem dX11_straight_68 : decode cX11_straight 68 = .ok (.iload_n 2, 1) := by decide +kernel
theorem dX11_straight_69 : decode cX11_straight 69 = .ok (.bipush 100, 2) := by decide +kernel
theorem dX11_straight_71 : decode cX11_straight 71 = .ok (.idiv, 1) := by decide +kernel
theorem dX11_straight_72 : decode cX11_straight 72 = .ok (.i2l, 1) := by decide +kernel
theorem dX11_straight_73 : decode cX11_straight 73 = .ok (.iload_n 2, 1) := by decide +kernel
theorem dX11_straight_74 : decode cX11_straight 74 = .ok (.bipush 100, 2) := by decide +kernel
theorem dX11_straight_76 : decode cX11_straight 76 = .ok (.irem, 1) := by decide +kernel
theorem dX11_straight_77 : decode cX11_straight 77 = .ok (.i2l, 1) := by decide +kernel
theorem dX11_straight_78 : decode cX11_straight 78 = .ok (.invokestatic 328, 3) := by decide +kernel
theorem dX11_straight_81 : decode cX11_straight 81 = .ok (.lstore 4, 2) := by decide +kernel
theorem dX11_straight_83 : decode cX11_straight 83 = .ok (.aload_n 0, 1) := by decide +kernel
theorem dX11_straight_84 : decode cX11_straight 84 = .ok (.iload_n 2, 1) := by decide +kernel
theorem dX11_straight_85 : decode cX11_straight 85 = .ok (.bipush 100, 2) := by decide +kernel
theorem dX11_straight_87 : decode cX11_straight 87 = .ok (.idiv, 1) := by decide +kernel
theorem dX11_straight_88 : decode cX11_straight 88 = .ok (.i2l, 1) := by decide +kernel
theorem dX11_straight_89 : decode cX11_straight 89 = .ok (.lload 4, 2) := by decide +kernel
theorem dX11_straight_91 : decode cX11_straight 91 = .ok (.ldiv, 1) := by decide +kernel
theorem dX11_straight_92 : decode cX11_straight 92 = .ok (.putfield 102, 3) := by decide +kernel
theorem dX11_straight_95 : decode cX11_straight 95 = .ok (.aload_n 0, 1) := by decide +kernel
theorem dX11_straight_96 : decode cX11_straight 96 = .ok (.iload_n 2, 1) := by decide +kernel
theorem dX11_straight_97 : decode cX11_straight 97 = .ok (.bipush 100, 2) := by decide +kernel
theorem dX11_straight_99 : decode cX11_straight 99 = .ok (.irem, 1) := by decide +kernel
theorem dX11_straight_100 : decode cX11_straight 100 = .ok (.i2l, 1) := by decide +kernel
theorem dX11_straight_101 : decode cX11_straight 101 = .ok (.lload 4, 2) := by decide +kernel
theorem dX11_straight_103 : decode cX11_straight 103 = .ok (.ldiv, 1) := by decide +kernel
theorem dX11_straight_104 : decode cX11_straight 104 = .ok (.putfield 105, 3) := by decide +kernel
theorem dX11_straight_107 : decode cX11_straight 107 = .ok (.aload_n 0, 1) := by decide +kernel
theorem dX11_straight_108 : decode cX11_straight 108 = .ok (.iload_n 3, 1) := by decide +kernel
theorem dX11_straight_109 : decode cX11_straight 109 = .ok (.putfield 108, 3) := by decide +kernel
theorem dX11_straight_112 : decode cX11_straight 112 = .ok (.iconst 0, 1) := by decide +kernel
theorem dX11_straight_113 : decode cX11_straight 113 = .ok (.ireturn, 1) := by decide +kernel
theorem dX11_lowest_0 : decode cX11_lowest 0 = .ok (.lload_n 1, 1) := by decide +kernel
theorem dX11_lowest_1 : decode cX11_lowest 1 = .ok (.lload_n 3, 1) := by decide +kernel
theorem dX11_lowest_2 : decode cX11_lowest 2 = .ok (.invokestatic 328, 3) := by decide +kernel
theorem dX11_lowest_5 : decode cX11_lowest 5 = .ok (.lstore 5, 2) := by decide +kernel
theorem dX11_lowest_7 : decode cX11_lowest 7 = .ok (.aload_n 0, 1) := by decide +kernel
theorem dX11_lowest_8 : decode cX11_lowest 8 = .ok (.lload_n 1, 1) := by decide +kernel
theorem dX11_lowest_9 : decode cX11_lowest 9 = .ok (.lload 5, 2) := by decide +kernel
theorem dX11_lowest_11 : decode cX11_lowest 11 = .ok (.ldiv, 1) := by decide +kernel
theorem dX11_lowest_12 : decode cX11_lowest 12 = .ok (.putfield 337, 3) := by decide +kernel
theorem dX11_lowest_15 : decode cX11_lowest 15 = .ok (.aload_n 0, 1) := by decide +kernel
theorem dX11_lowest_16 : decode cX11_lowest 16 = .ok (.lload_n 3, 1) := by decide +kernel
theorem dX11_lowest_17 : decode cX11_lowest 17 = .ok (.lload 5, 2) := by decide +kernel
theorem dX11_lowest_19 : decode cX11_lowest 19 = .ok (.ldiv, 1) := by decide +kernel
theorem dX11_lowest_20 : decode cX11_lowest 20 = .ok (.putfield 340, 3) := by decide +kernel
theorem dX11_lowest_23 : decode cX11_lowest 23 = .ok (.aload_n 0, 1) := by decide +kernel
theorem dX11_lowest_24 : decode cX11_lowest 24 = .ok (.aload_n 0, 1) := by decide +kernel
theorem dX11_lowest_25 : decode cX11_lowest 25 = .ok (.getfield 343, 3) := by decide +kernel
theorem dX11_lowest_28 : decode cX11_lowest 28 = .ok (.ifCond .ne 36, 3) := by decide +kernel
theorem dX11_lowest_31 : decode cX11_lowest 31 = .ok (.aload_n 0, 1) := by decide +kernel
theorem dX11_lowest_32 : decode cX11_lowest 32 = .ok (.getfield 337, 3) := by decide +kernel
theorem dX11_lowest_35 : decode cX11_lowest 35 = .ok (.ldc2_w 304, 3) := by decide +kernel
theorem dX11_lowest_38 : decode cX11_lowest 38 = .ok (.lcmp, 1) := by decide +kernel
theorem dX11_lowest_39 : decode cX11_lowest 39 = .ok (.ifCond .gt 25, 3) := by decide +kernel
theorem dX11_lowest_42 : decode cX11_lowest 42 = .ok (.aload_n 0, 1) := by decide +kernel
theorem dX11_lowest_43 : decode cX11_lowest 43 = .ok (.getfield 337, 3) := by decide +kernel
theorem dX11_lowest_46 : decode cX11_lowest 46 = .ok (.ldc2_w 306, 3) := by decide +kernel
theorem dX11_lowest_49 : decode cX11_lowest 49 = .ok (.lcmp, 1) := by decide +kernel
theorem dX11_lowest_50 : decode cX11_lowest 50 = .ok (.ifCond .lt 14, 3) := by decide +kernel
theorem dX11_lowest_53 : decode cX11_lowest 53 = .ok (.aload_n 0, 1) := by decide +kernel
theorem dX11_lowest_54 : decode cX11_lowest 54 = .ok (.getfield 340, 3) := by decide +kernel
theorem dX11_lowest_57 : decode cX11_lowest 57 = .ok (.ldc2_w 304, 3) := by decide +kernel
theorem dX11_lowest_60 : decode cX11_lowest 60 = .ok (.lcmp, 1) := by decide +kernel
theorem dX11_lowest_61 : decode cX11_lowest 61 = .ok (.ifCond .le 7, 3) := by decide +kernel
theorem dX11_lowest_64 : decode cX11_lowest 64 = .ok (.iconst 1, 1) := by decide +kernel
theorem dX11_lowest_65 : decode cX11_lowest 65 = .ok (.goto 4, 3) := by decide +kernel
theorem dX11_lowest_68 : decode cX11_lowest 68 = .ok (.iconst 0, 1) := by decide +kernel
theorem dX11_lowest_69 : decode cX11_lowest 69 = .ok (.putfield 343, 3) := by decide +kernel
theorem dX11_lowest_72 : decode cX11_lowest 72 = .ok (.aload_n 0, 1) := by decide +kernel
theorem dX11_lowest_73 : decode cX11_lowest 73 = .ok (.getfield 343, 3) := by decide +kernel
theorem dX11_lowest_76 : decode cX11_lowest 76 = .ok (.ifCond .eq 13, 3) := by decide +kernel
theorem dX11_lowest_79 : decode cX11_lowest 79 = .ok (.aload_n 0, 1) := by decide +kernel
theorem dX11_lowest_80 : decode cX11_lowest 80 = .ok (.lconst 0, 1) := by decide +kernel
theorem dX11_lowest_81 : decode cX11_lowest 81 = .ok (.putfield 337, 3) := by decide +kernel
theorem dX11_lowest_84 : decode cX11_lowest 84 = .ok (.aload_n 0, 1) := by decide +kernel
theorem dX11_lowest_85 : decode cX11_lowest 85 = .ok (.lconst 1, 1) := by decide +kernel
theorem dX11_lowest_86 : decode cX11_lowest 86 = .ok (.putfield 340, 3) := by decide +kernel
theorem dX11_lowest_89 : decode cX11_lowest 89 = .ok (.return_, 1) := by decide +kernel
theorem dX11_adds_0 : decode cX11_adds 0 = .ok (.aload_n 0, 1) := by decide +kernel
theorem dX11_adds_1 : decode cX11_adds 1 = .ok (.lload_n 1, 1) := by decide +kernel
theorem dX11_adds_2 : decode cX11_adds 2 = .ok (.lload 7, 2) := by decide +kernel
theorem dX11_adds_4 : decode cX11_adds 4 = .ok (.lmul, 1) := by decide +kernel
theorem dX11_adds_5 : decode cX11_adds 5 = .ok (.lload 5, 2) := by decide +kernel
theorem dX11_adds_7 : decode cX11_adds 7 = .ok (.lload_n 3, 1) := by decide +kernel
theorem dX11_adds_8 : decode cX11_adds 8 = .ok (.lmul, 1) := by decide +kernel
theorem dX11_adds_9 : decode cX11_adds 9 = .ok (.ladd, 1) := by decide +kernel
theorem dX11_adds_10 : decode cX11_adds 10 = .ok (.lload_n 3, 1) := by decide +kernel
theorem dX11_adds_11 : decode cX11_adds 11 = .ok (.lload 7, 2) := by decide +kernel
theorem dX11_adds_13 : decode cX11_adds 13 = .ok (.lmul, 1) := by decide +kernel
theorem dX11_adds_14 : decode cX11_adds 14 = .ok (.invokevirtual 347, 3) := by decide +kernel
theorem dX11_adds_17 : decode cX11_adds 17 = .ok (.return_, 1) := by decide +kernel
theorem dX11_multiplies_0 : decode cX11_multiplies 0 = .ok (.lload_n 1, 1) := by decide +kernel
theorem dX11_multiplies_1 : decode cX11_multiplies 1 = .ok (.lload 7, 2) := by decide +kernel
theorem dX11_multiplies_3 : decode cX11_multiplies 3 = .ok (.invokestatic 328, 3) := by decide +kernel
theorem dX11_multiplies_6 : decode cX11_multiplies 6 = .ok (.lstore 9, 2) := by decide +kernel
theorem dX11_multiplies_8 : decode cX11_multiplies 8 = .ok (.lload 5, 2) := by decide +kernel
theorem dX11_multiplies_10 : decode cX11_multiplies 10 = .ok (.lload_n 3, 1) := by decide +kernel
theorem dX11_multiplies_11 : decode cX11_multiplies 11 = .ok (.invokestatic 328, 3) := by decide +kernel
theorem dX11_multiplies_14 : decode cX11_multiplies 14 = .ok (.lstore 11, 2) := by decide +kernel
theorem dX11_multiplies_16 : decode cX11_multiplies 16 = .ok (.lload 9, 2) := by decide +kernel
theorem dX11_multiplies_18 : decode cX11_multiplies 18 = .ok (.lconst 0, 1) := by decide +kernel
theorem dX11_multiplies_19 : decode cX11_multiplies 19 = .ok (.lcmp, 1) := by decide +kernel
theorem dX11_multiplies_20 : decode cX11_multiplies 20 = .ok (.ifCond .ne 7, 3) := by decide +kernel
theorem dX11_multiplies_23 : decode cX11_multiplies 23 = .ok (.lconst 1, 1) := by decide +kernel
theorem dX11_multiplies_24 : decode cX11_multiplies 24 = .ok (.goto 5, 3) := by decide +kernel
theorem dX11_multiplies_27 : decode cX11_multiplies 27 = .ok (.lload 9, 2) := by decide +kernel
theorem dX11_multiplies_29 : decode cX11_multiplies 29 = .ok (.lstore 13, 2) := by decide +kernel
theorem dX11_multiplies_31 : decode cX11_multiplies 31 = .ok (.lload 11, 2) := by decide +kernel
theorem dX11_multiplies_33 : decode cX11_multiplies 33 = .ok (.lconst 0, 1) := by decide +kernel
theorem dX11_multiplies_34 : decode cX11_multiplies 34 = .ok (.lcmp, 1) := by decide +kernel
theorem dX11_multiplies_35 : decode cX11_multiplies 35 = .ok (.ifCond .ne 7, 3) := by decide +kernel
theorem dX11_multiplies_38 : decode cX11_multiplies 38 = .ok (.lconst 1, 1) := by decide +kernel
theorem dX11_multiplies_39 : decode cX11_multiplies 39 = .ok (.goto 5, 3) := by decide +kernel
theorem dX11_multiplies_42 : decode cX11_multiplies 42 = .ok (.lload 11, 2) := by decide +kernel
theorem dX11_multiplies_44 : decode cX11_multiplies 44 = .ok (.lstore 15, 2) := by decide +kernel
theorem dX11_multiplies_46 : decode cX11_multiplies 46 = .ok (.aload_n 0, 1) := by decide +kernel
theorem dX11_multiplies_47 : decode cX11_multiplies 47 = .ok (.lload_n 1, 1) := by decide +kernel
theorem dX11_multiplies_48 : decode cX11_multiplies 48 = .ok (.lload 13, 2) := by decide +kernel
theorem dX11_multiplies_50 : decode cX11_multiplies 50 = .ok (.ldiv, 1) := by decide +kernel
theorem dX11_multiplies_51 : decode cX11_multiplies 51 = .ok (.lload 5, 2) := by decide +kernel
theorem dX11_multiplies_53 : decode cX11_multiplies 53 = .ok (.lload 15, 2) := by decide +kernel
theorem dX11_multiplies_55 : decode cX11_multiplies 55 = .ok (.ldiv, 1) := by decide +kernel
theorem dX11_multiplies_56 : decode cX11_multiplies 56 = .ok (.lmul, 1) := by decide +kernel
theorem dX11_multiplies_57 : decode cX11_multiplies 57 = .ok (.lload_n 3, 1) := by decide +kernel
theorem dX11_multiplies_58 : decode cX11_multiplies 58 = .ok (.lload 15, 2) := by decide +kernel
theorem dX11_multiplies_60 : decode cX11_multiplies 60 = .ok (.ldiv, 1) := by decide +kernel
theorem dX11_multiplies_61 : decode cX11_multiplies 61 = .ok (.lload 7, 2) := by decide +kernel
theorem dX11_multiplies_63 : decode cX11_multiplies 63 = .ok (.lload 13, 2) := by decide +kernel
theorem dX11_multiplies_65 : decode cX11_multiplies 65 = .ok (.ldiv, 1) := by decide +kernel
theorem dX11_multiplies_66 : decode cX11_multiplies 66 = .ok (.lmul, 1) := by decide +kernel
theorem dX11_multiplies_67 : decode cX11_multiplies 67 = .ok (.invokevirtual 347, 3) := by decide +kernel
theorem dX11_multiplies_70 : decode cX11_multiplies 70 = .ok (.return_, 1) := by decide +kernel
theorem dX11_findEchoes_0 : decode cX11_findEchoes 0 = .ok (.aload_n 0, 1) := by decide +kernel
theorem dX11_findEchoes_1 : decode cX11_findEchoes 1 = .ok (.iconst 0, 1) := by decide +kernel
theorem dX11_findEchoes_2 : decode cX11_findEchoes 2 = .ok (.putfield 343, 3) := by decide +kernel
theorem dX11_findEchoes_5 : decode cX11_findEchoes 5 = .ok (.aload_n 0, 1) := by decide +kernel
theorem dX11_findEchoes_6 : decode cX11_findEchoes 6 = .ok (.lconst 0, 1) := by decide +kernel
theorem dX11_findEchoes_7 : decode cX11_findEchoes 7 = .ok (.putfield 351, 3) := by decide +kernel
theorem dX11_findEchoes_10 : decode cX11_findEchoes 10 = .ok (.aload_n 0, 1) := by decide +kernel
theorem dX11_findEchoes_11 : decode cX11_findEchoes 11 = .ok (.lconst 1, 1) := by decide +kernel
theorem dX11_findEchoes_12 : decode cX11_findEchoes 12 = .ok (.putfield 354, 3) := by decide +kernel
theorem dX11_findEchoes_15 : decode cX11_findEchoes 15 = .ok (.aload_n 0, 1) := by decide +kernel
theorem dX11_findEchoes_16 : decode cX11_findEchoes 16 = .ok (.lconst 0, 1) := by decide +kernel
theorem dX11_findEchoes_17 : decode cX11_findEchoes 17 = .ok (.putfield 357, 3) := by decide +kernel
theorem dX11_findEchoes_20 : decode cX11_findEchoes 20 = .ok (.aload_n 0, 1) := by decide +kernel
theorem dX11_findEchoes_21 : decode cX11_findEchoes 21 = .ok (.lconst 1, 1) := by decide +kernel
theorem dX11_findEchoes_22 : decode cX11_findEchoes 22 = .ok (.putfield 360, 3) := by decide +kernel
theorem dX11_findEchoes_25 : decode cX11_findEchoes 25 = .ok (.iconst 0, 1) := by decide +kernel
theorem dX11_findEchoes_26 : decode cX11_findEchoes 26 = .ok (.istore_n 2, 1) := by decide +kernel
theorem dX11_findEchoes_27 : decode cX11_findEchoes 27 = .ok (.iload_n 2, 1) := by decide +kernel
theorem dX11_findEchoes_28 : decode cX11_findEchoes 28 = .ok (.iload_n 1, 1) := by decide +kernel
theorem dX11_findEchoes_29 : decode cX11_findEchoes 29 = .ok (.if_icmp .gt 257, 3) := by decide +kernel
theorem dX11_findEchoes_32 : decode cX11_findEchoes 32 = .ok (.aload_n 0, 1) := by decide +kernel
theorem dX11_findEchoes_33 : decode cX11_findEchoes 33 = .ok (.getfield 343, 3) := by decide +kernel
theorem dX11_findEchoes_36 : decode cX11_findEchoes 36 = .ok (.ifCond .ne 250, 3) := by decide +kernel
theorem dX11_findEchoes_39 : decode cX11_findEchoes 39 = .ok (.iload_n 2, 1) := by decide +kernel
theorem dX11_findEchoes_40 : decode cX11_findEchoes 40 = .ok (.ifCond .ne 7, 3) := by decide +kernel
theorem dX11_findEchoes_43 : decode cX11_findEchoes 43 = .ok (.lconst 1, 1) := by decide +kernel
theorem dX11_findEchoes_44 : decode cX11_findEchoes 44 = .ok (.goto 4, 3) := by decide +kernel
theorem dX11_findEchoes_47 : decode cX11_findEchoes 47 = .ok (.lconst 0, 1) := by decide +kernel
theorem dX11_findEchoes_48 : decode cX11_findEchoes 48 = .ok (.lstore_n 3, 1) := by decide +kernel
theorem dX11_findEchoes_49 : decode cX11_findEchoes 49 = .ok (.aload_n 0, 1) := by decide +kernel
theorem dX11_findEchoes_50 : decode cX11_findEchoes 50 = .ok (.lload_n 3, 1) := by decide +kernel
theorem dX11_findEchoes_51 : decode cX11_findEchoes 51 = .ok (.lconst 1, 1) := by decide +kernel
theorem dX11_findEchoes_52 : decode cX11_findEchoes 52 = .ok (.aload_n 0, 1) := by decide +kernel
theorem dX11_findEchoes_53 : decode cX11_findEchoes 53 = .ok (.getfield 351, 3) := by decide +kernel
theorem dX11_findEchoes_56 : decode cX11_findEchoes 56 = .ok (.lneg, 1) := by decide +kernel
theorem dX11_findEchoes_57 : decode cX11_findEchoes 57 = .ok (.aload_n 0, 1) := by decide +kernel
theorem dX11_findEchoes_58 : decode cX11_findEchoes 58 = .ok (.getfield 354, 3) := by decide +kernel
theorem dX11_findEchoes_61 : decode cX11_findEchoes 61 = .ok (.invokevirtual 363, 3) := by decide +kernel
theorem dX11_findEchoes_64 : decode cX11_findEchoes 64 = .ok (.aload_n 0, 1) := by decide +kernel
theorem dX11_findEchoes_65 : decode cX11_findEchoes 65 = .ok (.aload_n 0, 1) := by decide +kernel
theorem dX11_findEchoes_66 : decode cX11_findEchoes 66 = .ok (.getfield 95, 3) := by decide +kernel
theorem dX11_findEchoes_69 : decode cX11_findEchoes 69 = .ok (.aload_n 0, 1) := by decide +kernel
theorem dX11_findEchoes_70 : decode cX11_findEchoes 70 = .ok (.getfield 99, 3) := by decide +kernel
theorem dX11_findEchoes_73 : decode cX11_findEchoes 73 = .ok (.aload_n 0, 1) := by decide +kernel
theorem dX11_findEchoes_74 : decode cX11_findEchoes 74 = .ok (.getfield 337, 3) := by decide +kernel
theorem dX11_findEchoes_77 : decode cX11_findEchoes 77 = .ok (.aload_n 0, 1) := by decide +kernel
theorem dX11_findEchoes_78 : decode cX11_findEchoes 78 = .ok (.getfield 340, 3) := by decide +kernel
theorem dX11_findEchoes_81 : decode cX11_findEchoes 81 = .ok (.invokevirtual 367, 3) := by decide +kernel
theorem dX11_findEchoes_84 : decode cX11_findEchoes 84 = .ok (.aload_n 0, 1) := by decide +kernel
theorem dX11_findEchoes_85 : decode cX11_findEchoes 85 = .ok (.aload_n 0, 1) := by decide +kernel
theorem dX11_findEchoes_86 : decode cX11_findEchoes 86 = .ok (.getfield 351, 3) := by decide +kernel
theorem dX11_findEchoes_89 : decode cX11_findEchoes 89 = .ok (.aload_n 0, 1) := by decide +kernel
theorem dX11_findEchoes_90 : decode cX11_findEchoes 90 = .ok (.getfield 354, 3) := by decide +kernel
theorem dX11_findEchoes_93 : decode cX11_findEchoes 93 = .ok (.aload_n 0, 1) := by decide +kernel
theorem dX11_findEchoes_94 : decode cX11_findEchoes 94 = .ok (.getfield 337, 3) := by decide +kernel
theorem dX11_findEchoes_97 : decode cX11_findEchoes 97 = .ok (.aload_n 0, 1) := by decide +kernel
theorem dX11_findEchoes_98 : decode cX11_findEchoes 98 = .ok (.getfield 340, 3) := by decide +kernel
theorem dX11_findEchoes_101 : decode cX11_findEchoes 101 = .ok (.invokevirtual 363, 3) := by decide +kernel
theorem dX11_findEchoes_104 : decode cX11_findEchoes 104 = .ok (.aload_n 0, 1) := by decide +kernel
theorem dX11_findEchoes_105 : decode cX11_findEchoes 105 = .ok (.aload_n 0, 1) := by decide +kernel
theorem dX11_findEchoes_106 : decode cX11_findEchoes 106 = .ok (.getfield 337, 3) := by decide +kernel
theorem dX11_findEchoes_109 : decode cX11_findEchoes 109 = .ok (.putfield 351, 3) := by decide +kernel
theorem dX11_findEchoes_112 : decode cX11_findEchoes 112 = .ok (.aload_n 0, 1) := by decide +kernel
theorem dX11_findEchoes_113 : decode cX11_findEchoes 113 = .ok (.aload_n 0, 1) := by decide +kernel
theorem dX11_findEchoes_114 : decode cX11_findEchoes 114 = .ok (.getfield 340, 3) := by decide +kernel
theorem dX11_findEchoes_117 : decode cX11_findEchoes 117 = .ok (.putfield 354, 3) := by decide +kernel
theorem dX11_findEchoes_120 : decode cX11_findEchoes 120 = .ok (.aload_n 0, 1) := by decide +kernel
theorem dX11_findEchoes_121 : decode cX11_findEchoes 121 = .ok (.aload_n 0, 1) := by decide +kernel
theorem dX11_findEchoes_122 : decode cX11_findEchoes 122 = .ok (.getfield 357, 3) := by decide +kernel
theorem dX11_findEchoes_125 : decode cX11_findEchoes 125 = .ok (.aload_n 0, 1) := by decide +kernel
theorem dX11_findEchoes_126 : decode cX11_findEchoes 126 = .ok (.getfield 360, 3) := by decide +kernel
theorem dX11_findEchoes_129 : decode cX11_findEchoes 129 = .ok (.lload_n 3, 1) := by decide +kernel
theorem dX11_findEchoes_130 : decode cX11_findEchoes 130 = .ok (.lneg, 1) := by decide +kernel
theorem dX11_findEchoes_131 : decode cX11_findEchoes 131 = .ok (.lconst 1, 1) := by decide +kernel
theorem dX11_findEchoes_132 : decode cX11_findEchoes 132 = .ok (.invokevirtual 363, 3) := by decide +kernel
theorem dX11_findEchoes_135 : decode cX11_findEchoes 135 = .ok (.aload_n 0, 1) := by decide +kernel
theorem dX11_findEchoes_136 : decode cX11_findEchoes 136 = .ok (.aload_n 0, 1) := by decide +kernel
theorem dX11_findEchoes_137 : decode cX11_findEchoes 137 = .ok (.getfield 337, 3) := by decide +kernel
theorem dX11_findEchoes_140 : decode cX11_findEchoes 140 = .ok (.putfield 357, 3) := by decide +kernel
theorem dX11_findEchoes_143 : decode cX11_findEchoes 143 = .ok (.aload_n 0, 1) := by decide +kernel
theorem dX11_findEchoes_144 : decode cX11_findEchoes 144 = .ok (.aload_n 0, 1) := by decide +kernel
theorem dX11_findEchoes_145 : decode cX11_findEchoes 145 = .ok (.getfield 340, 3) := by decide +kernel
theorem dX11_findEchoes_148 : decode cX11_findEchoes 148 = .ok (.putfield 360, 3) := by decide +kernel
theorem dX11_findEchoes_151 : decode cX11_findEchoes 151 = .ok (.aload_n 0, 1) := by decide +kernel
theorem dX11_findEchoes_152 : decode cX11_findEchoes 152 = .ok (.aload_n 0, 1) := by decide +kernel
theorem dX11_findEchoes_153 : decode cX11_findEchoes 153 = .ok (.getfield 108, 3) := by decide +kernel
theorem dX11_findEchoes_156 : decode cX11_findEchoes 156 = .ok (.i2l, 1) := by decide +kernel
theorem dX11_findEchoes_157 : decode cX11_findEchoes 157 = .ok (.lconst 1, 1) := by decide +kernel
theorem dX11_findEchoes_158 : decode cX11_findEchoes 158 = .ok (.aload_n 0, 1) := by decide +kernel
theorem dX11_findEchoes_159 : decode cX11_findEchoes 159 = .ok (.getfield 351, 3) := by decide +kernel
theorem dX11_findEchoes_162 : decode cX11_findEchoes 162 = .ok (.aload_n 0, 1) := by decide +kernel
theorem dX11_findEchoes_163 : decode cX11_findEchoes 163 = .ok (.getfield 354, 3) := by decide +kernel
theorem dX11_findEchoes_166 : decode cX11_findEchoes 166 = .ok (.invokevirtual 367, 3) := by decide +kernel
theorem dX11_findEchoes_169 : decode cX11_findEchoes 169 = .ok (.aload_n 0, 1) := by decide +kernel
theorem dX11_findEchoes_170 : decode cX11_findEchoes 170 = .ok (.aload_n 0, 1) := by decide +kernel
theorem dX11_findEchoes_171 : decode cX11_findEchoes 171 = .ok (.getfield 337, 3) := by decide +kernel
theorem dX11_findEchoes_174 : decode cX11_findEchoes 174 = .ok (.aload_n 0, 1) := by decide +kernel
theorem dX11_findEchoes_175 : decode cX11_findEchoes 175 = .ok (.getfield 340, 3) := by decide +kernel
theorem dX11_findEchoes_178 : decode cX11_findEchoes 178 = .ok (.aload_n 0, 1) := by decide +kernel
theorem dX11_findEchoes_179 : decode cX11_findEchoes 179 = .ok (.getfield 357, 3) := by decide +kernel
theorem dX11_findEchoes_182 : decode cX11_findEchoes 182 = .ok (.lneg, 1) := by decide +kernel
theorem dX11_findEchoes_183 : decode cX11_findEchoes 183 = .ok (.aload_n 0, 1) := by decide +kernel
theorem dX11_findEchoes_184 : decode cX11_findEchoes 184 = .ok (.getfield 360, 3) := by decide +kernel
theorem dX11_findEchoes_187 : decode cX11_findEchoes 187 = .ok (.invokevirtual 363, 3) := by decide +kernel
theorem dX11_findEchoes_190 : decode cX11_findEchoes 190 = .ok (.aload_n 0, 1) := by decide +kernel
theorem dX11_findEchoes_191 : decode cX11_findEchoes 191 = .ok (.aload_n 0, 1) := by decide +kernel
theorem dX11_findEchoes_192 : decode cX11_findEchoes 192 = .ok (.getfield 102, 3) := by decide +kernel
theorem dX11_findEchoes_195 : decode cX11_findEchoes 195 = .ok (.aload_n 0, 1) := by decide +kernel
theorem dX11_findEchoes_196 : decode cX11_findEchoes 196 = .ok (.getfield 105, 3) := by decide +kernel
theorem dX11_findEchoes_199 : decode cX11_findEchoes 199 = .ok (.aload_n 0, 1) := by decide +kernel
theorem dX11_findEchoes_200 : decode cX11_findEchoes 200 = .ok (.getfield 337, 3) := by decide +kernel
theorem dX11_findEchoes_203 : decode cX11_findEchoes 203 = .ok (.aload_n 0, 1) := by decide +kernel
theorem dX11_findEchoes_204 : decode cX11_findEchoes 204 = .ok (.getfield 340, 3) := by decide +kernel
theorem dX11_findEchoes_207 : decode cX11_findEchoes 207 = .ok (.invokevirtual 367, 3) := by decide +kernel
theorem dX11_findEchoes_210 : decode cX11_findEchoes 210 = .ok (.aload_n 0, 1) := by decide +kernel
theorem dX11_findEchoes_211 : decode cX11_findEchoes 211 = .ok (.lload_n 3, 1) := by decide +kernel
theorem dX11_findEchoes_212 : decode cX11_findEchoes 212 = .ok (.lconst 1, 1) := by decide +kernel
theorem dX11_findEchoes_213 : decode cX11_findEchoes 213 = .ok (.aload_n 0, 1) := by decide +kernel
theorem dX11_findEchoes_214 : decode cX11_findEchoes 214 = .ok (.getfield 337, 3) := by decide +kernel
theorem dX11_findEchoes_217 : decode cX11_findEchoes 217 = .ok (.aload_n 0, 1) := by decide +kernel
theorem dX11_findEchoes_218 : decode cX11_findEchoes 218 = .ok (.getfield 340, 3) := by decide +kernel
theorem dX11_findEchoes_221 : decode cX11_findEchoes 221 = .ok (.invokevirtual 363, 3) := by decide +kernel
theorem dX11_findEchoes_224 : decode cX11_findEchoes 224 = .ok (.aload_n 0, 1) := by decide +kernel
theorem dX11_findEchoes_225 : decode cX11_findEchoes 225 = .ok (.getfield 112, 3) := by decide +kernel
theorem dX11_findEchoes_228 : decode cX11_findEchoes 228 = .ok (.iload_n 2, 1) := by decide +kernel
theorem dX11_findEchoes_229 : decode cX11_findEchoes 229 = .ok (.aload_n 0, 1) := by decide +kernel
theorem dX11_findEchoes_230 : decode cX11_findEchoes 230 = .ok (.getfield 337, 3) := by decide +kernel
theorem dX11_findEchoes_233 : decode cX11_findEchoes 233 = .ok (.lastore, 1) := by decide +kernel
theorem dX11_findEchoes_234 : decode cX11_findEchoes 234 = .ok (.aload_n 0, 1) := by decide +kernel
theorem dX11_findEchoes_235 : decode cX11_findEchoes 235 = .ok (.getfield 115, 3) := by decide +kernel
theorem dX11_findEchoes_238 : decode cX11_findEchoes 238 = .ok (.iload_n 2, 1) := by decide +kernel
theorem dX11_findEchoes_239 : decode cX11_findEchoes 239 = .ok (.aload_n 0, 1) := by decide +kernel
theorem dX11_findEchoes_240 : decode cX11_findEchoes 240 = .ok (.getfield 340, 3) := by decide +kernel
theorem dX11_findEchoes_243 : decode cX11_findEchoes 243 = .ok (.lastore, 1) := by decide +kernel
theorem dX11_findEchoes_244 : decode cX11_findEchoes 244 = .ok (.aload_n 0, 1) := by decide +kernel
theorem dX11_findEchoes_245 : decode cX11_findEchoes 245 = .ok (.aload_n 0, 1) := by decide +kernel
theorem dX11_findEchoes_246 : decode cX11_findEchoes 246 = .ok (.getfield 357, 3) := by decide +kernel
theorem dX11_findEchoes_249 : decode cX11_findEchoes 249 = .ok (.aload_n 0, 1) := by decide +kernel
theorem dX11_findEchoes_250 : decode cX11_findEchoes 250 = .ok (.getfield 360, 3) := by decide +kernel
theorem dX11_findEchoes_253 : decode cX11_findEchoes 253 = .ok (.aload_n 0, 1) := by decide +kernel
theorem dX11_findEchoes_254 : decode cX11_findEchoes 254 = .ok (.getfield 337, 3) := by decide +kernel
theorem dX11_findEchoes_257 : decode cX11_findEchoes 257 = .ok (.aload_n 0, 1) := by decide +kernel
theorem dX11_findEchoes_258 : decode cX11_findEchoes 258 = .ok (.getfield 340, 3) := by decide +kernel
theorem dX11_findEchoes_261 : decode cX11_findEchoes 261 = .ok (.invokevirtual 363, 3) := by decide +kernel
theorem dX11_findEchoes_264 : decode cX11_findEchoes 264 = .ok (.aload_n 0, 1) := by decide +kernel
theorem dX11_findEchoes_265 : decode cX11_findEchoes 265 = .ok (.aload_n 0, 1) := by decide +kernel
theorem dX11_findEchoes_266 : decode cX11_findEchoes 266 = .ok (.getfield 337, 3) := by decide +kernel
theorem dX11_findEchoes_269 : decode cX11_findEchoes 269 = .ok (.putfield 357, 3) := by decide +kernel
theorem dX11_findEchoes_272 : decode cX11_findEchoes 272 = .ok (.aload_n 0, 1) := by decide +kernel
theorem dX11_findEchoes_273 : decode cX11_findEchoes 273 = .ok (.aload_n 0, 1) := by decide +kernel
theorem dX11_findEchoes_274 : decode cX11_findEchoes 274 = .ok (.getfield 340, 3) := by decide +kernel
theorem dX11_findEchoes_277 : decode cX11_findEchoes 277 = .ok (.putfield 360, 3) := by decide +kernel
theorem dX11_findEchoes_280 : decode cX11_findEchoes 280 = .ok (.iinc 2 1, 3) := by decide +kernel
theorem dX11_findEchoes_283 : decode cX11_findEchoes 283 = .ok (.goto (-256), 3) := by decide +kernel
theorem dX11_findEchoes_286 : decode cX11_findEchoes 286 = .ok (.return_, 1) := by decide +kernel
theorem dX11_echo_0 : decode cX11_echo 0 = .ok (.iload_n 1, 1) := by decide +kernel
theorem dX11_echo_1 : decode cX11_echo 1 = .ok (.i2l, 1) := by decide +kernel
theorem dX11_echo_2 : decode cX11_echo 2 = .ok (.lconst 0, 1) := by decide +kernel
theorem dX11_echo_3 : decode cX11_echo 3 = .ok (.ldc2_w 370, 3) := by decide +kernel
theorem dX11_echo_6 : decode cX11_echo 6 = .ok (.invokestatic 169, 3) := by decide +kernel
theorem dX11_echo_9 : decode cX11_echo 9 = .ok (.ifCond .eq 13, 3) := by decide +kernel
theorem dX11_echo_12 : decode cX11_echo 12 = .ok (.iload_n 2, 1) := by decide +kernel
theorem dX11_echo_13 : decode cX11_echo 13 = .ok (.i2l, 1) := by decide +kernel
theorem dX11_echo_14 : decode cX11_echo 14 = .ok (.lconst 0, 1) := by decide +kernel
theorem dX11_echo_15 : decode cX11_echo 15 = .ok (.lconst 1, 1) := by decide +kernel
theorem dX11_echo_16 : decode cX11_echo 16 = .ok (.invokestatic 169, 3) := by decide +kernel
theorem dX11_echo_19 : decode cX11_echo 19 = .ok (.ifCond .ne 7, 3) := by decide +kernel
theorem dX11_echo_22 : decode cX11_echo 22 = .ok (.ldc2_w 215, 3) := by decide +kernel
theorem dX11_echo_25 : decode cX11_echo 25 = .ok (.lreturn, 1) := by decide +kernel
theorem dX11_echo_26 : decode cX11_echo 26 = .ok (.aload_n 0, 1) := by decide +kernel
theorem dX11_echo_27 : decode cX11_echo 27 = .ok (.iload_n 1, 1) := by decide +kernel
theorem dX11_echo_28 : decode cX11_echo 28 = .ok (.invokevirtual 372, 3) := by decide +kernel
theorem dX11_echo_31 : decode cX11_echo 31 = .ok (.aload_n 0, 1) := by decide +kernel
theorem dX11_echo_32 : decode cX11_echo 32 = .ok (.getfield 343, 3) := by decide +kernel
theorem dX11_echo_35 : decode cX11_echo 35 = .ok (.ifCond .eq 9, 3) := by decide +kernel
theorem dX11_echo_38 : decode cX11_echo 38 = .ok (.ldc2_w 332, 3) := by decide +kernel
theorem dX11_echo_41 : decode cX11_echo 41 = .ok (.goto 22, 3) := by decide +kernel
theorem dX11_echo_44 : decode cX11_echo 44 = .ok (.iload_n 2, 1) := by decide +kernel
theorem dX11_echo_45 : decode cX11_echo 45 = .ok (.ifCond .ne 12, 3) := by decide +kernel
theorem dX11_echo_48 : decode cX11_echo 48 = .ok (.aload_n 0, 1) := by decide +kernel
theorem dX11_echo_49 : decode cX11_echo 49 = .ok (.getfield 112, 3) := by decide +kernel
theorem dX11_echo_52 : decode cX11_echo 52 = .ok (.iload_n 1, 1) := by decide +kernel
theorem dX11_echo_53 : decode cX11_echo 53 = .ok (.laload, 1) := by decide +kernel
theorem dX11_echo_54 : decode cX11_echo 54 = .ok (.goto 9, 3) := by decide +kernel
theorem dX11_echo_57 : decode cX11_echo 57 = .ok (.aload_n 0, 1) := by decide +kernel
theorem dX11_echo_58 : decode cX11_echo 58 = .ok (.getfield 115, 3) := by decide +kernel
theorem dX11_echo_61 : decode cX11_echo 61 = .ok (.iload_n 1, 1) := by decide +kernel
theorem dX11_echo_62 : decode cX11_echo 62 = .ok (.laload, 1) := by decide +kernel
theorem dX11_echo_63 : decode cX11_echo 63 = .ok (.lreturn, 1) := by decide +kernel
theorem dX11_findBelow_0 : decode cX11_findBelow 0 = .ok (.aload_n 0, 1) := by decide +kernel
theorem dX11_findBelow_1 : decode cX11_findBelow 1 = .ok (.lconst 1, 1) := by decide +kernel
theorem dX11_findBelow_2 : decode cX11_findBelow 2 = .ok (.lconst 1, 1) := by decide +kernel
theorem dX11_findBelow_3 : decode cX11_findBelow 3 = .ok (.aload_n 0, 1) := by decide +kernel
theorem dX11_findBelow_4 : decode cX11_findBelow 4 = .ok (.getfield 95, 3) := by decide +kernel
theorem dX11_findBelow_7 : decode cX11_findBelow 7 = .ok (.lneg, 1) := by decide +kernel
theorem dX11_findBelow_8 : decode cX11_findBelow 8 = .ok (.aload_n 0, 1) := by decide +kernel
theorem dX11_findBelow_9 : decode cX11_findBelow 9 = .ok (.getfield 99, 3) := by decide +kernel
theorem dX11_findBelow_12 : decode cX11_findBelow 12 = .ok (.invokevirtual 363, 3) := by decide +kernel
theorem dX11_findBelow_15 : decode cX11_findBelow 15 = .ok (.aload_n 0, 1) := by decide +kernel
theorem dX11_findBelow_16 : decode cX11_findBelow 16 = .ok (.getfield 337, 3) := by decide +kernel
theorem dX11_findBelow_19 : decode cX11_findBelow 19 = .ok (.lstore_n 2, 1) := by decide +kernel
theorem dX11_findBelow_20 : decode cX11_findBelow 20 = .ok (.aload_n 0, 1) := by decide +kernel
theorem dX11_findBelow_21 : decode cX11_findBelow 21 = .ok (.getfield 340, 3) := by decide +kernel
theorem dX11_findBelow_24 : decode cX11_findBelow 24 = .ok (.lstore 4, 2) := by decide +kernel
theorem dX11_findBelow_26 : decode cX11_findBelow 26 = .ok (.aload_n 0, 1) := by decide +kernel
theorem dX11_findBelow_27 : decode cX11_findBelow 27 = .ok (.lconst 1, 1) := by decide +kernel
theorem dX11_findBelow_28 : decode cX11_findBelow 28 = .ok (.lconst 1, 1) := by decide +kernel
theorem dX11_findBelow_29 : decode cX11_findBelow 29 = .ok (.aload_n 0, 1) := by decide +kernel
theorem dX11_findBelow_30 : decode cX11_findBelow 30 = .ok (.getfield 102, 3) := by decide +kernel
theorem dX11_findBelow_33 : decode cX11_findBelow 33 = .ok (.lneg, 1) := by decide +kernel
theorem dX11_findBelow_34 : decode cX11_findBelow 34 = .ok (.aload_n 0, 1) := by decide +kernel
theorem dX11_findBelow_35 : decode cX11_findBelow 35 = .ok (.getfield 105, 3) := by decide +kernel
theorem dX11_findBelow_38 : decode cX11_findBelow 38 = .ok (.invokevirtual 363, 3) := by decide +kernel
theorem dX11_findBelow_41 : decode cX11_findBelow 41 = .ok (.aload_n 0, 1) := by decide +kernel
theorem dX11_findBelow_42 : decode cX11_findBelow 42 = .ok (.getfield 337, 3) := by decide +kernel
theorem dX11_findBelow_45 : decode cX11_findBelow 45 = .ok (.lstore 6, 2) := by decide +kernel
theorem dX11_findBelow_47 : decode cX11_findBelow 47 = .ok (.aload_n 0, 1) := by decide +kernel
theorem dX11_findBelow_48 : decode cX11_findBelow 48 = .ok (.getfield 340, 3) := by decide +kernel
theorem dX11_findBelow_51 : decode cX11_findBelow 51 = .ok (.lstore 8, 2) := by decide +kernel
theorem dX11_findBelow_53 : decode cX11_findBelow 53 = .ok (.aload_n 0, 1) := by decide +kernel
theorem dX11_findBelow_54 : decode cX11_findBelow 54 = .ok (.lload_n 2, 1) := by decide +kernel
theorem dX11_findBelow_55 : decode cX11_findBelow 55 = .ok (.lload 4, 2) := by decide +kernel
theorem dX11_findBelow_57 : decode cX11_findBelow 57 = .ok (.lload 6, 2) := by decide +kernel
theorem dX11_findBelow_59 : decode cX11_findBelow 59 = .ok (.lload 8, 2) := by decide +kernel
theorem dX11_findBelow_61 : decode cX11_findBelow 61 = .ok (.invokevirtual 363, 3) := by decide +kernel
theorem dX11_findBelow_64 : decode cX11_findBelow 64 = .ok (.aload_n 0, 1) := by decide +kernel
theorem dX11_findBelow_65 : decode cX11_findBelow 65 = .ok (.getfield 118, 3) := by decide +kernel
theorem dX11_findBelow_68 : decode cX11_findBelow 68 = .ok (.iconst 1, 1) := by decide +kernel
theorem dX11_findBelow_69 : decode cX11_findBelow 69 = .ok (.aload_n 0, 1) := by decide +kernel
theorem dX11_findBelow_70 : decode cX11_findBelow 70 = .ok (.getfield 337, 3) := by decide +kernel
theorem dX11_findBelow_73 : decode cX11_findBelow 73 = .ok (.lneg, 1) := by decide +kernel
theorem dX11_findBelow_74 : decode cX11_findBelow 74 = .ok (.lastore, 1) := by decide +kernel
theorem dX11_findBelow_75 : decode cX11_findBelow 75 = .ok (.aload_n 0, 1) := by decide +kernel
theorem dX11_findBelow_76 : decode cX11_findBelow 76 = .ok (.getfield 121, 3) := by decide +kernel
theorem dX11_findBelow_79 : decode cX11_findBelow 79 = .ok (.iconst 1, 1) := by decide +kernel
theorem dX11_findBelow_80 : decode cX11_findBelow 80 = .ok (.aload_n 0, 1) := by decide +kernel
theorem dX11_findBelow_81 : decode cX11_findBelow 81 = .ok (.getfield 340, 3) := by decide +kernel
theorem dX11_findBelow_84 : decode cX11_findBelow 84 = .ok (.lastore, 1) := by decide +kernel
theorem dX11_findBelow_85 : decode cX11_findBelow 85 = .ok (.aload_n 0, 1) := by decide +kernel
theorem dX11_findBelow_86 : decode cX11_findBelow 86 = .ok (.lload_n 2, 1) := by decide +kernel
theorem dX11_findBelow_87 : decode cX11_findBelow 87 = .ok (.lload 4, 2) := by decide +kernel
theorem dX11_findBelow_89 : decode cX11_findBelow 89 = .ok (.lload 6, 2) := by decide +kernel
theorem dX11_findBelow_91 : decode cX11_findBelow 91 = .ok (.lload 8, 2) := by decide +kernel
theorem dX11_findBelow_93 : decode cX11_findBelow 93 = .ok (.invokevirtual 367, 3) := by decide +kernel
theorem dX11_findBelow_96 : decode cX11_findBelow 96 = .ok (.aload_n 0, 1) := by decide +kernel
theorem dX11_findBelow_97 : decode cX11_findBelow 97 = .ok (.getfield 118, 3) := by decide +kernel
theorem dX11_findBelow_100 : decode cX11_findBelow 100 = .ok (.iconst 2, 1) := by decide +kernel
theorem dX11_findBelow_101 : decode cX11_findBelow 101 = .ok (.aload_n 0, 1) := by decide +kernel
theorem dX11_findBelow_102 : decode cX11_findBelow 102 = .ok (.getfield 337, 3) := by decide +kernel
theorem dX11_findBelow_105 : decode cX11_findBelow 105 = .ok (.lastore, 1) := by decide +kernel
theorem dX11_findBelow_106 : decode cX11_findBelow 106 = .ok (.aload_n 0, 1) := by decide +kernel
theorem dX11_findBelow_107 : decode cX11_findBelow 107 = .ok (.getfield 121, 3) := by decide +kernel
theorem dX11_findBelow_110 : decode cX11_findBelow 110 = .ok (.iconst 2, 1) := by decide +kernel
theorem dX11_findBelow_111 : decode cX11_findBelow 111 = .ok (.aload_n 0, 1) := by decide +kernel
theorem dX11_findBelow_112 : decode cX11_findBelow 112 = .ok (.getfield 340, 3) := by decide +kernel
theorem dX11_findBelow_115 : decode cX11_findBelow 115 = .ok (.lastore, 1) := by decide +kernel
theorem dX11_findBelow_116 : decode cX11_findBelow 116 = .ok (.return_, 1) := by decide +kernel
theorem dX11_pole_0 : decode cX11_pole 0 = .ok (.iload_n 1, 1) := by decide +kernel
theorem dX11_pole_1 : decode cX11_pole 1 = .ok (.i2l, 1) := by decide +kernel
theorem dX11_pole_2 : decode cX11_pole 2 = .ok (.lconst 0, 1) := by decide +kernel
theorem dX11_pole_3 : decode cX11_pole 3 = .ok (.lconst 1, 1) := by decide +kernel
theorem dX11_pole_4 : decode cX11_pole 4 = .ok (.invokestatic 169, 3) := by decide +kernel
theorem dX11_pole_7 : decode cX11_pole 7 = .ok (.ifCond .eq 25, 3) := by decide +kernel
theorem dX11_pole_10 : decode cX11_pole 10 = .ok (.iload_n 2, 1) := by decide +kernel
theorem dX11_pole_11 : decode cX11_pole 11 = .ok (.i2l, 1) := by decide +kernel
theorem dX11_pole_12 : decode cX11_pole 12 = .ok (.lconst 0, 1) := by decide +kernel
theorem dX11_pole_13 : decode cX11_pole 13 = .ok (.ldc2_w 198, 3) := by decide +kernel
theorem dX11_pole_16 : decode cX11_pole 16 = .ok (.invokestatic 169, 3) := by decide +kernel
theorem dX11_pole_19 : decode cX11_pole 19 = .ok (.ifCond .eq 13, 3) := by decide +kernel
theorem dX11_pole_22 : decode cX11_pole 22 = .ok (.iload_n 3, 1) := by decide +kernel
theorem dX11_pole_23 : decode cX11_pole 23 = .ok (.i2l, 1) := by decide +kernel
theorem dX11_pole_24 : decode cX11_pole 24 = .ok (.lconst 0, 1) := by decide +kernel
theorem dX11_pole_25 : decode cX11_pole 25 = .ok (.lconst 1, 1) := by decide +kernel
theorem dX11_pole_26 : decode cX11_pole 26 = .ok (.invokestatic 169, 3) := by decide +kernel
theorem dX11_pole_29 : decode cX11_pole 29 = .ok (.ifCond .ne 7, 3) := by decide +kernel
theorem dX11_pole_32 : decode cX11_pole 32 = .ok (.ldc2_w 215, 3) := by decide +kernel
theorem dX11_pole_35 : decode cX11_pole 35 = .ok (.lreturn, 1) := by decide +kernel
theorem dX11_pole_36 : decode cX11_pole 36 = .ok (.aload_n 0, 1) := by decide +kernel
theorem dX11_pole_37 : decode cX11_pole 37 = .ok (.iconst 0, 1) := by decide +kernel
theorem dX11_pole_38 : decode cX11_pole 38 = .ok (.putfield 343, 3) := by decide +kernel
theorem dX11_pole_41 : decode cX11_pole 41 = .ok (.aload_n 0, 1) := by decide +kernel
theorem dX11_pole_42 : decode cX11_pole 42 = .ok (.iload_n 2, 1) := by decide +kernel
theorem dX11_pole_43 : decode cX11_pole 43 = .ok (.invokevirtual 375, 3) := by decide +kernel
theorem dX11_pole_46 : decode cX11_pole 46 = .ok (.iload_n 1, 1) := by decide +kernel
theorem dX11_pole_47 : decode cX11_pole 47 = .ok (.iconst 1, 1) := by decide +kernel
theorem dX11_pole_48 : decode cX11_pole 48 = .ok (.if_icmp .ne 23, 3) := by decide +kernel
theorem dX11_pole_51 : decode cX11_pole 51 = .ok (.iload_n 3, 1) := by decide +kernel
theorem dX11_pole_52 : decode cX11_pole 52 = .ok (.ifCond .ne 12, 3) := by decide +kernel
theorem dX11_pole_55 : decode cX11_pole 55 = .ok (.aload_n 0, 1) := by decide +kernel
theorem dX11_pole_56 : decode cX11_pole 56 = .ok (.getfield 118, 3) := by decide +kernel
theorem dX11_pole_59 : decode cX11_pole 59 = .ok (.iload_n 2, 1) := by decide +kernel
theorem dX11_pole_60 : decode cX11_pole 60 = .ok (.laload, 1) := by decide +kernel
theorem dX11_pole_61 : decode cX11_pole 61 = .ok (.goto 9, 3) := by decide +kernel
theorem dX11_pole_64 : decode cX11_pole 64 = .ok (.aload_n 0, 1) := by decide +kernel
theorem dX11_pole_65 : decode cX11_pole 65 = .ok (.getfield 121, 3) := by decide +kernel
theorem dX11_pole_68 : decode cX11_pole 68 = .ok (.iload_n 2, 1) := by decide +kernel
theorem dX11_pole_69 : decode cX11_pole 69 = .ok (.laload, 1) := by decide +kernel
theorem dX11_pole_70 : decode cX11_pole 70 = .ok (.lreturn, 1) := by decide +kernel
theorem dX11_pole_71 : decode cX11_pole 71 = .ok (.aload_n 0, 1) := by decide +kernel
theorem dX11_pole_72 : decode cX11_pole 72 = .ok (.iload_n 2, 1) := by decide +kernel
theorem dX11_pole_73 : decode cX11_pole 73 = .ok (.invokevirtual 372, 3) := by decide +kernel
theorem dX11_pole_76 : decode cX11_pole 76 = .ok (.lconst 0, 1) := by decide +kernel
theorem dX11_pole_77 : decode cX11_pole 77 = .ok (.lstore 4, 2) := by decide +kernel
theorem dX11_pole_79 : decode cX11_pole 79 = .ok (.lconst 1, 1) := by decide +kernel
theorem dX11_pole_80 : decode cX11_pole 80 = .ok (.lstore 6, 2) := by decide +kernel
theorem dX11_pole_82 : decode cX11_pole 82 = .ok (.iconst 0, 1) := by decide +kernel
theorem dX11_pole_83 : decode cX11_pole 83 = .ok (.istore 8, 2) := by decide +kernel
theorem dX11_pole_85 : decode cX11_pole 85 = .ok (.iload 8, 2) := by decide +kernel
theorem dX11_pole_87 : decode cX11_pole 87 = .ok (.iload_n 2, 1) := by decide +kernel
theorem dX11_pole_88 : decode cX11_pole 88 = .ok (.if_icmp .gt 80, 3) := by decide +kernel
theorem dX11_pole_91 : decode cX11_pole 91 = .ok (.aload_n 0, 1) := by decide +kernel
theorem dX11_pole_92 : decode cX11_pole 92 = .ok (.getfield 343, 3) := by decide +kernel
theorem dX11_pole_95 : decode cX11_pole 95 = .ok (.ifCond .ne 73, 3) := by decide +kernel
theorem dX11_pole_98 : decode cX11_pole 98 = .ok (.aload_n 0, 1) := by decide +kernel
theorem dX11_pole_99 : decode cX11_pole 99 = .ok (.aload_n 0, 1) := by decide +kernel
theorem dX11_pole_100 : decode cX11_pole 100 = .ok (.getfield 112, 3) := by decide +kernel
theorem dX11_pole_103 : decode cX11_pole 103 = .ok (.iload 8, 2) := by decide +kernel
theorem dX11_pole_105 : decode cX11_pole 105 = .ok (.laload, 1) := by decide +kernel
theorem dX11_pole_106 : decode cX11_pole 106 = .ok (.aload_n 0, 1) := by decide +kernel
theorem dX11_pole_107 : decode cX11_pole 107 = .ok (.getfield 115, 3) := by decide +kernel
theorem dX11_pole_110 : decode cX11_pole 110 = .ok (.iload 8, 2) := by decide +kernel
theorem dX11_pole_112 : decode cX11_pole 112 = .ok (.laload, 1) := by decide +kernel
theorem dX11_pole_113 : decode cX11_pole 113 = .ok (.aload_n 0, 1) := by decide +kernel
theorem dX11_pole_114 : decode cX11_pole 114 = .ok (.getfield 118, 3) := by decide +kernel
theorem dX11_pole_117 : decode cX11_pole 117 = .ok (.iload_n 2, 1) := by decide +kernel
theorem dX11_pole_118 : decode cX11_pole 118 = .ok (.iload 8, 2) := by decide +kernel
theorem dX11_pole_120 : decode cX11_pole 120 = .ok (.isub, 1) := by decide +kernel
theorem dX11_pole_121 : decode cX11_pole 121 = .ok (.laload, 1) := by decide +kernel
theorem dX11_pole_122 : decode cX11_pole 122 = .ok (.aload_n 0, 1) := by decide +kernel
theorem dX11_pole_123 : decode cX11_pole 123 = .ok (.getfield 121, 3) := by decide +kernel
theorem dX11_pole_126 : decode cX11_pole 126 = .ok (.iload_n 2, 1) := by decide +kernel
theorem dX11_pole_127 : decode cX11_pole 127 = .ok (.iload 8, 2) := by decide +kernel
theorem dX11_pole_129 : decode cX11_pole 129 = .ok (.isub, 1) := by decide +kernel
theorem dX11_pole_130 : decode cX11_pole 130 = .ok (.laload, 1) := by decide +kernel
theorem dX11_pole_131 : decode cX11_pole 131 = .ok (.invokevirtual 367, 3) := by decide +kernel
theorem dX11_pole_134 : decode cX11_pole 134 = .ok (.aload_n 0, 1) := by decide +kernel
theorem dX11_pole_135 : decode cX11_pole 135 = .ok (.lload 4, 2) := by decide +kernel
theorem dX11_pole_137 : decode cX11_pole 137 = .ok (.lload 6, 2) := by decide +kernel
theorem dX11_pole_139 : decode cX11_pole 139 = .ok (.aload_n 0, 1) := by decide +kernel
theorem dX11_pole_140 : decode cX11_pole 140 = .ok (.getfield 337, 3) := by decide +kernel
theorem dX11_pole_143 : decode cX11_pole 143 = .ok (.aload_n 0, 1) := by decide +kernel
theorem dX11_pole_144 : decode cX11_pole 144 = .ok (.getfield 340, 3) := by decide +kernel
theorem dX11_pole_147 : decode cX11_pole 147 = .ok (.invokevirtual 363, 3) := by decide +kernel
theorem dX11_pole_150 : decode cX11_pole 150 = .ok (.aload_n 0, 1) := by decide +kernel
theorem dX11_pole_151 : decode cX11_pole 151 = .ok (.getfield 337, 3) := by decide +kernel
theorem dX11_pole_154 : decode cX11_pole 154 = .ok (.lstore 4, 2) := by decide +kernel
theorem dX11_pole_156 : decode cX11_pole 156 = .ok (.aload_n 0, 1) := by decide +kernel
theorem dX11_pole_157 : decode cX11_pole 157 = .ok (.getfield 340, 3) := by decide +kernel
theorem dX11_pole_160 : decode cX11_pole 160 = .ok (.lstore 6, 2) := by decide +kernel
theorem dX11_pole_162 : decode cX11_pole 162 = .ok (.iinc 8 1, 3) := by decide +kernel
theorem dX11_pole_165 : decode cX11_pole 165 = .ok (.goto (-80), 3) := by decide +kernel
theorem dX11_pole_168 : decode cX11_pole 168 = .ok (.aload_n 0, 1) := by decide +kernel
theorem dX11_pole_169 : decode cX11_pole 169 = .ok (.getfield 343, 3) := by decide +kernel
theorem dX11_pole_172 : decode cX11_pole 172 = .ok (.ifCond .eq 9, 3) := by decide +kernel
theorem dX11_pole_175 : decode cX11_pole 175 = .ok (.ldc2_w 332, 3) := by decide +kernel
theorem dX11_pole_178 : decode cX11_pole 178 = .ok (.goto 14, 3) := by decide +kernel
theorem dX11_pole_181 : decode cX11_pole 181 = .ok (.iload_n 3, 1) := by decide +kernel
theorem dX11_pole_182 : decode cX11_pole 182 = .ok (.ifCond .ne 8, 3) := by decide +kernel
theorem dX11_pole_185 : decode cX11_pole 185 = .ok (.lload 4, 2) := by decide +kernel
theorem dX11_pole_187 : decode cX11_pole 187 = .ok (.goto 5, 3) := by decide +kernel
theorem dX11_pole_190 : decode cX11_pole 190 = .ok (.lload 6, 2) := by decide +kernel
theorem dX11_pole_192 : decode cX11_pole 192 = .ok (.lreturn, 1) := by decide +kernel
theorem dX11_loud_0 : decode cX11_loud 0 = .ok (.iload_n 1, 1) := by decide +kernel
theorem dX11_loud_1 : decode cX11_loud 1 = .ok (.i2l, 1) := by decide +kernel
theorem dX11_loud_2 : decode cX11_loud 2 = .ok (.lconst 1, 1) := by decide +kernel
theorem dX11_loud_3 : decode cX11_loud 3 = .ok (.ldc2_w 370, 3) := by decide +kernel
theorem dX11_loud_6 : decode cX11_loud 6 = .ok (.invokestatic 169, 3) := by decide +kernel
theorem dX11_loud_9 : decode cX11_loud 9 = .ok (.ifCond .eq 13, 3) := by decide +kernel
theorem dX11_loud_12 : decode cX11_loud 12 = .ok (.iload_n 2, 1) := by decide +kernel
theorem dX11_loud_13 : decode cX11_loud 13 = .ok (.i2l, 1) := by decide +kernel
theorem dX11_loud_14 : decode cX11_loud 14 = .ok (.lconst 0, 1) := by decide +kernel
theorem dX11_loud_15 : decode cX11_loud 15 = .ok (.lconst 1, 1) := by decide +kernel
theorem dX11_loud_16 : decode cX11_loud 16 = .ok (.invokestatic 169, 3) := by decide +kernel
theorem dX11_loud_19 : decode cX11_loud 19 = .ok (.ifCond .ne 7, 3) := by decide +kernel
theorem dX11_loud_22 : decode cX11_loud 22 = .ok (.ldc2_w 215, 3) := by decide +kernel
theorem dX11_loud_25 : decode cX11_loud 25 = .ok (.lreturn, 1) := by decide +kernel
theorem dX11_loud_26 : decode cX11_loud 26 = .ok (.aload_n 0, 1) := by decide +kernel
theorem dX11_loud_27 : decode cX11_loud 27 = .ok (.iload_n 1, 1) := by decide +kernel
theorem dX11_loud_28 : decode cX11_loud 28 = .ok (.iconst 1, 1) := by decide +kernel
theorem dX11_loud_29 : decode cX11_loud 29 = .ok (.isub, 1) := by decide +kernel
theorem dX11_loud_30 : decode cX11_loud 30 = .ok (.invokevirtual 372, 3) := by decide +kernel
theorem dX11_loud_33 : decode cX11_loud 33 = .ok (.lconst 0, 1) := by decide +kernel
theorem dX11_loud_34 : decode cX11_loud 34 = .ok (.lstore_n 3, 1) := by decide +kernel
theorem dX11_loud_35 : decode cX11_loud 35 = .ok (.lconst 1, 1) := by decide +kernel
theorem dX11_loud_36 : decode cX11_loud 36 = .ok (.lstore 5, 2) := by decide +kernel
theorem dX11_loud_38 : decode cX11_loud 38 = .ok (.iconst 0, 1) := by decide +kernel
theorem dX11_loud_39 : decode cX11_loud 39 = .ok (.istore 7, 2) := by decide +kernel
theorem dX11_loud_41 : decode cX11_loud 41 = .ok (.iload 7, 2) := by decide +kernel
theorem dX11_loud_43 : decode cX11_loud 43 = .ok (.iload_n 1, 1) := by decide +kernel
theorem dX11_loud_44 : decode cX11_loud 44 = .ok (.if_icmp .ge 74, 3) := by decide +kernel
theorem dX11_loud_47 : decode cX11_loud 47 = .ok (.aload_n 0, 1) := by decide +kernel
theorem dX11_loud_48 : decode cX11_loud 48 = .ok (.getfield 343, 3) := by decide +kernel
theorem dX11_loud_51 : decode cX11_loud 51 = .ok (.ifCond .ne 67, 3) := by decide +kernel
theorem dX11_loud_54 : decode cX11_loud 54 = .ok (.aload_n 0, 1) := by decide +kernel
theorem dX11_loud_55 : decode cX11_loud 55 = .ok (.aload_n 0, 1) := by decide +kernel
theorem dX11_loud_56 : decode cX11_loud 56 = .ok (.getfield 112, 3) := by decide +kernel
theorem dX11_loud_59 : decode cX11_loud 59 = .ok (.iload 7, 2) := by decide +kernel
theorem dX11_loud_61 : decode cX11_loud 61 = .ok (.laload, 1) := by decide +kernel
theorem dX11_loud_62 : decode cX11_loud 62 = .ok (.aload_n 0, 1) := by decide +kernel
theorem dX11_loud_63 : decode cX11_loud 63 = .ok (.getfield 115, 3) := by decide +kernel
theorem dX11_loud_66 : decode cX11_loud 66 = .ok (.iload 7, 2) := by decide +kernel
theorem dX11_loud_68 : decode cX11_loud 68 = .ok (.laload, 1) := by decide +kernel
theorem dX11_loud_69 : decode cX11_loud 69 = .ok (.aload_n 0, 1) := by decide +kernel
theorem dX11_loud_70 : decode cX11_loud 70 = .ok (.getfield 112, 3) := by decide +kernel
theorem dX11_loud_73 : decode cX11_loud 73 = .ok (.iload 7, 2) := by decide +kernel
theorem dX11_loud_75 : decode cX11_loud 75 = .ok (.laload, 1) := by decide +kernel
theorem dX11_loud_76 : decode cX11_loud 76 = .ok (.aload_n 0, 1) := by decide +kernel
theorem dX11_loud_77 : decode cX11_loud 77 = .ok (.getfield 115, 3) := by decide +kernel
theorem dX11_loud_80 : decode cX11_loud 80 = .ok (.iload 7, 2) := by decide +kernel
theorem dX11_loud_82 : decode cX11_loud 82 = .ok (.laload, 1) := by decide +kernel
theorem dX11_loud_83 : decode cX11_loud 83 = .ok (.invokevirtual 367, 3) := by decide +kernel
theorem dX11_loud_86 : decode cX11_loud 86 = .ok (.aload_n 0, 1) := by decide +kernel
theorem dX11_loud_87 : decode cX11_loud 87 = .ok (.lload_n 3, 1) := by decide +kernel
theorem dX11_loud_88 : decode cX11_loud 88 = .ok (.lload 5, 2) := by decide +kernel
theorem dX11_loud_90 : decode cX11_loud 90 = .ok (.aload_n 0, 1) := by decide +kernel
theorem dX11_loud_91 : decode cX11_loud 91 = .ok (.getfield 337, 3) := by decide +kernel
theorem dX11_loud_94 : decode cX11_loud 94 = .ok (.aload_n 0, 1) := by decide +kernel
theorem dX11_loud_95 : decode cX11_loud 95 = .ok (.getfield 340, 3) := by decide +kernel
theorem dX11_loud_98 : decode cX11_loud 98 = .ok (.invokevirtual 363, 3) := by decide +kernel
theorem dX11_loud_101 : decode cX11_loud 101 = .ok (.aload_n 0, 1) := by decide +kernel
theorem dX11_loud_102 : decode cX11_loud 102 = .ok (.getfield 337, 3) := by decide +kernel
theorem dX11_loud_105 : decode cX11_loud 105 = .ok (.lstore_n 3, 1) := by decide +kernel
theorem dX11_loud_106 : decode cX11_loud 106 = .ok (.aload_n 0, 1) := by decide +kernel
theorem dX11_loud_107 : decode cX11_loud 107 = .ok (.getfield 340, 3) := by decide +kernel
theorem dX11_loud_110 : decode cX11_loud 110 = .ok (.lstore 5, 2) := by decide +kernel
theorem dX11_loud_112 : decode cX11_loud 112 = .ok (.iinc 7 1, 3) := by decide +kernel
theorem dX11_loud_115 : decode cX11_loud 115 = .ok (.goto (-74), 3) := by decide +kernel
theorem dX11_loud_118 : decode cX11_loud 118 = .ok (.aload_n 0, 1) := by decide +kernel
theorem dX11_loud_119 : decode cX11_loud 119 = .ok (.getfield 343, 3) := by decide +kernel
theorem dX11_loud_122 : decode cX11_loud 122 = .ok (.ifCond .eq 9, 3) := by decide +kernel
theorem dX11_loud_125 : decode cX11_loud 125 = .ok (.ldc2_w 332, 3) := by decide +kernel
theorem dX11_loud_128 : decode cX11_loud 128 = .ok (.goto 13, 3) := by decide +kernel
theorem dX11_loud_131 : decode cX11_loud 131 = .ok (.iload_n 2, 1) := by decide +kernel
theorem dX11_loud_132 : decode cX11_loud 132 = .ok (.ifCond .ne 7, 3) := by decide +kernel
theorem dX11_loud_135 : decode cX11_loud 135 = .ok (.lload_n 3, 1) := by decide +kernel
theorem dX11_loud_136 : decode cX11_loud 136 = .ok (.goto 5, 3) := by decide +kernel
theorem dX11_loud_139 : decode cX11_loud 139 = .ok (.lload 5, 2) := by decide +kernel
theorem dX11_loud_141 : decode cX11_loud 141 = .ok (.lreturn, 1) := by decide +kernel
theorem dX11_size_0 : decode cX11_size 0 = .ok (.lload_n 0, 1) := by decide +kernel
theorem dX11_size_1 : decode cX11_size 1 = .ok (.lconst 0, 1) := by decide +kernel
theorem dX11_size_2 : decode cX11_size 2 = .ok (.lcmp, 1) := by decide +kernel
theorem dX11_size_3 : decode cX11_size 3 = .ok (.ifCond .ge 8, 3) := by decide +kernel
theorem dX11_size_6 : decode cX11_size 6 = .ok (.lload_n 0, 1) := by decide +kernel
theorem dX11_size_7 : decode cX11_size 7 = .ok (.lneg, 1) := by decide +kernel
theorem dX11_size_8 : decode cX11_size 8 = .ok (.goto 4, 3) := by decide +kernel
theorem dX11_size_11 : decode cX11_size 11 = .ok (.lload_n 0, 1) := by decide +kernel
theorem dX11_size_12 : decode cX11_size 12 = .ok (.lreturn, 1) := by decide +kernel
theorem dX11_steady_0 : decode cX11_steady 0 = .ok (.iload_n 3, 1) := by decide +kernel
theorem dX11_steady_1 : decode cX11_steady 1 = .ok (.i2l, 1) := by decide +kernel
theorem dX11_steady_2 : decode cX11_steady 2 = .ok (.lconst 1, 1) := by decide +kernel
theorem dX11_steady_3 : decode cX11_steady 3 = .ok (.ldc2_w 378, 3) := by decide +kernel
theorem dX11_steady_6 : decode cX11_steady 6 = .ok (.invokestatic 169, 3) := by decide +kernel
theorem dX11_steady_9 : decode cX11_steady 9 = .ok (.ifCond .eq 22, 3) := by decide +kernel
theorem dX11_steady_12 : decode cX11_steady 12 = .ok (.lload_n 1, 1) := by decide +kernel
theorem dX11_steady_13 : decode cX11_steady 13 = .ok (.lconst 0, 1) := by decide +kernel
theorem dX11_steady_14 : decode cX11_steady 14 = .ok (.lcmp, 1) := by decide +kernel
theorem dX11_steady_15 : decode cX11_steady 15 = .ok (.ifCond .lt 16, 3) := by decide +kernel
theorem dX11_steady_18 : decode cX11_steady 18 = .ok (.lload_n 1, 1) := by decide +kernel
theorem dX11_steady_19 : decode cX11_steady 19 = .ok (.bipush 8, 2) := by decide +kernel
theorem dX11_steady_21 : decode cX11_steady 21 = .ok (.iload_n 3, 1) := by decide +kernel
theorem dX11_steady_22 : decode cX11_steady 22 = .ok (.iconst 1, 1) := by decide +kernel
theorem dX11_steady_23 : decode cX11_steady 23 = .ok (.iadd, 1) := by decide +kernel
theorem dX11_steady_24 : decode cX11_steady 24 = .ok (.imul, 1) := by decide +kernel
theorem dX11_steady_25 : decode cX11_steady 25 = .ok (.lshr, 1) := by decide +kernel
theorem dX11_steady_26 : decode cX11_steady 26 = .ok (.lconst 0, 1) := by decide +kernel
theorem dX11_steady_27 : decode cX11_steady 27 = .ok (.lcmp, 1) := by decide +kernel
theorem dX11_steady_28 : decode cX11_steady 28 = .ok (.ifCond .eq 6, 3) := by decide +kernel
theorem dX11_steady_31 : decode cX11_steady 31 = .ok (.bipush (-2), 2) := by decide +kernel
theorem dX11_steady_33 : decode cX11_steady 33 = .ok (.ireturn, 1) := by decide +kernel
theorem dX11_steady_34 : decode cX11_steady 34 = .ok (.iconst 0, 1) := by decide +kernel
theorem dX11_steady_35 : decode cX11_steady 35 = .ok (.istore 4, 2) := by decide +kernel
theorem dX11_steady_37 : decode cX11_steady 37 = .ok (.iload 4, 2) := by decide +kernel
theorem dX11_steady_39 : decode cX11_steady 39 = .ok (.iload_n 3, 1) := by decide +kernel
theorem dX11_steady_40 : decode cX11_steady 40 = .ok (.if_icmp .gt 53, 3) := by decide +kernel
theorem dX11_steady_43 : decode cX11_steady 43 = .ok (.aload_n 0, 1) := by decide +kernel
theorem dX11_steady_44 : decode cX11_steady 44 = .ok (.getfield 124, 3) := by decide +kernel
theorem dX11_steady_47 : decode cX11_steady 47 = .ok (.iload 4, 2) := by decide +kernel
theorem dX11_steady_49 : decode cX11_steady 49 = .ok (.lload_n 1, 1) := by decide +kernel
theorem dX11_steady_50 : decode cX11_steady 50 = .ok (.bipush 8, 2) := by decide +kernel
theorem dX11_steady_52 : decode cX11_steady 52 = .ok (.iload 4, 2) := by decide +kernel
theorem dX11_steady_54 : decode cX11_steady 54 = .ok (.imul, 1) := by decide +kernel
theorem dX11_steady_55 : decode cX11_steady 55 = .ok (.lshr, 1) := by decide +kernel
theorem dX11_steady_56 : decode cX11_steady 56 = .ok (.ldc2_w 257, 3) := by decide +kernel
theorem dX11_steady_59 : decode cX11_steady 59 = .ok (.land, 1) := by decide +kernel
theorem dX11_steady_60 : decode cX11_steady 60 = .ok (.ldc2_w 380, 3) := by decide +kernel
theorem dX11_steady_63 : decode cX11_steady 63 = .ok (.lsub, 1) := by decide +kernel
theorem dX11_steady_64 : decode cX11_steady 64 = .ok (.lastore, 1) := by decide +kernel
theorem dX11_steady_65 : decode cX11_steady 65 = .ok (.aload_n 0, 1) := by decide +kernel
theorem dX11_steady_66 : decode cX11_steady 66 = .ok (.getfield 124, 3) := by decide +kernel
theorem dX11_steady_69 : decode cX11_steady 69 = .ok (.iload 4, 2) := by decide +kernel
theorem dX11_steady_71 : decode cX11_steady 71 = .ok (.laload, 1) := by decide +kernel
theorem dX11_steady_72 : decode cX11_steady 72 = .ok (.ldc2_w 382, 3) := by decide +kernel
theorem dX11_steady_75 : decode cX11_steady 75 = .ok (.ldc2_w 191, 3) := by decide +kernel
theorem dX11_steady_78 : decode cX11_steady 78 = .ok (.invokestatic 169, 3) := by decide +kernel
theorem dX11_steady_81 : decode cX11_steady 81 = .ok (.ifCond .ne 6, 3) := by decide +kernel
theorem dX11_steady_84 : decode cX11_steady 84 = .ok (.bipush (-2), 2) := by decide +kernel
theorem dX11_steady_86 : decode cX11_steady 86 = .ok (.ireturn, 1) := by decide +kernel
theorem dX11_steady_87 : decode cX11_steady 87 = .ok (.iinc 4 1, 3) := by decide +kernel
theorem dX11_steady_90 : decode cX11_steady 90 = .ok (.goto (-53), 3) := by decide +kernel
theorem dX11_steady_93 : decode cX11_steady 93 = .ok (.aload_n 0, 1) := by decide +kernel
theorem dX11_steady_94 : decode cX11_steady 94 = .ok (.getfield 124, 3) := by decide +kernel
theorem dX11_steady_97 : decode cX11_steady 97 = .ok (.iconst 0, 1) := by decide +kernel
theorem dX11_steady_98 : decode cX11_steady 98 = .ok (.laload, 1) := by decide +kernel
theorem dX11_steady_99 : decode cX11_steady 99 = .ok (.lconst 0, 1) := by decide +kernel
theorem dX11_steady_100 : decode cX11_steady 100 = .ok (.lcmp, 1) := by decide +kernel
theorem dX11_steady_101 : decode cX11_steady 101 = .ok (.ifCond .ne 6, 3) := by decide +kernel
theorem dX11_steady_104 : decode cX11_steady 104 = .ok (.bipush (-2), 2) := by decide +kernel
theorem dX11_steady_106 : decode cX11_steady 106 = .ok (.ireturn, 1) := by decide +kernel
theorem dX11_steady_107 : decode cX11_steady 107 = .ok (.iload_n 3, 1) := by decide +kernel
theorem dX11_steady_108 : decode cX11_steady 108 = .ok (.istore 4, 2) := by decide +kernel
theorem dX11_steady_110 : decode cX11_steady 110 = .ok (.iload 4, 2) := by decide +kernel
theorem dX11_steady_112 : decode cX11_steady 112 = .ok (.ifCond .le 126, 3) := by decide +kernel
theorem dX11_steady_115 : decode cX11_steady 115 = .ok (.aload_n 0, 1) := by decide +kernel
theorem dX11_steady_116 : decode cX11_steady 116 = .ok (.getfield 124, 3) := by decide +kernel
theorem dX11_steady_119 : decode cX11_steady 119 = .ok (.iconst 0, 1) := by decide +kernel
theorem dX11_steady_120 : decode cX11_steady 120 = .ok (.laload, 1) := by decide +kernel
theorem dX11_steady_121 : decode cX11_steady 121 = .ok (.invokestatic 384, 3) := by decide +kernel
theorem dX11_steady_124 : decode cX11_steady 124 = .ok (.aload_n 0, 1) := by decide +kernel
theorem dX11_steady_125 : decode cX11_steady 125 = .ok (.getfield 124, 3) := by decide +kernel
theorem dX11_steady_128 : decode cX11_steady 128 = .ok (.iload 4, 2) := by decide +kernel
theorem dX11_steady_130 : decode cX11_steady 130 = .ok (.laload, 1) := by decide +kernel
theorem dX11_steady_131 : decode cX11_steady 131 = .ok (.invokestatic 384, 3) := by decide +kernel
theorem dX11_steady_134 : decode cX11_steady 134 = .ok (.lcmp, 1) := by decide +kernel
theorem dX11_steady_135 : decode cX11_steady 135 = .ok (.ifCond .gt 5, 3) := by decide +kernel
theorem dX11_steady_138 : decode cX11_steady 138 = .ok (.iconst 0, 1) := by decide +kernel
theorem dX11_steady_139 : decode cX11_steady 139 = .ok (.ireturn, 1) := by decide +kernel
theorem dX11_steady_140 : decode cX11_steady 140 = .ok (.iload 4, 2) := by decide +kernel
theorem dX11_steady_142 : decode cX11_steady 142 = .ok (.iconst 1, 1) := by decide +kernel
theorem dX11_steady_143 : decode cX11_steady 143 = .ok (.if_icmp .le 89, 3) := by decide +kernel
theorem dX11_steady_146 : decode cX11_steady 146 = .ok (.iconst 0, 1) := by decide +kernel
theorem dX11_steady_147 : decode cX11_steady 147 = .ok (.istore 5, 2) := by decide +kernel
theorem dX11_steady_149 : decode cX11_steady 149 = .ok (.iload 5, 2) := by decide +kernel
theorem dX11_steady_151 : decode cX11_steady 151 = .ok (.iload 4, 2) := by decide +kernel
theorem dX11_steady_153 : decode cX11_steady 153 = .ok (.if_icmp .ge 49, 3) := by decide +kernel
theorem dX11_steady_156 : decode cX11_steady 156 = .ok (.aload_n 0, 1) := by decide +kernel
theorem dX11_steady_157 : decode cX11_steady 157 = .ok (.getfield 127, 3) := by decide +kernel
theorem dX11_steady_160 : decode cX11_steady 160 = .ok (.iload 5, 2) := by decide +kernel
theorem dX11_steady_162 : decode cX11_steady 162 = .ok (.aload_n 0, 1) := by decide +kernel
theorem dX11_steady_163 : decode cX11_steady 163 = .ok (.getfield 124, 3) := by decide +kernel
theorem dX11_steady_166 : decode cX11_steady 166 = .ok (.iconst 0, 1) := by decide +kernel
theorem dX11_steady_167 : decode cX11_steady 167 = .ok (.laload, 1) := by decide +kernel
theorem dX11_steady_168 : decode cX11_steady 168 = .ok (.aload_n 0, 1) := by decide +kernel
theorem dX11_steady_169 : decode cX11_steady 169 = .ok (.getfield 124, 3) := by decide +kernel
theorem dX11_steady_172 : decode cX11_steady 172 = .ok (.iload 5, 2) := by decide +kernel
theorem dX11_steady_174 : decode cX11_steady 174 = .ok (.laload, 1) := by decide +kernel
theorem dX11_steady_175 : decode cX11_steady 175 = .ok (.lmul, 1) := by decide +kernel
theorem dX11_steady_176 : decode cX11_steady 176 = .ok (.aload_n 0, 1) := by decide +kernel
theorem dX11_steady_177 : decode cX11_steady 177 = .ok (.getfield 124, 3) := by decide +kernel
theorem dX11_steady_180 : decode cX11_steady 180 = .ok (.iload 4, 2) := by decide +kernel
theorem dX11_steady_182 : decode cX11_steady 182 = .ok (.laload, 1) := by decide +kernel
theorem dX11_steady_183 : decode cX11_steady 183 = .ok (.aload_n 0, 1) := by decide +kernel
theorem dX11_steady_184 : decode cX11_steady 184 = .ok (.getfield 124, 3) := by decide +kernel
theorem dX11_steady_187 : decode cX11_steady 187 = .ok (.iload 4, 2) := by decide +kernel
theorem dX11_steady_189 : decode cX11_steady 189 = .ok (.iload 5, 2) := by decide +kernel
theorem dX11_steady_191 : decode cX11_steady 191 = .ok (.isub, 1) := by decide +kernel
theorem dX11_steady_192 : decode cX11_steady 192 = .ok (.laload, 1) := by decide +kernel
theorem dX11_steady_193 : decode cX11_steady 193 = .ok (.lmul, 1) := by decide +kernel
theorem dX11_steady_194 : decode cX11_steady 194 = .ok (.lsub, 1) := by decide +kernel
theorem dX11_steady_195 : decode cX11_steady 195 = .ok (.lastore, 1) := by decide +kernel
theorem dX11_steady_196 : decode cX11_steady 196 = .ok (.iinc 5 1, 3) := by decide +kernel
theorem dX11_steady_199 : decode cX11_steady 199 = .ok (.goto (-50), 3) := by decide +kernel
theorem dX11_steady_202 : decode cX11_steady 202 = .ok (.iconst 0, 1) := by decide +kernel
theorem dX11_steady_203 : decode cX11_steady 203 = .ok (.istore 5, 2) := by decide +kernel
theorem dX11_steady_205 : decode cX11_steady 205 = .ok (.iload 5, 2) := by decide +kernel
theorem dX11_steady_207 : decode cX11_steady 207 = .ok (.iload 4, 2) := by decide +kernel
theorem dX11_steady_209 : decode cX11_steady 209 = .ok (.if_icmp .ge 23, 3) := by decide +kernel
theorem dX11_steady_212 : decode cX11_steady 212 = .ok (.aload_n 0, 1) := by decide +kernel
theorem dX11_steady_213 : decode cX11_steady 213 = .ok (.getfield 124, 3) := by decide +kernel
theorem dX11_steady_216 : decode cX11_steady 216 = .ok (.iload 5, 2) := by decide +kernel
theorem dX11_steady_218 : decode cX11_steady 218 = .ok (.aload_n 0, 1) := by decide +kernel
theorem dX11_steady_219 : decode cX11_steady 219 = .ok (.getfield 127, 3) := by decide +kernel
theorem dX11_steady_222 : decode cX11_steady 222 = .ok (.iload 5, 2) := by decide +kernel
theorem dX11_steady_224 : decode cX11_steady 224 = .ok (.laload, 1) := by decide +kernel
theorem dX11_steady_225 : decode cX11_steady 225 = .ok (.lastore, 1) := by decide +kernel
theorem dX11_steady_226 : decode cX11_steady 226 = .ok (.iinc 5 1, 3) := by decide +kernel
theorem dX11_steady_229 : decode cX11_steady 229 = .ok (.goto (-24), 3) := by decide +kernel
theorem dX11_steady_232 : decode cX11_steady 232 = .ok (.iinc 4 (-1), 3) := by decide +kernel
theorem dX11_steady_235 : decode cX11_steady 235 = .ok (.goto (-125), 3) := by decide +kernel
theorem dX11_steady_238 : decode cX11_steady 238 = .ok (.iconst 1, 1) := by decide +kernel
theorem dX11_steady_239 : decode cX11_steady 239 = .ok (.ireturn, 1) := by decide +kernel
theorem dX11_chances_0 : decode cX11_chances 0 = .ok (.iload_n 1, 1) := by decide +kernel
theorem dX11_chances_1 : decode cX11_chances 1 = .ok (.i2l, 1) := by decide +kernel
theorem dX11_chances_2 : decode cX11_chances 2 = .ok (.lconst 1, 1) := by decide +kernel
theorem dX11_chances_3 : decode cX11_chances 3 = .ok (.ldc2_w 387, 3) := by decide +kernel
theorem dX11_chances_6 : decode cX11_chances 6 = .ok (.invokestatic 169, 3) := by decide +kernel
theorem dX11_chances_9 : decode cX11_chances 9 = .ok (.ifCond .ne 6, 3) := by decide +kernel
theorem dX11_chances_12 : decode cX11_chances 12 = .ok (.bipush (-2), 2) := by decide +kernel
theorem dX11_chances_14 : decode cX11_chances 14 = .ok (.ireturn, 1) := by decide +kernel
theorem dX11_chances_15 : decode cX11_chances 15 = .ok (.iload_n 1, 1) := by decide +kernel
theorem dX11_chances_16 : decode cX11_chances 16 = .ok (.istore_n 2, 1) := by decide +kernel
theorem dX11_chances_17 : decode cX11_chances 17 = .ok (.iconst 4, 1) := by decide +kernel
theorem dX11_chances_18 : decode cX11_chances 18 = .ok (.istore_n 3, 1) := by decide +kernel
theorem dX11_chances_19 : decode cX11_chances 19 = .ok (.iload_n 3, 1) := by decide +kernel
theorem dX11_chances_20 : decode cX11_chances 20 = .ok (.ifCond .lt 24, 3) := by decide +kernel
theorem dX11_chances_23 : decode cX11_chances 23 = .ok (.aload_n 0, 1) := by decide +kernel
theorem dX11_chances_24 : decode cX11_chances 24 = .ok (.getfield 130, 3) := by decide +kernel
theorem dX11_chances_27 : decode cX11_chances 27 = .ok (.iload_n 3, 1) := by decide +kernel
theorem dX11_chances_28 : decode cX11_chances 28 = .ok (.iload_n 2, 1) := by decide +kernel
theorem dX11_chances_29 : decode cX11_chances 29 = .ok (.bipush 10, 2) := by decide +kernel
theorem dX11_chances_31 : decode cX11_chances 31 = .ok (.irem, 1) := by decide +kernel
theorem dX11_chances_32 : decode cX11_chances 32 = .ok (.iastore, 1) := by decide +kernel
theorem dX11_chances_33 : decode cX11_chances 33 = .ok (.iload_n 2, 1) := by decide +kernel
theorem dX11_chances_34 : decode cX11_chances 34 = .ok (.bipush 10, 2) := by decide +kernel
theorem dX11_chances_36 : decode cX11_chances 36 = .ok (.idiv, 1) := by decide +kernel
theorem dX11_chances_37 : decode cX11_chances 37 = .ok (.istore_n 2, 1) := by decide +kernel
theorem dX11_chances_38 : decode cX11_chances 38 = .ok (.iinc 3 (-1), 3) := by decide +kernel
theorem dX11_chances_41 : decode cX11_chances 41 = .ok (.goto (-22), 3) := by decide +kernel
theorem dX11_chances_44 : decode cX11_chances 44 = .ok (.iconst 0, 1) := by decide +kernel
theorem dX11_chances_45 : decode cX11_chances 45 = .ok (.ireturn, 1) := by decide +kernel
theorem dX11_findChances_0 : decode cX11_findChances 0 = .ok (.iconst 0, 1) := by decide +kernel
theorem dX11_findChances_1 : decode cX11_findChances 1 = .ok (.istore_n 3, 1) := by decide +kernel
theorem dX11_findChances_2 : decode cX11_findChances 2 = .ok (.iload_n 3, 1) := by decide +kernel
theorem dX11_findChances_3 : decode cX11_findChances 3 = .ok (.bipush 25, 2) := by decide +kernel
theorem dX11_findChances_5 : decode cX11_findChances 5 = .ok (.if_icmp .ge 29, 3) := by decide +kernel
theorem dX11_findChances_8 : decode cX11_findChances 8 = .ok (.aload_n 0, 1) := by decide +kernel
theorem dX11_findChances_9 : decode cX11_findChances 9 = .ok (.getfield 133, 3) := by decide +kernel
theorem dX11_findChances_12 : decode cX11_findChances 12 = .ok (.bipush 25, 2) := by decide +kernel
theorem dX11_findChances_14 : decode cX11_findChances 14 = .ok (.iload_n 1, 1) := by decide +kernel
theorem dX11_findChances_15 : decode cX11_findChances 15 = .ok (.imul, 1) := by decide +kernel
theorem dX11_findChances_16 : decode cX11_findChances 16 = .ok (.iload_n 3, 1) := by decide +kernel
theorem dX11_findChances_17 : decode cX11_findChances 17 = .ok (.iadd, 1) := by decide +kernel
theorem dX11_findChances_18 : decode cX11_findChances 18 = .ok (.iload_n 3, 1) := by decide +kernel
theorem dX11_findChances_19 : decode cX11_findChances 19 = .ok (.ifCond .ne 7, 3) := by decide +kernel
theorem dX11_findChances_22 : decode cX11_findChances 22 = .ok (.lconst 1, 1) := by decide +kernel
theorem dX11_findChances_23 : decode cX11_findChances 23 = .ok (.goto 4, 3) := by decide +kernel
theorem dX11_findChances_26 : decode cX11_findChances 26 = .ok (.lconst 0, 1) := by decide +kernel
theorem dX11_findChances_27 : decode cX11_findChances 27 = .ok (.lastore, 1) := by decide +kernel
theorem dX11_findChances_28 : decode cX11_findChances 28 = .ok (.iinc 3 1, 3) := by decide +kernel
theorem dX11_findChances_31 : decode cX11_findChances 31 = .ok (.goto (-29), 3) := by decide +kernel
theorem dX11_findChances_34 : decode cX11_findChances 34 = .ok (.iconst 0, 1) := by decide +kernel
theorem dX11_findChances_35 : decode cX11_findChances 35 = .ok (.istore_n 3, 1) := by decide +kernel
theorem dX11_findChances_36 : decode cX11_findChances 36 = .ok (.iload_n 3, 1) := by decide +kernel
theorem dX11_findChances_37 : decode cX11_findChances 37 = .ok (.iload_n 2, 1) := by decide +kernel
theorem dX11_findChances_38 : decode cX11_findChances 38 = .ok (.if_icmp .ge 124, 3) := by decide +kernel
theorem dX11_findChances_41 : decode cX11_findChances 41 = .ok (.iconst 0, 1) := by decide +kernel
theorem dX11_findChances_42 : decode cX11_findChances 42 = .ok (.istore 4, 2) := by decide +kernel
theorem dX11_findChances_44 : decode cX11_findChances 44 = .ok (.iload 4, 2) := by decide +kernel
theorem dX11_findChances_46 : decode cX11_findChances 46 = .ok (.bipush 25, 2) := by decide +kernel
theorem dX11_findChances_48 : decode cX11_findChances 48 = .ok (.if_icmp .ge 73, 3) := by decide +kernel
theorem dX11_findChances_51 : decode cX11_findChances 51 = .ok (.aload_n 0, 1) := by decide +kernel
theorem dX11_findChances_52 : decode cX11_findChances 52 = .ok (.getfield 136, 3) := by decide +kernel
theorem dX11_findChances_55 : decode cX11_findChances 55 = .ok (.iload 4, 2) := by decide +kernel
theorem dX11_findChances_57 : decode cX11_findChances 57 = .ok (.lconst 0, 1) := by decide +kernel
theorem dX11_findChances_58 : decode cX11_findChances 58 = .ok (.lastore, 1) := by decide +kernel
theorem dX11_findChances_59 : decode cX11_findChances 59 = .ok (.iconst 0, 1) := by decide +kernel
theorem dX11_findChances_60 : decode cX11_findChances 60 = .ok (.istore 5, 2) := by decide +kernel
theorem dX11_findChances_62 : decode cX11_findChances 62 = .ok (.iload 5, 2) := by decide +kernel
theorem dX11_findChances_64 : decode cX11_findChances 64 = .ok (.iconst 5, 1) := by decide +kernel
theorem dX11_findChances_65 : decode cX11_findChances 65 = .ok (.if_icmp .ge 50, 3) := by decide +kernel
theorem dX11_findChances_68 : decode cX11_findChances 68 = .ok (.iload 5, 2) := by decide +kernel
theorem dX11_findChances_70 : decode cX11_findChances 70 = .ok (.iload 4, 2) := by decide +kernel
theorem dX11_findChances_72 : decode cX11_findChances 72 = .ok (.if_icmp .gt 43, 3) := by decide +kernel
theorem dX11_findChances_75 : decode cX11_findChances 75 = .ok (.aload_n 0, 1) := by decide +kernel
theorem dX11_findChances_76 : decode cX11_findChances 76 = .ok (.getfield 136, 3) := by decide +kernel
theorem dX11_findChances_79 : decode cX11_findChances 79 = .ok (.iload 4, 2) := by decide +kernel
theorem dX11_findChances_81 : decode cX11_findChances 81 = .ok (.dup2, 1) := by decide +kernel
theorem dX11_findChances_82 : decode cX11_findChances 82 = .ok (.laload, 1) := by decide +kernel
theorem dX11_findChances_83 : decode cX11_findChances 83 = .ok (.aload_n 0, 1) := by decide +kernel
theorem dX11_findChances_84 : decode cX11_findChances 84 = .ok (.getfield 130, 3) := by decide +kernel
theorem dX11_findChances_87 : decode cX11_findChances 87 = .ok (.iload 5, 2) := by decide +kernel
theorem dX11_findChances_89 : decode cX11_findChances 89 = .ok (.iaload, 1) := by decide +kernel
theorem dX11_findChances_90 : decode cX11_findChances 90 = .ok (.i2l, 1) := by decide +kernel
theorem dX11_findChances_91 : decode cX11_findChances 91 = .ok (.aload_n 0, 1) := by decide +kernel
theorem dX11_findChances_92 : decode cX11_findChances 92 = .ok (.getfield 133, 3) := by decide +kernel
theorem dX11_findChances_95 : decode cX11_findChances 95 = .ok (.bipush 25, 2) := by decide +kernel
theorem dX11_findChances_97 : decode cX11_findChances 97 = .ok (.iload_n 1, 1) := by decide +kernel
theorem dX11_findChances_98 : decode cX11_findChances 98 = .ok (.imul, 1) := by decide +kernel
theorem dX11_findChances_99 : decode cX11_findChances 99 = .ok (.iload 4, 2) := by decide +kernel
theorem dX11_findChances_101 : decode cX11_findChances 101 = .ok (.iadd, 1) := by decide +kernel
theorem dX11_findChances_102 : decode cX11_findChances 102 = .ok (.iload 5, 2) := by decide +kernel
theorem dX11_findChances_104 : decode cX11_findChances 104 = .ok (.isub, 1) := by decide +kernel
theorem dX11_findChances_105 : decode cX11_findChances 105 = .ok (.laload, 1) := by decide +kernel
theorem dX11_findChances_106 : decode cX11_findChances 106 = .ok (.lmul, 1) := by decide +kernel
theorem dX11_findChances_107 : decode cX11_findChances 107 = .ok (.ladd, 1) := by decide +kernel
theorem dX11_findChances_108 : decode cX11_findChances 108 = .ok (.lastore, 1) := by decide +kernel
theorem dX11_findChances_109 : decode cX11_findChances 109 = .ok (.iinc 5 1, 3) := by decide +kernel
theorem dX11_findChances_112 : decode cX11_findChances 112 = .ok (.goto (-50), 3) := by decide +kernel
theorem dX11_findChances_115 : decode cX11_findChances 115 = .ok (.iinc 4 1, 3) := by decide +kernel
theorem dX11_findChances_118 : decode cX11_findChances 118 = .ok (.goto (-74), 3) := by decide +kernel
theorem dX11_findChances_121 : decode cX11_findChances 121 = .ok (.iconst 0, 1) := by decide +kernel
theorem dX11_findChances_122 : decode cX11_findChances 122 = .ok (.istore 4, 2) := by decide +kernel
theorem dX11_findChances_124 : decode cX11_findChances 124 = .ok (.iload 4, 2) := by decide +kernel
theorem dX11_findChances_126 : decode cX11_findChances 126 = .ok (.bipush 25, 2) := by decide +kernel
theorem dX11_findChances_128 : decode cX11_findChances 128 = .ok (.if_icmp .ge 28, 3) := by decide +kernel
theorem dX11_findChances_131 : decode cX11_findChances 131 = .ok (.aload_n 0, 1) := by decide +kernel
theorem dX11_findChances_132 : decode cX11_findChances 132 = .ok (.getfield 133, 3) := by decide +kernel
theorem dX11_findChances_135 : decode cX11_findChances 135 = .ok (.bipush 25, 2) := by decide +kernel
theorem dX11_findChances_137 : decode cX11_findChances 137 = .ok (.iload_n 1, 1) := by decide +kernel
theorem dX11_findChances_138 : decode cX11_findChances 138 = .ok (.imul, 1) := by decide +kernel
theorem dX11_findChances_139 : decode cX11_findChances 139 = .ok (.iload 4, 2) := by decide +kernel
theorem dX11_findChances_141 : decode cX11_findChances 141 = .ok (.iadd, 1) := by decide +kernel
theorem dX11_findChances_142 : decode cX11_findChances 142 = .ok (.aload_n 0, 1) := by decide +kernel
theorem dX11_findChances_143 : decode cX11_findChances 143 = .ok (.getfield 136, 3) := by decide +kernel
theorem dX11_findChances_146 : decode cX11_findChances 146 = .ok (.iload 4, 2) := by decide +kernel
theorem dX11_findChances_148 : decode cX11_findChances 148 = .ok (.laload, 1) := by decide +kernel
theorem dX11_findChances_149 : decode cX11_findChances 149 = .ok (.lastore, 1) := by decide +kernel
theorem dX11_findChances_150 : decode cX11_findChances 150 = .ok (.iinc 4 1, 3) := by decide +kernel
theorem dX11_findChances_153 : decode cX11_findChances 153 = .ok (.goto (-29), 3) := by decide +kernel
theorem dX11_findChances_156 : decode cX11_findChances 156 = .ok (.iinc 3 1, 3) := by decide +kernel
theorem dX11_findChances_159 : decode cX11_findChances 159 = .ok (.goto (-123), 3) := by decide +kernel
theorem dX11_findChances_162 : decode cX11_findChances 162 = .ok (.return_, 1) := by decide +kernel
theorem dX11_chance_0 : decode cX11_chance 0 = .ok (.iload_n 1, 1) := by decide +kernel
theorem dX11_chance_1 : decode cX11_chance 1 = .ok (.i2l, 1) := by decide +kernel
theorem dX11_chance_2 : decode cX11_chance 2 = .ok (.lconst 1, 1) := by decide +kernel
theorem dX11_chance_3 : decode cX11_chance 3 = .ok (.ldc2_w 179, 3) := by decide +kernel
theorem dX11_chance_6 : decode cX11_chance 6 = .ok (.invokestatic 169, 3) := by decide +kernel
theorem dX11_chance_9 : decode cX11_chance 9 = .ok (.ifCond .eq 7, 3) := by decide +kernel
theorem dX11_chance_12 : decode cX11_chance 12 = .ok (.iload_n 2, 1) := by decide +kernel
theorem dX11_chance_13 : decode cX11_chance 13 = .ok (.ifCond .ge 7, 3) := by decide +kernel
theorem dX11_chance_16 : decode cX11_chance 16 = .ok (.ldc2_w 215, 3) := by decide +kernel
theorem dX11_chance_19 : decode cX11_chance 19 = .ok (.lreturn, 1) := by decide +kernel
theorem dX11_chance_20 : decode cX11_chance 20 = .ok (.aload_n 0, 1) := by decide +kernel
theorem dX11_chance_21 : decode cX11_chance 21 = .ok (.iconst 0, 1) := by decide +kernel
theorem dX11_chance_22 : decode cX11_chance 22 = .ok (.iload_n 1, 1) := by decide +kernel
theorem dX11_chance_23 : decode cX11_chance 23 = .ok (.invokevirtual 389, 3) := by decide +kernel
theorem dX11_chance_26 : decode cX11_chance 26 = .ok (.iload_n 2, 1) := by decide +kernel
theorem dX11_chance_27 : decode cX11_chance 27 = .ok (.bipush 25, 2) := by decide +kernel
theorem dX11_chance_29 : decode cX11_chance 29 = .ok (.if_icmp .ge 12, 3) := by decide +kernel
theorem dX11_chance_32 : decode cX11_chance 32 = .ok (.aload_n 0, 1) := by decide +kernel
theorem dX11_chance_33 : decode cX11_chance 33 = .ok (.getfield 133, 3) := by decide +kernel
theorem dX11_chance_36 : decode cX11_chance 36 = .ok (.iload_n 2, 1) := by decide +kernel
theorem dX11_chance_37 : decode cX11_chance 37 = .ok (.laload, 1) := by decide +kernel
theorem dX11_chance_38 : decode cX11_chance 38 = .ok (.goto 4, 3) := by decide +kernel
theorem dX11_chance_41 : decode cX11_chance 41 = .ok (.lconst 0, 1) := by decide +kernel
theorem dX11_chance_42 : decode cX11_chance 42 = .ok (.lreturn, 1) := by decide +kernel
theorem dX11_hasLevels_0 : decode cX11_hasLevels 0 = .ok (.aload_n 0, 1) := by decide +kernel
theorem dX11_hasLevels_1 : decode cX11_hasLevels 1 = .ok (.iload_n 1, 1) := by decide +kernel
theorem dX11_hasLevels_2 : decode cX11_hasLevels 2 = .ok (.bipush 10, 2) := by decide +kernel
theorem dX11_hasLevels_4 : decode cX11_hasLevels 4 = .ok (.idiv, 1) := by decide +kernel
theorem dX11_hasLevels_5 : decode cX11_hasLevels 5 = .ok (.putfield 393, 3) := by decide +kernel
theorem dX11_hasLevels_8 : decode cX11_hasLevels 8 = .ok (.aload_n 0, 1) := by decide +kernel
theorem dX11_hasLevels_9 : decode cX11_hasLevels 9 = .ok (.iload_n 1, 1) := by decide +kernel
theorem dX11_hasLevels_10 : decode cX11_hasLevels 10 = .ok (.bipush 10, 2) := by decide +kernel
theorem dX11_hasLevels_12 : decode cX11_hasLevels 12 = .ok (.irem, 1) := by decide +kernel
theorem dX11_hasLevels_13 : decode cX11_hasLevels 13 = .ok (.putfield 396, 3) := by decide +kernel
theorem dX11_hasLevels_16 : decode cX11_hasLevels 16 = .ok (.aload_n 0, 1) := by decide +kernel
theorem dX11_hasLevels_17 : decode cX11_hasLevels 17 = .ok (.iload_n 2, 1) := by decide +kernel
theorem dX11_hasLevels_18 : decode cX11_hasLevels 18 = .ok (.sipush 1000, 3) := by decide +kernel
theorem dX11_hasLevels_21 : decode cX11_hasLevels 21 = .ok (.idiv, 1) := by decide +kernel
theorem dX11_hasLevels_22 : decode cX11_hasLevels 22 = .ok (.i2l, 1) := by decide +kernel
theorem dX11_hasLevels_23 : decode cX11_hasLevels 23 = .ok (.putfield 399, 3) := by decide +kernel
theorem dX11_hasLevels_26 : decode cX11_hasLevels 26 = .ok (.aload_n 0, 1) := by decide +kernel
theorem dX11_hasLevels_27 : decode cX11_hasLevels 27 = .ok (.iload_n 2, 1) := by decide +kernel
theorem dX11_hasLevels_28 : decode cX11_hasLevels 28 = .ok (.bipush 100, 2) := by decide +kernel
theorem dX11_hasLevels_30 : decode cX11_hasLevels 30 = .ok (.idiv, 1) := by decide +kernel
theorem dX11_hasLevels_31 : decode cX11_hasLevels 31 = .ok (.bipush 10, 2) := by decide +kernel
theorem dX11_hasLevels_33 : decode cX11_hasLevels 33 = .ok (.irem, 1) := by decide +kernel
theorem dX11_hasLevels_34 : decode cX11_hasLevels 34 = .ok (.i2l, 1) := by decide +kernel
theorem dX11_hasLevels_35 : decode cX11_hasLevels 35 = .ok (.putfield 402, 3) := by decide +kernel
theorem dX11_hasLevels_38 : decode cX11_hasLevels 38 = .ok (.aload_n 0, 1) := by decide +kernel
theorem dX11_hasLevels_39 : decode cX11_hasLevels 39 = .ok (.iload_n 2, 1) := by decide +kernel
theorem dX11_hasLevels_40 : decode cX11_hasLevels 40 = .ok (.bipush 100, 2) := by decide +kernel
theorem dX11_hasLevels_42 : decode cX11_hasLevels 42 = .ok (.irem, 1) := by decide +kernel
theorem dX11_hasLevels_43 : decode cX11_hasLevels 43 = .ok (.i2l, 1) := by decide +kernel
theorem dX11_hasLevels_44 : decode cX11_hasLevels 44 = .ok (.putfield 405, 3) := by decide +kernel
theorem dX11_hasLevels_47 : decode cX11_hasLevels 47 = .ok (.iload_n 1, 1) := by decide +kernel
theorem dX11_hasLevels_48 : decode cX11_hasLevels 48 = .ok (.ifCond .lt 79, 3) := by decide +kernel
theorem dX11_hasLevels_51 : decode cX11_hasLevels 51 = .ok (.iload_n 2, 1) := by decide +kernel
theorem dX11_hasLevels_52 : decode cX11_hasLevels 52 = .ok (.ifCond .lt 75, 3) := by decide +kernel
theorem dX11_hasLevels_55 : decode cX11_hasLevels 55 = .ok (.aload_n 0, 1) := by decide +kernel
theorem dX11_hasLevels_56 : decode cX11_hasLevels 56 = .ok (.getfield 393, 3) := by decide +kernel
theorem dX11_hasLevels_59 : decode cX11_hasLevels 59 = .ok (.i2l, 1) := by decide +kernel
theorem dX11_hasLevels_60 : decode cX11_hasLevels 60 = .ok (.lconst 1, 1) := by decide +kernel
theorem dX11_hasLevels_61 : decode cX11_hasLevels 61 = .ok (.ldc2_w 177, 3) := by decide +kernel
theorem dX11_hasLevels_64 : decode cX11_hasLevels 64 = .ok (.invokestatic 169, 3) := by decide +kernel
theorem dX11_hasLevels_67 : decode cX11_hasLevels 67 = .ok (.ifCond .eq 60, 3) := by decide +kernel
theorem dX11_hasLevels_70 : decode cX11_hasLevels 70 = .ok (.aload_n 0, 1) := by decide +kernel
theorem dX11_hasLevels_71 : decode cX11_hasLevels 71 = .ok (.getfield 396, 3) := by decide +kernel
theorem dX11_hasLevels_74 : decode cX11_hasLevels 74 = .ok (.i2l, 1) := by decide +kernel
theorem dX11_hasLevels_75 : decode cX11_hasLevels 75 = .ok (.lconst 1, 1) := by decide +kernel
theorem dX11_hasLevels_76 : decode cX11_hasLevels 76 = .ok (.ldc2_w 177, 3) := by decide +kernel
theorem dX11_hasLevels_79 : decode cX11_hasLevels 79 = .ok (.invokestatic 169, 3) := by decide +kernel
theorem dX11_hasLevels_82 : decode cX11_hasLevels 82 = .ok (.ifCond .eq 45, 3) := by decide +kernel
theorem dX11_hasLevels_85 : decode cX11_hasLevels 85 = .ok (.aload_n 0, 1) := by decide +kernel
theorem dX11_hasLevels_86 : decode cX11_hasLevels 86 = .ok (.getfield 399, 3) := by decide +kernel
theorem dX11_hasLevels_89 : decode cX11_hasLevels 89 = .ok (.lconst 1, 1) := by decide +kernel
theorem dX11_hasLevels_90 : decode cX11_hasLevels 90 = .ok (.ldc2_w 408, 3) := by decide +kernel
theorem dX11_hasLevels_93 : decode cX11_hasLevels 93 = .ok (.invokestatic 169, 3) := by decide +kernel
theorem dX11_hasLevels_96 : decode cX11_hasLevels 96 = .ok (.ifCond .eq 31, 3) := by decide +kernel
theorem dX11_hasLevels_99 : decode cX11_hasLevels 99 = .ok (.aload_n 0, 1) := by decide +kernel
theorem dX11_hasLevels_100 : decode cX11_hasLevels 100 = .ok (.getfield 402, 3) := by decide +kernel
theorem dX11_hasLevels_103 : decode cX11_hasLevels 103 = .ok (.lconst 1, 1) := by decide +kernel
theorem dX11_hasLevels_104 : decode cX11_hasLevels 104 = .ok (.ldc2_w 408, 3) := by decide +kernel
theorem dX11_hasLevels_107 : decode cX11_hasLevels 107 = .ok (.invokestatic 169, 3) := by decide +kernel
theorem dX11_hasLevels_110 : decode cX11_hasLevels 110 = .ok (.ifCond .eq 17, 3) := by decide +kernel
theorem dX11_hasLevels_113 : decode cX11_hasLevels 113 = .ok (.aload_n 0, 1) := by decide +kernel
theorem dX11_hasLevels_114 : decode cX11_hasLevels 114 = .ok (.getfield 405, 3) := by decide +kernel
theorem dX11_hasLevels_117 : decode cX11_hasLevels 117 = .ok (.lconst 1, 1) := by decide +kernel
theorem dX11_hasLevels_118 : decode cX11_hasLevels 118 = .ok (.ldc2_w 191, 3) := by decide +kernel
theorem dX11_hasLevels_121 : decode cX11_hasLevels 121 = .ok (.invokestatic 169, 3) := by decide +kernel
theorem dX11_hasLevels_124 : decode cX11_hasLevels 124 = .ok (.ifCond .ne 5, 3) := by decide +kernel
theorem dX11_hasLevels_127 : decode cX11_hasLevels 127 = .ok (.iconst 0, 1) := by decide +kernel
theorem dX11_hasLevels_128 : decode cX11_hasLevels 128 = .ok (.ireturn, 1) := by decide +kernel
theorem dX11_hasLevels_129 : decode cX11_hasLevels 129 = .ok (.aload_n 0, 1) := by decide +kernel
theorem dX11_hasLevels_130 : decode cX11_hasLevels 130 = .ok (.iconst 0, 1) := by decide +kernel
theorem dX11_hasLevels_131 : decode cX11_hasLevels 131 = .ok (.aload_n 0, 1) := by decide +kernel
theorem dX11_hasLevels_132 : decode cX11_hasLevels 132 = .ok (.getfield 393, 3) := by decide +kernel
theorem dX11_hasLevels_135 : decode cX11_hasLevels 135 = .ok (.iconst 1, 1) := by decide +kernel
theorem dX11_hasLevels_136 : decode cX11_hasLevels 136 = .ok (.iadd, 1) := by decide +kernel
theorem dX11_hasLevels_137 : decode cX11_hasLevels 137 = .ok (.invokevirtual 389, 3) := by decide +kernel
theorem dX11_hasLevels_140 : decode cX11_hasLevels 140 = .ok (.aload_n 0, 1) := by decide +kernel
theorem dX11_hasLevels_141 : decode cX11_hasLevels 141 = .ok (.iconst 1, 1) := by decide +kernel
theorem dX11_hasLevels_142 : decode cX11_hasLevels 142 = .ok (.aload_n 0, 1) := by decide +kernel
theorem dX11_hasLevels_143 : decode cX11_hasLevels 143 = .ok (.getfield 396, 3) := by decide +kernel
theorem dX11_hasLevels_146 : decode cX11_hasLevels 146 = .ok (.invokevirtual 389, 3) := by decide +kernel
theorem dX11_hasLevels_149 : decode cX11_hasLevels 149 = .ok (.iconst 1, 1) := by decide +kernel
theorem dX11_hasLevels_150 : decode cX11_hasLevels 150 = .ok (.ireturn, 1) := by decide +kernel
theorem dX11_allNear_0 : decode cX11_allNear 0 = .ok (.lconst 0, 1) := by decide +kernel
theorem dX11_allNear_1 : decode cX11_allNear 1 = .ok (.lstore_n 1, 1) := by decide +kernel
theorem dX11_allNear_2 : decode cX11_allNear 2 = .ok (.iconst 0, 1) := by decide +kernel
theorem dX11_allNear_3 : decode cX11_allNear 3 = .ok (.istore_n 3, 1) := by decide +kernel
theorem dX11_allNear_4 : decode cX11_allNear 4 = .ok (.iload_n 3, 1) := by decide +kernel
theorem dX11_allNear_5 : decode cX11_allNear 5 = .ok (.bipush 25, 2) := by decide +kernel
theorem dX11_allNear_7 : decode cX11_allNear 7 = .ok (.if_icmp .ge 18, 3) := by decide +kernel
theorem dX11_allNear_10 : decode cX11_allNear 10 = .ok (.lload_n 1, 1) := by decide +kernel
theorem dX11_allNear_11 : decode cX11_allNear 11 = .ok (.aload_n 0, 1) := by decide +kernel
theorem dX11_allNear_12 : decode cX11_allNear 12 = .ok (.getfield 133, 3) := by decide +kernel
theorem dX11_allNear_15 : decode cX11_allNear 15 = .ok (.iload_n 3, 1) := by decide +kernel
theorem dX11_allNear_16 : decode cX11_allNear 16 = .ok (.laload, 1) := by decide +kernel
theorem dX11_allNear_17 : decode cX11_allNear 17 = .ok (.ladd, 1) := by decide +kernel
theorem dX11_allNear_18 : decode cX11_allNear 18 = .ok (.lstore_n 1, 1) := by decide +kernel
theorem dX11_allNear_19 : decode cX11_allNear 19 = .ok (.iinc 3 1, 3) := by decide +kernel
theorem dX11_allNear_22 : decode cX11_allNear 22 = .ok (.goto (-18), 3) := by decide +kernel
theorem dX11_allNear_25 : decode cX11_allNear 25 = .ok (.lload_n 1, 1) := by decide +kernel
theorem dX11_allNear_26 : decode cX11_allNear 26 = .ok (.lreturn, 1) := by decide +kernel
theorem dX11_near_0 : decode cX11_near 0 = .ok (.lload_n 1, 1) := by decide +kernel
theorem dX11_near_1 : decode cX11_near 1 = .ok (.ldc2_w 410, 3) := by decide +kernel
theorem dX11_near_4 : decode cX11_near 4 = .ok (.lcmp, 1) := by decide +kernel
theorem dX11_near_5 : decode cX11_near 5 = .ok (.ifCond .ge 9, 3) := by decide +kernel
theorem dX11_near_8 : decode cX11_near 8 = .ok (.ldc2_w 410, 3) := by decide +kernel
theorem dX11_near_11 : decode cX11_near 11 = .ok (.goto 4, 3) := by decide +kernel
theorem dX11_near_14 : decode cX11_near 14 = .ok (.lload_n 1, 1) := by decide +kernel
theorem dX11_near_15 : decode cX11_near 15 = .ok (.lstore_n 3, 1) := by decide +kernel
theorem dX11_near_16 : decode cX11_near 16 = .ok (.lload_n 1, 1) := by decide +kernel
theorem dX11_near_17 : decode cX11_near 17 = .ok (.ldc2_w 410, 3) := by decide +kernel
theorem dX11_near_20 : decode cX11_near 20 = .ok (.lcmp, 1) := by decide +kernel
theorem dX11_near_21 : decode cX11_near 21 = .ok (.ifCond .ge 26, 3) := by decide +kernel
theorem dX11_near_24 : decode cX11_near 24 = .ok (.aload_n 0, 1) := by decide +kernel
theorem dX11_near_25 : decode cX11_near 25 = .ok (.getfield 405, 3) := by decide +kernel
theorem dX11_near_28 : decode cX11_near 28 = .ok (.aload_n 0, 1) := by decide +kernel
theorem dX11_near_29 : decode cX11_near 29 = .ok (.getfield 402, 3) := by decide +kernel
theorem dX11_near_32 : decode cX11_near 32 = .ok (.ladd, 1) := by decide +kernel
theorem dX11_near_33 : decode cX11_near 33 = .ok (.ldc2_w 410, 3) := by decide +kernel
theorem dX11_near_36 : decode cX11_near 36 = .ok (.lload_n 1, 1) := by decide +kernel
theorem dX11_near_37 : decode cX11_near 37 = .ok (.lsub, 1) := by decide +kernel
theorem dX11_near_38 : decode cX11_near 38 = .ok (.lmul, 1) := by decide +kernel
theorem dX11_near_39 : decode cX11_near 39 = .ok (.aload_n 0, 1) := by decide +kernel
theorem dX11_near_40 : decode cX11_near 40 = .ok (.invokevirtual 412, 3) := by decide +kernel
theorem dX11_near_43 : decode cX11_near 43 = .ok (.lmul, 1) := by decide +kernel
theorem dX11_near_44 : decode cX11_near 44 = .ok (.goto 4, 3) := by decide +kernel
theorem dX11_near_47 : decode cX11_near 47 = .ok (.lconst 0, 1) := by decide +kernel
theorem dX11_near_48 : decode cX11_near 48 = .ok (.lstore 5, 2) := by decide +kernel
theorem dX11_near_50 : decode cX11_near 50 = .ok (.iconst 0, 1) := by decide +kernel
theorem dX11_near_51 : decode cX11_near 51 = .ok (.istore 7, 2) := by decide +kernel
theorem dX11_near_53 : decode cX11_near 53 = .ok (.iload 7, 2) := by decide +kernel
theorem dX11_near_55 : decode cX11_near 55 = .ok (.bipush 25, 2) := by decide +kernel
theorem dX11_near_57 : decode cX11_near 57 = .ok (.if_icmp .ge 65, 3) := by decide +kernel
theorem dX11_near_60 : decode cX11_near 60 = .ok (.lload 5, 2) := by decide +kernel
theorem dX11_near_62 : decode cX11_near 62 = .ok (.aload_n 0, 1) := by decide +kernel
theorem dX11_near_63 : decode cX11_near 63 = .ok (.getfield 133, 3) := by decide +kernel
theorem dX11_near_66 : decode cX11_near 66 = .ok (.iload 7, 2) := by decide +kernel
theorem dX11_near_68 : decode cX11_near 68 = .ok (.laload, 1) := by decide +kernel
theorem dX11_near_69 : decode cX11_near 69 = .ok (.aload_n 0, 1) := by decide +kernel
theorem dX11_near_70 : decode cX11_near 70 = .ok (.getfield 399, 3) := by decide +kernel
theorem dX11_near_73 : decode cX11_near 73 = .ok (.lload_n 3, 1) := by decide +kernel
theorem dX11_near_74 : decode cX11_near 74 = .ok (.iload 7, 2) := by decide +kernel
theorem dX11_near_76 : decode cX11_near 76 = .ok (.i2l, 1) := by decide +kernel
theorem dX11_near_77 : decode cX11_near 77 = .ok (.lsub, 1) := by decide +kernel
theorem dX11_near_78 : decode cX11_near 78 = .ok (.lmul, 1) := by decide +kernel
theorem dX11_near_79 : decode cX11_near 79 = .ok (.iload 7, 2) := by decide +kernel
theorem dX11_near_81 : decode cX11_near 81 = .ok (.i2l, 1) := by decide +kernel
theorem dX11_near_82 : decode cX11_near 82 = .ok (.lload_n 3, 1) := by decide +kernel
theorem dX11_near_83 : decode cX11_near 83 = .ok (.lcmp, 1) := by decide +kernel
theorem dX11_near_84 : decode cX11_near 84 = .ok (.ifCond .le 26, 3) := by decide +kernel
theorem dX11_near_87 : decode cX11_near 87 = .ok (.aload_n 0, 1) := by decide +kernel
theorem dX11_near_88 : decode cX11_near 88 = .ok (.getfield 405, 3) := by decide +kernel
theorem dX11_near_91 : decode cX11_near 91 = .ok (.aload_n 0, 1) := by decide +kernel
theorem dX11_near_92 : decode cX11_near 92 = .ok (.getfield 399, 3) := by decide +kernel
theorem dX11_near_95 : decode cX11_near 95 = .ok (.ladd, 1) := by decide +kernel
theorem dX11_near_96 : decode cX11_near 96 = .ok (.aload_n 0, 1) := by decide +kernel
theorem dX11_near_97 : decode cX11_near 97 = .ok (.getfield 402, 3) := by decide +kernel
theorem dX11_near_100 : decode cX11_near 100 = .ok (.ladd, 1) := by decide +kernel
theorem dX11_near_101 : decode cX11_near 101 = .ok (.iload 7, 2) := by decide +kernel
theorem dX11_near_103 : decode cX11_near 103 = .ok (.i2l, 1) := by decide +kernel
theorem dX11_near_104 : decode cX11_near 104 = .ok (.lload_n 3, 1) := by decide +kernel
theorem dX11_near_105 : decode cX11_near 105 = .ok (.lsub, 1) := by decide +kernel
theorem dX11_near_106 : decode cX11_near 106 = .ok (.lmul, 1) := by decide +kernel
theorem dX11_near_107 : decode cX11_near 107 = .ok (.goto 4, 3) := by decide +kernel
theorem dX11_near_110 : decode cX11_near 110 = .ok (.lconst 0, 1) := by decide +kernel
theorem dX11_near_111 : decode cX11_near 111 = .ok (.ladd, 1) := by decide +kernel
theorem dX11_near_112 : decode cX11_near 112 = .ok (.lmul, 1) := by decide +kernel
theorem dX11_near_113 : decode cX11_near 113 = .ok (.ladd, 1) := by decide +kernel
theorem dX11_near_114 : decode cX11_near 114 = .ok (.lstore 5, 2) := by decide +kernel
theorem dX11_near_116 : decode cX11_near 116 = .ok (.iinc 7 1, 3) := by decide +kernel
theorem dX11_near_119 : decode cX11_near 119 = .ok (.goto (-66), 3) := by decide +kernel
theorem dX11_near_122 : decode cX11_near 122 = .ok (.lload 5, 2) := by decide +kernel
theorem dX11_near_124 : decode cX11_near 124 = .ok (.lreturn, 1) := by decide +kernel
theorem dX11_nearLevel_0 : decode cX11_nearLevel 0 = .ok (.iconst 0, 1) := by decide +kernel
theorem dX11_nearLevel_1 : decode cX11_nearLevel 1 = .ok (.istore_n 1, 1) := by decide +kernel
theorem dX11_nearLevel_2 : decode cX11_nearLevel 2 = .ok (.iconst 1, 1) := by decide +kernel
theorem dX11_nearLevel_3 : decode cX11_nearLevel 3 = .ok (.istore_n 2, 1) := by decide +kernel
theorem dX11_nearLevel_4 : decode cX11_nearLevel 4 = .ok (.iload_n 2, 1) := by decide +kernel
theorem dX11_nearLevel_5 : decode cX11_nearLevel 5 = .ok (.bipush 30, 2) := by decide +kernel
theorem dX11_nearLevel_7 : decode cX11_nearLevel 7 = .ok (.if_icmp .gt 31, 3) := by decide +kernel
theorem dX11_nearLevel_10 : decode cX11_nearLevel 10 = .ok (.aload_n 0, 1) := by decide +kernel
theorem dX11_nearLevel_11 : decode cX11_nearLevel 11 = .ok (.iload_n 2, 1) := by decide +kernel
theorem dX11_nearLevel_12 : decode cX11_nearLevel 12 = .ok (.i2l, 1) := by decide +kernel
theorem dX11_nearLevel_13 : decode cX11_nearLevel 13 = .ok (.invokevirtual 416, 3) := by decide +kernel
theorem dX11_nearLevel_16 : decode cX11_nearLevel 16 = .ok (.aload_n 0, 1) := by decide +kernel
theorem dX11_nearLevel_17 : decode cX11_nearLevel 17 = .ok (.iload_n 1, 1) := by decide +kernel
theorem dX11_nearLevel_18 : decode cX11_nearLevel 18 = .ok (.i2l, 1) := by decide +kernel
theorem dX11_nearLevel_19 : decode cX11_nearLevel 19 = .ok (.invokevirtual 416, 3) := by decide +kernel
theorem dX11_nearLevel_22 : decode cX11_nearLevel 22 = .ok (.lcmp, 1) := by decide +kernel
theorem dX11_nearLevel_23 : decode cX11_nearLevel 23 = .ok (.ifCond .ge 7, 3) := by decide +kernel
theorem dX11_nearLevel_26 : decode cX11_nearLevel 26 = .ok (.iload_n 2, 1) := by decide +kernel
theorem dX11_nearLevel_27 : decode cX11_nearLevel 27 = .ok (.goto 4, 3) := by decide +kernel
theorem dX11_nearLevel_30 : decode cX11_nearLevel 30 = .ok (.iload_n 1, 1) := by decide +kernel
theorem dX11_nearLevel_31 : decode cX11_nearLevel 31 = .ok (.istore_n 1, 1) := by decide +kernel
theorem dX11_nearLevel_32 : decode cX11_nearLevel 32 = .ok (.iinc 2 1, 3) := by decide +kernel
theorem dX11_nearLevel_35 : decode cX11_nearLevel 35 = .ok (.goto (-31), 3) := by decide +kernel
theorem dX11_nearLevel_38 : decode cX11_nearLevel 38 = .ok (.iload_n 1, 1) := by decide +kernel
theorem dX11_nearLevel_39 : decode cX11_nearLevel 39 = .ok (.ireturn, 1) := by decide +kernel
theorem dX11_far_0 : decode cX11_far 0 = .ok (.lconst 0, 1) := by decide +kernel
theorem dX11_far_1 : decode cX11_far 1 = .ok (.lstore_n 3, 1) := by decide +kernel
theorem dX11_far_2 : decode cX11_far 2 = .ok (.aload_n 0, 1) := by decide +kernel
theorem dX11_far_3 : decode cX11_far 3 = .ok (.invokevirtual 412, 3) := by decide +kernel
theorem dX11_far_6 : decode cX11_far 6 = .ok (.lstore 5, 2) := by decide +kernel
theorem dX11_far_8 : decode cX11_far 8 = .ok (.iconst 0, 1) := by decide +kernel
theorem dX11_far_9 : decode cX11_far 9 = .ok (.istore 7, 2) := by decide +kernel
theorem dX11_far_11 : decode cX11_far 11 = .ok (.iload 7, 2) := by decide +kernel
theorem dX11_far_13 : decode cX11_far 13 = .ok (.bipush 25, 2) := by decide +kernel
theorem dX11_far_15 : decode cX11_far 15 = .ok (.if_icmp .ge 74, 3) := by decide +kernel
theorem dX11_far_18 : decode cX11_far 18 = .ok (.aload_n 0, 1) := by decide +kernel
theorem dX11_far_19 : decode cX11_far 19 = .ok (.getfield 133, 3) := by decide +kernel
theorem dX11_far_22 : decode cX11_far 22 = .ok (.bipush 25, 2) := by decide +kernel
theorem dX11_far_24 : decode cX11_far 24 = .ok (.iload 7, 2) := by decide +kernel
theorem dX11_far_26 : decode cX11_far 26 = .ok (.iadd, 1) := by decide +kernel
theorem dX11_far_27 : decode cX11_far 27 = .ok (.laload, 1) := by decide +kernel
theorem dX11_far_28 : decode cX11_far 28 = .ok (.lconst 0, 1) := by decide +kernel
theorem dX11_far_29 : decode cX11_far 29 = .ok (.lcmp, 1) := by decide +kernel
theorem dX11_far_30 : decode cX11_far 30 = .ok (.ifCond .le 53, 3) := by decide +kernel
theorem dX11_far_33 : decode cX11_far 33 = .ok (.lload_n 3, 1) := by decide +kernel
theorem dX11_far_34 : decode cX11_far 34 = .ok (.aload_n 0, 1) := by decide +kernel
theorem dX11_far_35 : decode cX11_far 35 = .ok (.getfield 133, 3) := by decide +kernel
theorem dX11_far_38 : decode cX11_far 38 = .ok (.bipush 25, 2) := by decide +kernel
theorem dX11_far_40 : decode cX11_far 40 = .ok (.iload 7, 2) := by decide +kernel
theorem dX11_far_42 : decode cX11_far 42 = .ok (.iadd, 1) := by decide +kernel
theorem dX11_far_43 : decode cX11_far 43 = .ok (.laload, 1) := by decide +kernel
theorem dX11_far_44 : decode cX11_far 44 = .ok (.aload_n 0, 1) := by decide +kernel
theorem dX11_far_45 : decode cX11_far 45 = .ok (.getfield 402, 3) := by decide +kernel
theorem dX11_far_48 : decode cX11_far 48 = .ok (.iload_n 1, 1) := by decide +kernel
theorem dX11_far_49 : decode cX11_far 49 = .ok (.iload 7, 2) := by decide +kernel
theorem dX11_far_51 : decode cX11_far 51 = .ok (.isub, 1) := by decide +kernel
theorem dX11_far_52 : decode cX11_far 52 = .ok (.i2l, 1) := by decide +kernel
theorem dX11_far_53 : decode cX11_far 53 = .ok (.lmul, 1) := by decide +kernel
theorem dX11_far_54 : decode cX11_far 54 = .ok (.lload 5, 2) := by decide +kernel
theorem dX11_far_56 : decode cX11_far 56 = .ok (.lmul, 1) := by decide +kernel
theorem dX11_far_57 : decode cX11_far 57 = .ok (.aload_n 0, 1) := by decide +kernel
theorem dX11_far_58 : decode cX11_far 58 = .ok (.iload_n 1, 1) := by decide +kernel
theorem dX11_far_59 : decode cX11_far 59 = .ok (.iload 7, 2) := by decide +kernel
theorem dX11_far_61 : decode cX11_far 61 = .ok (.isub, 1) := by decide +kernel
theorem dX11_far_62 : decode cX11_far 62 = .ok (.iload_n 2, 1) := by decide +kernel
theorem dX11_far_63 : decode cX11_far 63 = .ok (.if_icmp .ge 11, 3) := by decide +kernel
theorem dX11_far_66 : decode cX11_far 66 = .ok (.iload_n 1, 1) := by decide +kernel
theorem dX11_far_67 : decode cX11_far 67 = .ok (.iload 7, 2) := by decide +kernel
theorem dX11_far_69 : decode cX11_far 69 = .ok (.isub, 1) := by decide +kernel
theorem dX11_far_70 : decode cX11_far 70 = .ok (.i2l, 1) := by decide +kernel
theorem dX11_far_71 : decode cX11_far 71 = .ok (.goto 5, 3) := by decide +kernel
theorem dX11_far_74 : decode cX11_far 74 = .ok (.iload_n 2, 1) := by decide +kernel
theorem dX11_far_75 : decode cX11_far 75 = .ok (.i2l, 1) := by decide +kernel
theorem dX11_far_76 : decode cX11_far 76 = .ok (.invokevirtual 416, 3) := by decide +kernel
theorem dX11_far_79 : decode cX11_far 79 = .ok (.ladd, 1) := by decide +kernel
theorem dX11_far_80 : decode cX11_far 80 = .ok (.lmul, 1) := by decide +kernel
theorem dX11_far_81 : decode cX11_far 81 = .ok (.ladd, 1) := by decide +kernel
theorem dX11_far_82 : decode cX11_far 82 = .ok (.lstore_n 3, 1) := by decide +kernel
theorem dX11_far_83 : decode cX11_far 83 = .ok (.iinc 7 1, 3) := by decide +kernel
theorem dX11_far_86 : decode cX11_far 86 = .ok (.goto (-75), 3) := by decide +kernel
theorem dX11_far_89 : decode cX11_far 89 = .ok (.lload_n 3, 1) := by decide +kernel
theorem dX11_far_90 : decode cX11_far 90 = .ok (.lreturn, 1) := by decide +kernel
theorem dX11_level_0 : decode cX11_level 0 = .ok (.aload_n 0, 1) := by decide +kernel
theorem dX11_level_1 : decode cX11_level 1 = .ok (.iload_n 2, 1) := by decide +kernel
theorem dX11_level_2 : decode cX11_level 2 = .ok (.iload_n 3, 1) := by decide +kernel
theorem dX11_level_3 : decode cX11_level 3 = .ok (.invokevirtual 419, 3) := by decide +kernel
theorem dX11_level_6 : decode cX11_level 6 = .ok (.ifCond .ne 6, 3) := by decide +kernel
theorem dX11_level_9 : decode cX11_level 9 = .ok (.bipush (-2), 2) := by decide +kernel
theorem dX11_level_11 : decode cX11_level 11 = .ok (.ireturn, 1) := by decide +kernel
theorem dX11_level_12 : decode cX11_level 12 = .ok (.iload_n 1, 1) := by decide +kernel
theorem dX11_level_13 : decode cX11_level 13 = .ok (.i2l, 1) := by decide +kernel
theorem dX11_level_14 : decode cX11_level 14 = .ok (.lconst 0, 1) := by decide +kernel
theorem dX11_level_15 : decode cX11_level 15 = .ok (.lconst 1, 1) := by decide +kernel
theorem dX11_level_16 : decode cX11_level 16 = .ok (.invokestatic 169, 3) := by decide +kernel
theorem dX11_level_19 : decode cX11_level 19 = .ok (.ifCond .ne 5, 3) := by decide +kernel
theorem dX11_level_22 : decode cX11_level 22 = .ok (.iconst (-1), 1) := by decide +kernel
theorem dX11_level_23 : decode cX11_level 23 = .ok (.ireturn, 1) := by decide +kernel
theorem dX11_level_24 : decode cX11_level 24 = .ok (.aload_n 0, 1) := by decide +kernel
theorem dX11_level_25 : decode cX11_level 25 = .ok (.invokevirtual 423, 3) := by decide +kernel
theorem dX11_level_28 : decode cX11_level 28 = .ok (.istore 4, 2) := by decide +kernel
theorem dX11_level_30 : decode cX11_level 30 = .ok (.iload_n 1, 1) := by decide +kernel
theorem dX11_level_31 : decode cX11_level 31 = .ok (.ifCond .ne 6, 3) := by decide +kernel
theorem dX11_level_34 : decode cX11_level 34 = .ok (.iload 4, 2) := by decide +kernel
theorem dX11_level_36 : decode cX11_level 36 = .ok (.ireturn, 1) := by decide +kernel
theorem dX11_level_37 : decode cX11_level 37 = .ok (.iconst 0, 1) := by decide +kernel
theorem dX11_level_38 : decode cX11_level 38 = .ok (.istore 5, 2) := by decide +kernel
theorem dX11_level_40 : decode cX11_level 40 = .ok (.aload_n 0, 1) := by decide +kernel
theorem dX11_level_41 : decode cX11_level 41 = .ok (.iconst 0, 1) := by decide +kernel
theorem dX11_level_42 : decode cX11_level 42 = .ok (.iload 4, 2) := by decide +kernel
theorem dX11_level_44 : decode cX11_level 44 = .ok (.invokevirtual 426, 3) := by decide +kernel
theorem dX11_level_47 : decode cX11_level 47 = .ok (.lstore 6, 2) := by decide +kernel
theorem dX11_level_49 : decode cX11_level 49 = .ok (.iconst 1, 1) := by decide +kernel
theorem dX11_level_50 : decode cX11_level 50 = .ok (.istore 8, 2) := by decide +kernel
theorem dX11_level_52 : decode cX11_level 52 = .ok (.iload 8, 2) := by decide +kernel
theorem dX11_level_54 : decode cX11_level 54 = .ok (.bipush 30, 2) := by decide +kernel
theorem dX11_level_56 : decode cX11_level 56 = .ok (.if_icmp .gt 35, 3) := by decide +kernel
theorem dX11_level_59 : decode cX11_level 59 = .ok (.aload_n 0, 1) := by decide +kernel
theorem dX11_level_60 : decode cX11_level 60 = .ok (.iload 8, 2) := by decide +kernel
theorem dX11_level_62 : decode cX11_level 62 = .ok (.iload 4, 2) := by decide +kernel
theorem dX11_level_64 : decode cX11_level 64 = .ok (.invokevirtual 426, 3) := by decide +kernel
theorem dX11_level_67 : decode cX11_level 67 = .ok (.lstore 9, 2) := by decide +kernel
theorem dX11_level_69 : decode cX11_level 69 = .ok (.lload 9, 2) := by decide +kernel
theorem dX11_level_71 : decode cX11_level 71 = .ok (.lload 6, 2) := by decide +kernel
theorem dX11_level_73 : decode cX11_level 73 = .ok (.lcmp, 1) := by decide +kernel
theorem dX11_level_74 : decode cX11_level 74 = .ok (.ifCond .ge 11, 3) := by decide +kernel
theorem dX11_level_77 : decode cX11_level 77 = .ok (.lload 9, 2) := by decide +kernel
theorem dX11_level_79 : decode cX11_level 79 = .ok (.lstore 6, 2) := by decide +kernel
theorem dX11_level_81 : decode cX11_level 81 = .ok (.iload 8, 2) := by decide +kernel
theorem dX11_level_83 : decode cX11_level 83 = .ok (.istore 5, 2) := by decide +kernel
theorem dX11_level_85 : decode cX11_level 85 = .ok (.iinc 8 1, 3) := by decide +kernel
theorem dX11_level_88 : decode cX11_level 88 = .ok (.goto (-36), 3) := by decide +kernel
theorem dX11_level_91 : decode cX11_level 91 = .ok (.iload 5, 2) := by decide +kernel
theorem dX11_level_93 : decode cX11_level 93 = .ok (.ireturn, 1) := by decide +kernel
theorem dX11_levelCost_0 : decode cX11_levelCost 0 = .ok (.aload_n 0, 1) := by decide +kernel
theorem dX11_levelCost_1 : decode cX11_levelCost 1 = .ok (.iload_n 2, 1) := by decide +kernel
theorem dX11_levelCost_2 : decode cX11_levelCost 2 = .ok (.iload_n 3, 1) := by decide +kernel
theorem dX11_levelCost_3 : decode cX11_levelCost 3 = .ok (.invokevirtual 419, 3) := by decide +kernel
theorem dX11_levelCost_6 : decode cX11_levelCost 6 = .ok (.ifCond .eq 28, 3) := by decide +kernel
theorem dX11_levelCost_9 : decode cX11_levelCost 9 = .ok (.iload_n 1, 1) := by decide +kernel
theorem dX11_levelCost_10 : decode cX11_levelCost 10 = .ok (.i2l, 1) := by decide +kernel
theorem dX11_levelCost_11 : decode cX11_levelCost 11 = .ok (.lconst 0, 1) := by decide +kernel
theorem dX11_levelCost_12 : decode cX11_levelCost 12 = .ok (.lconst 1, 1) := by decide +kernel
theorem dX11_levelCost_13 : decode cX11_levelCost 13 = .ok (.invokestatic 169, 3) := by decide +kernel
theorem dX11_levelCost_16 : decode cX11_levelCost 16 = .ok (.ifCond .eq 18, 3) := by decide +kernel
theorem dX11_levelCost_19 : decode cX11_levelCost 19 = .ok (.iload 4, 2) := by decide +kernel
theorem dX11_levelCost_21 : decode cX11_levelCost 21 = .ok (.i2l, 1) := by decide +kernel
theorem dX11_levelCost_22 : decode cX11_levelCost 22 = .ok (.ldc2_w 410, 3) := by decide +kernel
theorem dX11_levelCost_25 : decode cX11_levelCost 25 = .ok (.ldc2_w 370, 3) := by decide +kernel
theorem dX11_levelCost_28 : decode cX11_levelCost 28 = .ok (.invokestatic 169, 3) := by decide +kernel
theorem dX11_levelCost_31 : decode cX11_levelCost 31 = .ok (.ifCond .ne 7, 3) := by decide +kernel
theorem dX11_levelCost_34 : decode cX11_levelCost 34 = .ok (.ldc2_w 215, 3) := by decide +kernel
theorem dX11_levelCost_37 : decode cX11_levelCost 37 = .ok (.lreturn, 1) := by decide +kernel
theorem dX11_levelCost_38 : decode cX11_levelCost 38 = .ok (.iload_n 1, 1) := by decide +kernel
theorem dX11_levelCost_39 : decode cX11_levelCost 39 = .ok (.ifCond .ne 13, 3) := by decide +kernel
theorem dX11_levelCost_42 : decode cX11_levelCost 42 = .ok (.aload_n 0, 1) := by decide +kernel
theorem dX11_levelCost_43 : decode cX11_levelCost 43 = .ok (.iload 4, 2) := by decide +kernel
theorem dX11_levelCost_45 : decode cX11_levelCost 45 = .ok (.i2l, 1) := by decide +kernel
theorem dX11_levelCost_46 : decode cX11_levelCost 46 = .ok (.invokevirtual 416, 3) := by decide +kernel
theorem dX11_levelCost_49 : decode cX11_levelCost 49 = .ok (.goto 13, 3) := by decide +kernel
theorem dX11_levelCost_52 : decode cX11_levelCost 52 = .ok (.aload_n 0, 1) := by decide +kernel
theorem dX11_levelCost_53 : decode cX11_levelCost 53 = .ok (.iload 4, 2) := by decide +kernel
theorem dX11_levelCost_55 : decode cX11_levelCost 55 = .ok (.aload_n 0, 1) := by decide +kernel
theorem dX11_levelCost_56 : decode cX11_levelCost 56 = .ok (.invokevirtual 423, 3) := by decide +kernel
theorem dX11_levelCost_59 : decode cX11_levelCost 59 = .ok (.invokevirtual 426, 3) := by decide +kernel
theorem dX11_levelCost_62 : decode cX11_levelCost 62 = .ok (.lreturn, 1) := by decide +kernel
theorem dX11_keeps_0 : decode cX11_keeps 0 = .ok (.aload_n 0, 1) := by decide +kernel
theorem dX11_keeps_1 : decode cX11_keeps 1 = .ok (.getfield 139, 3) := by decide +kernel
theorem dX11_keeps_4 : decode cX11_keeps 4 = .ok (.iconst 0, 1) := by decide +kernel
theorem dX11_keeps_5 : decode cX11_keeps 5 = .ok (.aload_n 0, 1) := by decide +kernel
theorem dX11_keeps_6 : decode cX11_keeps 6 = .ok (.getfield 183, 3) := by decide +kernel
theorem dX11_keeps_9 : decode cX11_keeps 9 = .ok (.i2l, 1) := by decide +kernel
theorem dX11_keeps_10 : decode cX11_keeps 10 = .ok (.lastore, 1) := by decide +kernel
theorem dX11_keeps_11 : decode cX11_keeps 11 = .ok (.aload_n 0, 1) := by decide +kernel
theorem dX11_keeps_12 : decode cX11_keeps 12 = .ok (.getfield 139, 3) := by decide +kernel
theorem dX11_keeps_15 : decode cX11_keeps 15 = .ok (.iconst 1, 1) := by decide +kernel
theorem dX11_keeps_16 : decode cX11_keeps 16 = .ok (.aload_n 0, 1) := by decide +kernel
theorem dX11_keeps_17 : decode cX11_keeps 17 = .ok (.getfield 217, 3) := by decide +kernel
theorem dX11_keeps_20 : decode cX11_keeps 20 = .ok (.lastore, 1) := by decide +kernel
theorem dX11_keeps_21 : decode cX11_keeps 21 = .ok (.aload_n 0, 1) := by decide +kernel
theorem dX11_keeps_22 : decode cX11_keeps 22 = .ok (.getfield 139, 3) := by decide +kernel
theorem dX11_keeps_25 : decode cX11_keeps 25 = .ok (.iconst 2, 1) := by decide +kernel
theorem dX11_keeps_26 : decode cX11_keeps 26 = .ok (.aload_n 0, 1) := by decide +kernel
theorem dX11_keeps_27 : decode cX11_keeps 27 = .ok (.getfield 220, 3) := by decide +kernel
theorem dX11_keeps_30 : decode cX11_keeps 30 = .ok (.lastore, 1) := by decide +kernel
theorem dX11_keeps_31 : decode cX11_keeps 31 = .ok (.iconst 0, 1) := by decide +kernel
theorem dX11_keeps_32 : decode cX11_keeps 32 = .ok (.istore_n 1, 1) := by decide +kernel
theorem dX11_keeps_33 : decode cX11_keeps 33 = .ok (.iload_n 1, 1) := by decide +kernel
theorem dX11_keeps_34 : decode cX11_keeps 34 = .ok (.bipush 8, 2) := by decide +kernel
theorem dX11_keeps_36 : decode cX11_keeps 36 = .ok (.if_icmp .ge 93, 3) := by decide +kernel
theorem dX11_keeps_39 : decode cX11_keeps 39 = .ok (.aload_n 0, 1) := by decide +kernel
theorem dX11_keeps_40 : decode cX11_keeps 40 = .ok (.getfield 142, 3) := by decide +kernel
theorem dX11_keeps_43 : decode cX11_keeps 43 = .ok (.iload_n 1, 1) := by decide +kernel
theorem dX11_keeps_44 : decode cX11_keeps 44 = .ok (.aload_n 0, 1) := by decide +kernel
theorem dX11_keeps_45 : decode cX11_keeps 45 = .ok (.getfield 37, 3) := by decide +kernel
theorem dX11_keeps_48 : decode cX11_keeps 48 = .ok (.iload_n 1, 1) := by decide +kernel
theorem dX11_keeps_49 : decode cX11_keeps 49 = .ok (.iaload, 1) := by decide +kernel
theorem dX11_keeps_50 : decode cX11_keeps 50 = .ok (.iastore, 1) := by decide +kernel
theorem dX11_keeps_51 : decode cX11_keeps 51 = .ok (.aload_n 0, 1) := by decide +kernel
theorem dX11_keeps_52 : decode cX11_keeps 52 = .ok (.getfield 145, 3) := by decide +kernel
theorem dX11_keeps_55 : decode cX11_keeps 55 = .ok (.iload_n 1, 1) := by decide +kernel
theorem dX11_keeps_56 : decode cX11_keeps 56 = .ok (.aload_n 0, 1) := by decide +kernel
theorem dX11_keeps_57 : decode cX11_keeps 57 = .ok (.getfield 40, 3) := by decide +kernel
theorem dX11_keeps_60 : decode cX11_keeps 60 = .ok (.iload_n 1, 1) := by decide +kernel
theorem dX11_keeps_61 : decode cX11_keeps 61 = .ok (.laload, 1) := by decide +kernel
theorem dX11_keeps_62 : decode cX11_keeps 62 = .ok (.lastore, 1) := by decide +kernel
theorem dX11_keeps_63 : decode cX11_keeps 63 = .ok (.aload_n 0, 1) := by decide +kernel
theorem dX11_keeps_64 : decode cX11_keeps 64 = .ok (.getfield 145, 3) := by decide +kernel
theorem dX11_keeps_67 : decode cX11_keeps 67 = .ok (.bipush 8, 2) := by decide +kernel
theorem dX11_keeps_69 : decode cX11_keeps 69 = .ok (.iload_n 1, 1) := by decide +kernel
theorem dX11_keeps_70 : decode cX11_keeps 70 = .ok (.iadd, 1) := by decide +kernel
theorem dX11_keeps_71 : decode cX11_keeps 71 = .ok (.aload_n 0, 1) := by decide +kernel
theorem dX11_keeps_72 : decode cX11_keeps 72 = .ok (.getfield 53, 3) := by decide +kernel
theorem dX11_keeps_75 : decode cX11_keeps 75 = .ok (.iload_n 1, 1) := by decide +kernel
theorem dX11_keeps_76 : decode cX11_keeps 76 = .ok (.laload, 1) := by decide +kernel
theorem dX11_keeps_77 : decode cX11_keeps 77 = .ok (.lastore, 1) := by decide +kernel
theorem dX11_keeps_78 : decode cX11_keeps 78 = .ok (.aload_n 0, 1) := by decide +kernel
theorem dX11_keeps_79 : decode cX11_keeps 79 = .ok (.getfield 145, 3) := by decide +kernel
theorem dX11_keeps_82 : decode cX11_keeps 82 = .ok (.bipush 16, 2) := by decide +kernel
theorem dX11_keeps_84 : decode cX11_keeps 84 = .ok (.iload_n 1, 1) := by decide +kernel
theorem dX11_keeps_85 : decode cX11_keeps 85 = .ok (.iadd, 1) := by decide +kernel
theorem dX11_keeps_86 : decode cX11_keeps 86 = .ok (.aload_n 0, 1) := by decide +kernel
theorem dX11_keeps_87 : decode cX11_keeps 87 = .ok (.getfield 56, 3) := by decide +kernel
theorem dX11_keeps_90 : decode cX11_keeps 90 = .ok (.iload_n 1, 1) := by decide +kernel
theorem dX11_keeps_91 : decode cX11_keeps 91 = .ok (.laload, 1) := by decide +kernel
theorem dX11_keeps_92 : decode cX11_keeps 92 = .ok (.lastore, 1) := by decide +kernel
theorem dX11_keeps_93 : decode cX11_keeps 93 = .ok (.aload_n 0, 1) := by decide +kernel
theorem dX11_keeps_94 : decode cX11_keeps 94 = .ok (.getfield 145, 3) := by decide +kernel
theorem dX11_keeps_97 : decode cX11_keeps 97 = .ok (.bipush 24, 2) := by decide +kernel
theorem dX11_keeps_99 : decode cX11_keeps 99 = .ok (.iload_n 1, 1) := by decide +kernel
theorem dX11_keeps_100 : decode cX11_keeps 100 = .ok (.iadd, 1) := by decide +kernel
theorem dX11_keeps_101 : decode cX11_keeps 101 = .ok (.aload_n 0, 1) := by decide +kernel
theorem dX11_keeps_102 : decode cX11_keeps 102 = .ok (.getfield 59, 3) := by decide +kernel
theorem dX11_keeps_105 : decode cX11_keeps 105 = .ok (.iload_n 1, 1) := by decide +kernel
theorem dX11_keeps_106 : decode cX11_keeps 106 = .ok (.laload, 1) := by decide +kernel
theorem dX11_keeps_107 : decode cX11_keeps 107 = .ok (.lastore, 1) := by decide +kernel
theorem dX11_keeps_108 : decode cX11_keeps 108 = .ok (.aload_n 0, 1) := by decide +kernel
theorem dX11_keeps_109 : decode cX11_keeps 109 = .ok (.getfield 145, 3) := by decide +kernel
theorem dX11_keeps_112 : decode cX11_keeps 112 = .ok (.bipush 32, 2) := by decide +kernel
theorem dX11_keeps_114 : decode cX11_keeps 114 = .ok (.iload_n 1, 1) := by decide +kernel
theorem dX11_keeps_115 : decode cX11_keeps 115 = .ok (.iadd, 1) := by decide +kernel
theorem dX11_keeps_116 : decode cX11_keeps 116 = .ok (.aload_n 0, 1) := by decide +kernel
theorem dX11_keeps_117 : decode cX11_keeps 117 = .ok (.getfield 62, 3) := by decide +kernel
theorem dX11_keeps_120 : decode cX11_keeps 120 = .ok (.iload_n 1, 1) := by decide +kernel
theorem dX11_keeps_121 : decode cX11_keeps 121 = .ok (.laload, 1) := by decide +kernel
theorem dX11_keeps_122 : decode cX11_keeps 122 = .ok (.lastore, 1) := by decide +kernel
theorem dX11_keeps_123 : decode cX11_keeps 123 = .ok (.iinc 1 1, 3) := by decide +kernel
theorem dX11_keeps_126 : decode cX11_keeps 126 = .ok (.goto (-93), 3) := by decide +kernel
theorem dX11_keeps_129 : decode cX11_keeps 129 = .ok (.iconst 0, 1) := by decide +kernel
theorem dX11_keeps_130 : decode cX11_keeps 130 = .ok (.istore_n 1, 1) := by decide +kernel
theorem dX11_keeps_131 : decode cX11_keeps 131 = .ok (.iload_n 1, 1) := by decide +kernel
theorem dX11_keeps_132 : decode cX11_keeps 132 = .ok (.bipush 64, 2) := by decide +kernel
theorem dX11_keeps_134 : decode cX11_keeps 134 = .ok (.if_icmp .ge 21, 3) := by decide +kernel
theorem dX11_keeps_137 : decode cX11_keeps 137 = .ok (.aload_n 0, 1) := by decide +kernel
theorem dX11_keeps_138 : decode cX11_keeps 138 = .ok (.getfield 148, 3) := by decide +kernel
theorem dX11_keeps_141 : decode cX11_keeps 141 = .ok (.iload_n 1, 1) := by decide +kernel
theorem dX11_keeps_142 : decode cX11_keeps 142 = .ok (.aload_n 0, 1) := by decide +kernel
theorem dX11_keeps_143 : decode cX11_keeps 143 = .ok (.getfield 44, 3) := by decide +kernel
theorem dX11_keeps_146 : decode cX11_keeps 146 = .ok (.iload_n 1, 1) := by decide +kernel
theorem dX11_keeps_147 : decode cX11_keeps 147 = .ok (.laload, 1) := by decide +kernel
theorem dX11_keeps_148 : decode cX11_keeps 148 = .ok (.lastore, 1) := by decide +kernel
theorem dX11_keeps_149 : decode cX11_keeps 149 = .ok (.iinc 1 1, 3) := by decide +kernel
theorem dX11_keeps_152 : decode cX11_keeps 152 = .ok (.goto (-21), 3) := by decide +kernel
theorem dX11_keeps_155 : decode cX11_keeps 155 = .ok (.iconst 0, 1) := by decide +kernel
theorem dX11_keeps_156 : decode cX11_keeps 156 = .ok (.istore_n 1, 1) := by decide +kernel
theorem dX11_keeps_157 : decode cX11_keeps 157 = .ok (.iload_n 1, 1) := by decide +kernel
theorem dX11_keeps_158 : decode cX11_keeps 158 = .ok (.bipush 56, 2) := by decide +kernel
theorem dX11_keeps_160 : decode cX11_keeps 160 = .ok (.if_icmp .ge 21, 3) := by decide +kernel
theorem dX11_keeps_163 : decode cX11_keeps 163 = .ok (.aload_n 0, 1) := by decide +kernel
theorem dX11_keeps_164 : decode cX11_keeps 164 = .ok (.getfield 151, 3) := by decide +kernel
theorem dX11_keeps_167 : decode cX11_keeps 167 = .ok (.iload_n 1, 1) := by decide +kernel
theorem dX11_keeps_168 : decode cX11_keeps 168 = .ok (.aload_n 0, 1) := by decide +kernel
theorem dX11_keeps_169 : decode cX11_keeps 169 = .ok (.getfield 47, 3) := by decide +kernel
theorem dX11_keeps_172 : decode cX11_keeps 172 = .ok (.iload_n 1, 1) := by decide +kernel
theorem dX11_keeps_173 : decode cX11_keeps 173 = .ok (.laload, 1) := by decide +kernel
theorem dX11_keeps_174 : decode cX11_keeps 174 = .ok (.lastore, 1) := by decide +kernel
theorem dX11_keeps_175 : decode cX11_keeps 175 = .ok (.iinc 1 1, 3) := by decide +kernel
theorem dX11_keeps_178 : decode cX11_keeps 178 = .ok (.goto (-21), 3) := by decide +kernel
theorem dX11_keeps_181 : decode cX11_keeps 181 = .ok (.iconst 0, 1) := by decide +kernel
theorem dX11_keeps_182 : decode cX11_keeps 182 = .ok (.istore_n 1, 1) := by decide +kernel
theorem dX11_keeps_183 : decode cX11_keeps 183 = .ok (.iload_n 1, 1) := by decide +kernel
theorem dX11_keeps_184 : decode cX11_keeps 184 = .ok (.bipush 32, 2) := by decide +kernel
theorem dX11_keeps_186 : decode cX11_keeps 186 = .ok (.if_icmp .ge 21, 3) := by decide +kernel
theorem dX11_keeps_189 : decode cX11_keeps 189 = .ok (.aload_n 0, 1) := by decide +kernel
theorem dX11_keeps_190 : decode cX11_keeps 190 = .ok (.getfield 154, 3) := by decide +kernel
theorem dX11_keeps_193 : decode cX11_keeps 193 = .ok (.iload_n 1, 1) := by decide +kernel
theorem dX11_keeps_194 : decode cX11_keeps 194 = .ok (.aload_n 0, 1) := by decide +kernel
theorem dX11_keeps_195 : decode cX11_keeps 195 = .ok (.getfield 50, 3) := by decide +kernel
theorem dX11_keeps_198 : decode cX11_keeps 198 = .ok (.iload_n 1, 1) := by decide +kernel
theorem dX11_keeps_199 : decode cX11_keeps 199 = .ok (.laload, 1) := by decide +kernel
theorem dX11_keeps_200 : decode cX11_keeps 200 = .ok (.lastore, 1) := by decide +kernel
theorem dX11_keeps_201 : decode cX11_keeps 201 = .ok (.iinc 1 1, 3) := by decide +kernel
theorem dX11_keeps_204 : decode cX11_keeps 204 = .ok (.goto (-21), 3) := by decide +kernel
theorem dX11_keeps_207 : decode cX11_keeps 207 = .ok (.iconst 0, 1) := by decide +kernel
theorem dX11_keeps_208 : decode cX11_keeps 208 = .ok (.istore_n 1, 1) := by decide +kernel
theorem dX11_keeps_209 : decode cX11_keeps 209 = .ok (.iload_n 1, 1) := by decide +kernel
theorem dX11_keeps_210 : decode cX11_keeps 210 = .ok (.sipush 320, 3) := by decide +kernel
theorem dX11_keeps_213 : decode cX11_keeps 213 = .ok (.if_icmp .ge 33, 3) := by decide +kernel
theorem dX11_keeps_216 : decode cX11_keeps 216 = .ok (.aload_n 0, 1) := by decide +kernel
theorem dX11_keeps_217 : decode cX11_keeps 217 = .ok (.getfield 157, 3) := by decide +kernel
theorem dX11_keeps_220 : decode cX11_keeps 220 = .ok (.iload_n 1, 1) := by decide +kernel
theorem dX11_keeps_221 : decode cX11_keeps 221 = .ok (.aload_n 0, 1) := by decide +kernel
theorem dX11_keeps_222 : decode cX11_keeps 222 = .ok (.getfield 65, 3) := by decide +kernel
theorem dX11_keeps_225 : decode cX11_keeps 225 = .ok (.iload_n 1, 1) := by decide +kernel
theorem dX11_keeps_226 : decode cX11_keeps 226 = .ok (.laload, 1) := by decide +kernel
theorem dX11_keeps_227 : decode cX11_keeps 227 = .ok (.lastore, 1) := by decide +kernel
theorem dX11_keeps_228 : decode cX11_keeps 228 = .ok (.aload_n 0, 1) := by decide +kernel
theorem dX11_keeps_229 : decode cX11_keeps 229 = .ok (.getfield 160, 3) := by decide +kernel
theorem dX11_keeps_232 : decode cX11_keeps 232 = .ok (.iload_n 1, 1) := by decide +kernel
theorem dX11_keeps_233 : decode cX11_keeps 233 = .ok (.aload_n 0, 1) := by decide +kernel
theorem dX11_keeps_234 : decode cX11_keeps 234 = .ok (.getfield 68, 3) := by decide +kernel
theorem dX11_keeps_237 : decode cX11_keeps 237 = .ok (.iload_n 1, 1) := by decide +kernel
theorem dX11_keeps_238 : decode cX11_keeps 238 = .ok (.laload, 1) := by decide +kernel
theorem dX11_keeps_239 : decode cX11_keeps 239 = .ok (.lastore, 1) := by decide +kernel
theorem dX11_keeps_240 : decode cX11_keeps 240 = .ok (.iinc 1 1, 3) := by decide +kernel
theorem dX11_keeps_243 : decode cX11_keeps 243 = .ok (.goto (-34), 3) := by decide +kernel
theorem dX11_keeps_246 : decode cX11_keeps 246 = .ok (.return_, 1) := by decide +kernel
theorem dX11_lays_0 : decode cX11_lays 0 = .ok (.aload_n 0, 1) := by decide +kernel
theorem dX11_lays_1 : decode cX11_lays 1 = .ok (.aload_n 0, 1) := by decide +kernel
theorem dX11_lays_2 : decode cX11_lays 2 = .ok (.getfield 139, 3) := by decide +kernel
theorem dX11_lays_5 : decode cX11_lays 5 = .ok (.iconst 0, 1) := by decide +kernel
theorem dX11_lays_6 : decode cX11_lays 6 = .ok (.laload, 1) := by decide +kernel
theorem dX11_lays_7 : decode cX11_lays 7 = .ok (.l2i, 1) := by decide +kernel
theorem dX11_lays_8 : decode cX11_lays 8 = .ok (.putfield 183, 3) := by decide +kernel
theorem dX11_lays_11 : decode cX11_lays 11 = .ok (.aload_n 0, 1) := by decide +kernel
theorem dX11_lays_12 : decode cX11_lays 12 = .ok (.aload_n 0, 1) := by decide +kernel
theorem dX11_lays_13 : decode cX11_lays 13 = .ok (.getfield 139, 3) := by decide +kernel
theorem dX11_lays_16 : decode cX11_lays 16 = .ok (.iconst 1, 1) := by decide +kernel
theorem dX11_lays_17 : decode cX11_lays 17 = .ok (.laload, 1) := by decide +kernel
theorem dX11_lays_18 : decode cX11_lays 18 = .ok (.putfield 217, 3) := by decide +kernel
theorem dX11_lays_21 : decode cX11_lays 21 = .ok (.aload_n 0, 1) := by decide +kernel
theorem dX11_lays_22 : decode cX11_lays 22 = .ok (.aload_n 0, 1) := by decide +kernel
theorem dX11_lays_23 : decode cX11_lays 23 = .ok (.getfield 139, 3) := by decide +kernel
theorem dX11_lays_26 : decode cX11_lays 26 = .ok (.iconst 2, 1) := by decide +kernel
theorem dX11_lays_27 : decode cX11_lays 27 = .ok (.laload, 1) := by decide +kernel
theorem dX11_lays_28 : decode cX11_lays 28 = .ok (.putfield 220, 3) := by decide +kernel
theorem dX11_lays_31 : decode cX11_lays 31 = .ok (.iconst 0, 1) := by decide +kernel
theorem dX11_lays_32 : decode cX11_lays 32 = .ok (.istore_n 1, 1) := by decide +kernel
theorem dX11_lays_33 : decode cX11_lays 33 = .ok (.iload_n 1, 1) := by decide +kernel
theorem dX11_lays_34 : decode cX11_lays 34 = .ok (.bipush 8, 2) := by decide +kernel
theorem dX11_lays_36 : decode cX11_lays 36 = .ok (.if_icmp .ge 93, 3) := by decide +kernel
theorem dX11_lays_39 : decode cX11_lays 39 = .ok (.aload_n 0, 1) := by decide +kernel
theorem dX11_lays_40 : decode cX11_lays 40 = .ok (.getfield 37, 3) := by decide +kernel
theorem dX11_lays_43 : decode cX11_lays 43 = .ok (.iload_n 1, 1) := by decide +kernel
theorem dX11_lays_44 : decode cX11_lays 44 = .ok (.aload_n 0, 1) := by decide +kernel
theorem dX11_lays_45 : decode cX11_lays 45 = .ok (.getfield 142, 3) := by decide +kernel
theorem dX11_lays_48 : decode cX11_lays 48 = .ok (.iload_n 1, 1) := by decide +kernel
theorem dX11_lays_49 : decode cX11_lays 49 = .ok (.iaload, 1) := by decide +kernel
theorem dX11_lays_50 : decode cX11_lays 50 = .ok (.iastore, 1) := by decide +kernel
theorem dX11_lays_51 : decode cX11_lays 51 = .ok (.aload_n 0, 1) := by decide +kernel
theorem dX11_lays_52 : decode cX11_lays 52 = .ok (.getfield 40, 3) := by decide +kernel
theorem dX11_lays_55 : decode cX11_lays 55 = .ok (.iload_n 1, 1) := by decide +kernel
theorem dX11_lays_56 : decode cX11_lays 56 = .ok (.aload_n 0, 1) := by decide +kernel
theorem dX11_lays_57 : decode cX11_lays 57 = .ok (.getfield 145, 3) := by decide +kernel
theorem dX11_lays_60 : decode cX11_lays 60 = .ok (.iload_n 1, 1) := by decide +kernel
theorem dX11_lays_61 : decode cX11_lays 61 = .ok (.laload, 1) := by decide +kernel
theorem dX11_lays_62 : decode cX11_lays 62 = .ok (.lastore, 1) := by decide +kernel
theorem dX11_lays_63 : decode cX11_lays 63 = .ok (.aload_n 0, 1) := by decide +kernel
theorem dX11_lays_64 : decode cX11_lays 64 = .ok (.getfield 53, 3) := by decide +kernel
theorem dX11_lays_67 : decode cX11_lays 67 = .ok (.iload_n 1, 1) := by decide +kernel
theorem dX11_lays_68 : decode cX11_lays 68 = .ok (.aload_n 0, 1) := by decide +kernel
theorem dX11_lays_69 : decode cX11_lays 69 = .ok (.getfield 145, 3) := by decide +kernel
theorem dX11_lays_72 : decode cX11_lays 72 = .ok (.bipush 8, 2) := by decide +kernel
theorem dX11_lays_74 : decode cX11_lays 74 = .ok (.iload_n 1, 1) := by decide +kernel
theorem dX11_lays_75 : decode cX11_lays 75 = .ok (.iadd, 1) := by decide +kernel
theorem dX11_lays_76 : decode cX11_lays 76 = .ok (.laload, 1) := by decide +kernel
theorem dX11_lays_77 : decode cX11_lays 77 = .ok (.lastore, 1) := by decide +kernel
theorem dX11_lays_78 : decode cX11_lays 78 = .ok (.aload_n 0, 1) := by decide +kernel
theorem dX11_lays_79 : decode cX11_lays 79 = .ok (.getfield 56, 3) := by decide +kernel
theorem dX11_lays_82 : decode cX11_lays 82 = .ok (.iload_n 1, 1) := by decide +kernel
theorem dX11_lays_83 : decode cX11_lays 83 = .ok (.aload_n 0, 1) := by decide +kernel
theorem dX11_lays_84 : decode cX11_lays 84 = .ok (.getfield 145, 3) := by decide +kernel
theorem dX11_lays_87 : decode cX11_lays 87 = .ok (.bipush 16, 2) := by decide +kernel
theorem dX11_lays_89 : decode cX11_lays 89 = .ok (.iload_n 1, 1) := by decide +kernel
theorem dX11_lays_90 : decode cX11_lays 90 = .ok (.iadd, 1) := by decide +kernel
theorem dX11_lays_91 : decode cX11_lays 91 = .ok (.laload, 1) := by decide +kernel
theorem dX11_lays_92 : decode cX11_lays 92 = .ok (.lastore, 1) := by decide +kernel
theorem dX11_lays_93 : decode cX11_lays 93 = .ok (.aload_n 0, 1) := by decide +kernel
theorem dX11_lays_94 : decode cX11_lays 94 = .ok (.getfield 59, 3) := by decide +kernel
theorem dX11_lays_97 : decode cX11_lays 97 = .ok (.iload_n 1, 1) := by decide +kernel
theorem dX11_lays_98 : decode cX11_lays 98 = .ok (.aload_n 0, 1) := by decide +kernel
theorem dX11_lays_99 : decode cX11_lays 99 = .ok (.getfield 145, 3) := by decide +kernel
theorem dX11_lays_102 : decode cX11_lays 102 = .ok (.bipush 24, 2) := by decide +kernel
theorem dX11_lays_104 : decode cX11_lays 104 = .ok (.iload_n 1, 1) := by decide +kernel
theorem dX11_lays_105 : decode cX11_lays 105 = .ok (.iadd, 1) := by decide +kernel
theorem dX11_lays_106 : decode cX11_lays 106 = .ok (.laload, 1) := by decide +kernel
theorem dX11_lays_107 : decode cX11_lays 107 = .ok (.lastore, 1) := by decide +kernel
theorem dX11_lays_108 : decode cX11_lays 108 = .ok (.aload_n 0, 1) := by decide +kernel
theorem dX11_lays_109 : decode cX11_lays 109 = .ok (.getfield 62, 3) := by decide +kernel
theorem dX11_lays_112 : decode cX11_lays 112 = .ok (.iload_n 1, 1) := by decide +kernel
theorem dX11_lays_113 : decode cX11_lays 113 = .ok (.aload_n 0, 1) := by decide +kernel
theorem dX11_lays_114 : decode cX11_lays 114 = .ok (.getfield 145, 3) := by decide +kernel
theorem dX11_lays_117 : decode cX11_lays 117 = .ok (.bipush 32, 2) := by decide +kernel
theorem dX11_lays_119 : decode cX11_lays 119 = .ok (.iload_n 1, 1) := by decide +kernel
theorem dX11_lays_120 : decode cX11_lays 120 = .ok (.iadd, 1) := by decide +kernel
theorem dX11_lays_121 : decode cX11_lays 121 = .ok (.laload, 1) := by decide +kernel
theorem dX11_lays_122 : decode cX11_lays 122 = .ok (.lastore, 1) := by decide +kernel
theorem dX11_lays_123 : decode cX11_lays 123 = .ok (.iinc 1 1, 3) := by decide +kernel
theorem dX11_lays_126 : decode cX11_lays 126 = .ok (.goto (-93), 3) := by decide +kernel
theorem dX11_lays_129 : decode cX11_lays 129 = .ok (.iconst 0, 1) := by decide +kernel
theorem dX11_lays_130 : decode cX11_lays 130 = .ok (.istore_n 1, 1) := by decide +kernel
theorem dX11_lays_131 : decode cX11_lays 131 = .ok (.iload_n 1, 1) := by decide +kernel
theorem dX11_lays_132 : decode cX11_lays 132 = .ok (.bipush 64, 2) := by decide +kernel
theorem dX11_lays_134 : decode cX11_lays 134 = .ok (.if_icmp .ge 21, 3) := by decide +kernel
theorem dX11_lays_137 : decode cX11_lays 137 = .ok (.aload_n 0, 1) := by decide +kernel
theorem dX11_lays_138 : decode cX11_lays 138 = .ok (.getfield 44, 3) := by decide +kernel
theorem dX11_lays_141 : decode cX11_lays 141 = .ok (.iload_n 1, 1) := by decide +kernel
theorem dX11_lays_142 : decode cX11_lays 142 = .ok (.aload_n 0, 1) := by decide +kernel
theorem dX11_lays_143 : decode cX11_lays 143 = .ok (.getfield 148, 3) := by decide +kernel
theorem dX11_lays_146 : decode cX11_lays 146 = .ok (.iload_n 1, 1) := by decide +kernel
theorem dX11_lays_147 : decode cX11_lays 147 = .ok (.laload, 1) := by decide +kernel
theorem dX11_lays_148 : decode cX11_lays 148 = .ok (.lastore, 1) := by decide +kernel
theorem dX11_lays_149 : decode cX11_lays 149 = .ok (.iinc 1 1, 3) := by decide +kernel
theorem dX11_lays_152 : decode cX11_lays 152 = .ok (.goto (-21), 3) := by decide +kernel
theorem dX11_lays_155 : decode cX11_lays 155 = .ok (.iconst 0, 1) := by decide +kernel
theorem dX11_lays_156 : decode cX11_lays 156 = .ok (.istore_n 1, 1) := by decide +kernel
theorem dX11_lays_157 : decode cX11_lays 157 = .ok (.iload_n 1, 1) := by decide +kernel
theorem dX11_lays_158 : decode cX11_lays 158 = .ok (.bipush 56, 2) := by decide +kernel
theorem dX11_lays_160 : decode cX11_lays 160 = .ok (.if_icmp .ge 21, 3) := by decide +kernel
theorem dX11_lays_163 : decode cX11_lays 163 = .ok (.aload_n 0, 1) := by decide +kernel
theorem dX11_lays_164 : decode cX11_lays 164 = .ok (.getfield 47, 3) := by decide +kernel
theorem dX11_lays_167 : decode cX11_lays 167 = .ok (.iload_n 1, 1) := by decide +kernel
theorem dX11_lays_168 : decode cX11_lays 168 = .ok (.aload_n 0, 1) := by decide +kernel
theorem dX11_lays_169 : decode cX11_lays 169 = .ok (.getfield 151, 3) := by decide +kernel
theorem dX11_lays_172 : decode cX11_lays 172 = .ok (.iload_n 1, 1) := by decide +kernel
theorem dX11_lays_173 : decode cX11_lays 173 = .ok (.laload, 1) := by decide +kernel
theorem dX11_lays_174 : decode cX11_lays 174 = .ok (.lastore, 1) := by decide +kernel
theorem dX11_lays_175 : decode cX11_lays 175 = .ok (.iinc 1 1, 3) := by decide +kernel
theorem dX11_lays_178 : decode cX11_lays 178 = .ok (.goto (-21), 3) := by decide +kernel
theorem dX11_lays_181 : decode cX11_lays 181 = .ok (.iconst 0, 1) := by decide +kernel
theorem dX11_lays_182 : decode cX11_lays 182 = .ok (.istore_n 1, 1) := by decide +kernel
theorem dX11_lays_183 : decode cX11_lays 183 = .ok (.iload_n 1, 1) := by decide +kernel
theorem dX11_lays_184 : decode cX11_lays 184 = .ok (.bipush 32, 2) := by decide +kernel
theorem dX11_lays_186 : decode cX11_lays 186 = .ok (.if_icmp .ge 21, 3) := by decide +kernel
theorem dX11_lays_189 : decode cX11_lays 189 = .ok (.aload_n 0, 1) := by decide +kernel
theorem dX11_lays_190 : decode cX11_lays 190 = .ok (.getfield 50, 3) := by decide +kernel
theorem dX11_lays_193 : decode cX11_lays 193 = .ok (.iload_n 1, 1) := by decide +kernel
theorem dX11_lays_194 : decode cX11_lays 194 = .ok (.aload_n 0, 1) := by decide +kernel
theorem dX11_lays_195 : decode cX11_lays 195 = .ok (.getfield 154, 3) := by decide +kernel
theorem dX11_lays_198 : decode cX11_lays 198 = .ok (.iload_n 1, 1) := by decide +kernel
theorem dX11_lays_199 : decode cX11_lays 199 = .ok (.laload, 1) := by decide +kernel
theorem dX11_lays_200 : decode cX11_lays 200 = .ok (.lastore, 1) := by decide +kernel
theorem dX11_lays_201 : decode cX11_lays 201 = .ok (.iinc 1 1, 3) := by decide +kernel
theorem dX11_lays_204 : decode cX11_lays 204 = .ok (.goto (-21), 3) := by decide +kernel
theorem dX11_lays_207 : decode cX11_lays 207 = .ok (.iconst 0, 1) := by decide +kernel
theorem dX11_lays_208 : decode cX11_lays 208 = .ok (.istore_n 1, 1) := by decide +kernel
theorem dX11_lays_209 : decode cX11_lays 209 = .ok (.iload_n 1, 1) := by decide +kernel
theorem dX11_lays_210 : decode cX11_lays 210 = .ok (.sipush 320, 3) := by decide +kernel
theorem dX11_lays_213 : decode cX11_lays 213 = .ok (.if_icmp .ge 33, 3) := by decide +kernel
theorem dX11_lays_216 : decode cX11_lays 216 = .ok (.aload_n 0, 1) := by decide +kernel
theorem dX11_lays_217 : decode cX11_lays 217 = .ok (.getfield 65, 3) := by decide +kernel
theorem dX11_lays_220 : decode cX11_lays 220 = .ok (.iload_n 1, 1) := by decide +kernel
theorem dX11_lays_221 : decode cX11_lays 221 = .ok (.aload_n 0, 1) := by decide +kernel
theorem dX11_lays_222 : decode cX11_lays 222 = .ok (.getfield 157, 3) := by decide +kernel
theorem dX11_lays_225 : decode cX11_lays 225 = .ok (.iload_n 1, 1) := by decide +kernel
theorem dX11_lays_226 : decode cX11_lays 226 = .ok (.laload, 1) := by decide +kernel
theorem dX11_lays_227 : decode cX11_lays 227 = .ok (.lastore, 1) := by decide +kernel
theorem dX11_lays_228 : decode cX11_lays 228 = .ok (.aload_n 0, 1) := by decide +kernel
theorem dX11_lays_229 : decode cX11_lays 229 = .ok (.getfield 68, 3) := by decide +kernel
theorem dX11_lays_232 : decode cX11_lays 232 = .ok (.iload_n 1, 1) := by decide +kernel
theorem dX11_lays_233 : decode cX11_lays 233 = .ok (.aload_n 0, 1) := by decide +kernel
theorem dX11_lays_234 : decode cX11_lays 234 = .ok (.getfield 160, 3) := by decide +kernel
theorem dX11_lays_237 : decode cX11_lays 237 = .ok (.iload_n 1, 1) := by decide +kernel
theorem dX11_lays_238 : decode cX11_lays 238 = .ok (.laload, 1) := by decide +kernel
theorem dX11_lays_239 : decode cX11_lays 239 = .ok (.lastore, 1) := by decide +kernel
theorem dX11_lays_240 : decode cX11_lays 240 = .ok (.iinc 1 1, 3) := by decide +kernel
theorem dX11_lays_243 : decode cX11_lays 243 = .ok (.goto (-34), 3) := by decide +kernel
theorem dX11_lays_246 : decode cX11_lays 246 = .ok (.return_, 1) := by decide +kernel
theorem dX11_tries_0 : decode cX11_tries 0 = .ok (.lconst 0, 1) := by decide +kernel
theorem dX11_tries_1 : decode cX11_tries 1 = .ok (.lstore 7, 2) := by decide +kernel
theorem dX11_tries_3 : decode cX11_tries 3 = .ok (.iconst 0, 1) := by decide +kernel
theorem dX11_tries_4 : decode cX11_tries 4 = .ok (.istore 9, 2) := by decide +kernel
theorem dX11_tries_6 : decode cX11_tries 6 = .ok (.iload 9, 2) := by decide +kernel
theorem dX11_tries_8 : decode cX11_tries 8 = .ok (.iload_n 3, 1) := by decide +kernel
theorem dX11_tries_9 : decode cX11_tries 9 = .ok (.if_icmp .ge 73, 3) := by decide +kernel
theorem dX11_tries_12 : decode cX11_tries 12 = .ok (.aload_n 0, 1) := by decide +kernel
theorem dX11_tries_13 : decode cX11_tries 13 = .ok (.iconst 0, 1) := by decide +kernel
theorem dX11_tries_14 : decode cX11_tries 14 = .ok (.invokevirtual 249, 3) := by decide +kernel
theorem dX11_tries_17 : decode cX11_tries 17 = .ok (.aload_n 0, 1) := by decide +kernel
theorem dX11_tries_18 : decode cX11_tries 18 = .ok (.getfield 37, 3) := by decide +kernel
theorem dX11_tries_21 : decode cX11_tries 21 = .ok (.iload_n 1, 1) := by decide +kernel
theorem dX11_tries_22 : decode cX11_tries 22 = .ok (.iload 4, 2) := by decide +kernel
theorem dX11_tries_24 : decode cX11_tries 24 = .ok (.iload_n 3, 1) := by decide +kernel
theorem dX11_tries_25 : decode cX11_tries 25 = .ok (.iconst 1, 1) := by decide +kernel
theorem dX11_tries_26 : decode cX11_tries 26 = .ok (.isub, 1) := by decide +kernel
theorem dX11_tries_27 : decode cX11_tries 27 = .ok (.iload 9, 2) := by decide +kernel
theorem dX11_tries_29 : decode cX11_tries 29 = .ok (.isub, 1) := by decide +kernel
theorem dX11_tries_30 : decode cX11_tries 30 = .ok (.ishr, 1) := by decide +kernel
theorem dX11_tries_31 : decode cX11_tries 31 = .ok (.iconst 1, 1) := by decide +kernel
theorem dX11_tries_32 : decode cX11_tries 32 = .ok (.iand, 1) := by decide +kernel
theorem dX11_tries_33 : decode cX11_tries 33 = .ok (.iconst 1, 1) := by decide +kernel
theorem dX11_tries_34 : decode cX11_tries 34 = .ok (.if_icmp .ne 8, 3) := by decide +kernel
theorem dX11_tries_37 : decode cX11_tries 37 = .ok (.iload 6, 2) := by decide +kernel
theorem dX11_tries_39 : decode cX11_tries 39 = .ok (.goto 5, 3) := by decide +kernel
theorem dX11_tries_42 : decode cX11_tries 42 = .ok (.iload 5, 2) := by decide +kernel
theorem dX11_tries_44 : decode cX11_tries 44 = .ok (.iastore, 1) := by decide +kernel
theorem dX11_tries_45 : decode cX11_tries 45 = .ok (.aload_n 0, 1) := by decide +kernel
theorem dX11_tries_46 : decode cX11_tries 46 = .ok (.invokevirtual 243, 3) := by decide +kernel
theorem dX11_tries_49 : decode cX11_tries 49 = .ok (.istore 10, 2) := by decide +kernel
theorem dX11_tries_51 : decode cX11_tries 51 = .ok (.aload_n 0, 1) := by decide +kernel
theorem dX11_tries_52 : decode cX11_tries 52 = .ok (.getfield 62, 3) := by decide +kernel
theorem dX11_tries_55 : decode cX11_tries 55 = .ok (.iconst 0, 1) := by decide +kernel
theorem dX11_tries_56 : decode cX11_tries 56 = .ok (.laload, 1) := by decide +kernel
theorem dX11_tries_57 : decode cX11_tries 57 = .ok (.lload 7, 2) := by decide +kernel
theorem dX11_tries_59 : decode cX11_tries 59 = .ok (.lcmp, 1) := by decide +kernel
theorem dX11_tries_60 : decode cX11_tries 60 = .ok (.ifCond .le 12, 3) := by decide +kernel
theorem dX11_tries_63 : decode cX11_tries 63 = .ok (.aload_n 0, 1) := by decide +kernel
theorem dX11_tries_64 : decode cX11_tries 64 = .ok (.getfield 62, 3) := by decide +kernel
theorem dX11_tries_67 : decode cX11_tries 67 = .ok (.iconst 0, 1) := by decide +kernel
theorem dX11_tries_68 : decode cX11_tries 68 = .ok (.laload, 1) := by decide +kernel
theorem dX11_tries_69 : decode cX11_tries 69 = .ok (.goto 5, 3) := by decide +kernel
theorem dX11_tries_72 : decode cX11_tries 72 = .ok (.lload 7, 2) := by decide +kernel
theorem dX11_tries_74 : decode cX11_tries 74 = .ok (.lstore 7, 2) := by decide +kernel
theorem dX11_tries_76 : decode cX11_tries 76 = .ok (.iinc 9 1, 3) := by decide +kernel
theorem dX11_tries_79 : decode cX11_tries 79 = .ok (.goto (-73), 3) := by decide +kernel
theorem dX11_tries_82 : decode cX11_tries 82 = .ok (.iload_n 2, 1) := by decide +kernel
theorem dX11_tries_83 : decode cX11_tries 83 = .ok (.iconst 1, 1) := by decide +kernel
theorem dX11_tries_84 : decode cX11_tries 84 = .ok (.if_icmp .ne 6, 3) := by decide +kernel
theorem dX11_tries_87 : decode cX11_tries 87 = .ok (.lload 7, 2) := by decide +kernel
theorem dX11_tries_89 : decode cX11_tries 89 = .ok (.lreturn, 1) := by decide +kernel
theorem dX11_tries_90 : decode cX11_tries 90 = .ok (.lconst 0, 1) := by decide +kernel
theorem dX11_tries_91 : decode cX11_tries 91 = .ok (.lstore 9, 2) := by decide +kernel
theorem dX11_tries_93 : decode cX11_tries 93 = .ok (.iconst 0, 1) := by decide +kernel
theorem dX11_tries_94 : decode cX11_tries 94 = .ok (.istore 11, 2) := by decide +kernel
theorem dX11_tries_96 : decode cX11_tries 96 = .ok (.iload 11, 2) := by decide +kernel
theorem dX11_tries_98 : decode cX11_tries 98 = .ok (.aload_n 0, 1) := by decide +kernel
theorem dX11_tries_99 : decode cX11_tries 99 = .ok (.getfield 166, 3) := by decide +kernel
theorem dX11_tries_102 : decode cX11_tries 102 = .ok (.if_icmp .ge 21, 3) := by decide +kernel
theorem dX11_tries_105 : decode cX11_tries 105 = .ok (.lload 9, 2) := by decide +kernel
theorem dX11_tries_107 : decode cX11_tries 107 = .ok (.aload_n 0, 1) := by decide +kernel
theorem dX11_tries_108 : decode cX11_tries 108 = .ok (.getfield 53, 3) := by decide +kernel
theorem dX11_tries_111 : decode cX11_tries 111 = .ok (.iload 11, 2) := by decide +kernel
theorem dX11_tries_113 : decode cX11_tries 113 = .ok (.laload, 1) := by decide +kernel
theorem dX11_tries_114 : decode cX11_tries 114 = .ok (.ladd, 1) := by decide +kernel
theorem dX11_tries_115 : decode cX11_tries 115 = .ok (.lstore 9, 2) := by decide +kernel
theorem dX11_tries_117 : decode cX11_tries 117 = .ok (.iinc 11 1, 3) := by decide +kernel
theorem dX11_tries_120 : decode cX11_tries 120 = .ok (.goto (-24), 3) := by decide +kernel
theorem dX11_tries_123 : decode cX11_tries 123 = .ok (.lload 9, 2) := by decide +kernel
theorem dX11_tries_125 : decode cX11_tries 125 = .ok (.lreturn, 1) := by decide +kernel
theorem dX11_worst_0 : decode cX11_worst 0 = .ok (.aload_n 0, 1) := by decide +kernel
theorem dX11_worst_1 : decode cX11_worst 1 = .ok (.iload_n 1, 1) := by decide +kernel
theorem dX11_worst_2 : decode cX11_worst 2 = .ok (.invokevirtual 223, 3) := by decide +kernel
theorem dX11_worst_5 : decode cX11_worst 5 = .ok (.ifCond .eq 13, 3) := by decide +kernel
theorem dX11_worst_8 : decode cX11_worst 8 = .ok (.iload_n 2, 1) := by decide +kernel
theorem dX11_worst_9 : decode cX11_worst 9 = .ok (.i2l, 1) := by decide +kernel
theorem dX11_worst_10 : decode cX11_worst 10 = .ok (.lconst 0, 1) := by decide +kernel
theorem dX11_worst_11 : decode cX11_worst 11 = .ok (.lconst 1, 1) := by decide +kernel
theorem dX11_worst_12 : decode cX11_worst 12 = .ok (.invokestatic 169, 3) := by decide +kernel
theorem dX11_worst_15 : decode cX11_worst 15 = .ok (.ifCond .ne 7, 3) := by decide +kernel
theorem dX11_worst_18 : decode cX11_worst 18 = .ok (.ldc2_w 193, 3) := by decide +kernel
theorem dX11_worst_21 : decode cX11_worst 21 = .ok (.lreturn, 1) := by decide +kernel
theorem dX11_worst_22 : decode cX11_worst 22 = .ok (.iload_n 3, 1) := by decide +kernel
theorem dX11_worst_23 : decode cX11_worst 23 = .ok (.i2l, 1) := by decide +kernel
theorem dX11_worst_24 : decode cX11_worst 24 = .ok (.lconst 1, 1) := by decide +kernel
theorem dX11_worst_25 : decode cX11_worst 25 = .ok (.ldc2_w 179, 3) := by decide +kernel
theorem dX11_worst_28 : decode cX11_worst 28 = .ok (.invokestatic 169, 3) := by decide +kernel
theorem dX11_worst_31 : decode cX11_worst 31 = .ok (.ifCond .eq 31, 3) := by decide +kernel
theorem dX11_worst_34 : decode cX11_worst 34 = .ok (.iload 4, 2) := by decide +kernel
theorem dX11_worst_36 : decode cX11_worst 36 = .ok (.i2l, 1) := by decide +kernel
theorem dX11_worst_37 : decode cX11_worst 37 = .ok (.lconst 0, 1) := by decide +kernel
theorem dX11_worst_38 : decode cX11_worst 38 = .ok (.ldc2_w 226, 3) := by decide +kernel
theorem dX11_worst_41 : decode cX11_worst 41 = .ok (.invokestatic 169, 3) := by decide +kernel
theorem dX11_worst_44 : decode cX11_worst 44 = .ok (.ifCond .eq 18, 3) := by decide +kernel
theorem dX11_worst_47 : decode cX11_worst 47 = .ok (.iload 5, 2) := by decide +kernel
theorem dX11_worst_49 : decode cX11_worst 49 = .ok (.i2l, 1) := by decide +kernel
theorem dX11_worst_50 : decode cX11_worst 50 = .ok (.iload 4, 2) := by decide +kernel
theorem dX11_worst_52 : decode cX11_worst 52 = .ok (.i2l, 1) := by decide +kernel
theorem dX11_worst_53 : decode cX11_worst 53 = .ok (.ldc2_w 226, 3) := by decide +kernel
theorem dX11_worst_56 : decode cX11_worst 56 = .ok (.invokestatic 169, 3) := by decide +kernel
theorem dX11_worst_59 : decode cX11_worst 59 = .ok (.ifCond .ne 7, 3) := by decide +kernel
theorem dX11_worst_62 : decode cX11_worst 62 = .ok (.ldc2_w 429, 3) := by decide +kernel
theorem dX11_worst_65 : decode cX11_worst 65 = .ok (.lreturn, 1) := by decide +kernel
theorem dX11_worst_66 : decode cX11_worst 66 = .ok (.aload_n 0, 1) := by decide +kernel
theorem dX11_worst_67 : decode cX11_worst 67 = .ok (.getfield 183, 3) := by decide +kernel
theorem dX11_worst_70 : decode cX11_worst 70 = .ok (.iload_n 3, 1) := by decide +kernel
theorem dX11_worst_71 : decode cX11_worst 71 = .ok (.iadd, 1) := by decide +kernel
theorem dX11_worst_72 : decode cX11_worst 72 = .ok (.sipush 400, 3) := by decide +kernel
theorem dX11_worst_75 : decode cX11_worst 75 = .ok (.if_icmp .le 7, 3) := by decide +kernel
theorem dX11_worst_78 : decode cX11_worst 78 = .ok (.ldc2_w 431, 3) := by decide +kernel
theorem dX11_worst_81 : decode cX11_worst 81 = .ok (.lreturn, 1) := by decide +kernel
theorem dX11_worst_82 : decode cX11_worst 82 = .ok (.aload_n 0, 1) := by decide +kernel
theorem dX11_worst_83 : decode cX11_worst 83 = .ok (.invokevirtual 433, 3) := by decide +kernel
theorem dX11_worst_86 : decode cX11_worst 86 = .ok (.ldc2_w 193, 3) := by decide +kernel
theorem dX11_worst_89 : decode cX11_worst 89 = .ok (.lstore 6, 2) := by decide +kernel
theorem dX11_worst_91 : decode cX11_worst 91 = .ok (.iconst 0, 1) := by decide +kernel
theorem dX11_worst_92 : decode cX11_worst 92 = .ok (.istore 8, 2) := by decide +kernel
theorem dX11_worst_94 : decode cX11_worst 94 = .ok (.iload 8, 2) := by decide +kernel
theorem dX11_worst_96 : decode cX11_worst 96 = .ok (.iconst 1, 1) := by decide +kernel
theorem dX11_worst_97 : decode cX11_worst 97 = .ok (.iload_n 3, 1) := by decide +kernel
theorem dX11_worst_98 : decode cX11_worst 98 = .ok (.ishl, 1) := by decide +kernel
theorem dX11_worst_99 : decode cX11_worst 99 = .ok (.if_icmp .ge 84, 3) := by decide +kernel
theorem dX11_worst_102 : decode cX11_worst 102 = .ok (.aload_n 0, 1) := by decide +kernel
theorem dX11_worst_103 : decode cX11_worst 103 = .ok (.iload_n 1, 1) := by decide +kernel
theorem dX11_worst_104 : decode cX11_worst 104 = .ok (.iload_n 2, 1) := by decide +kernel
theorem dX11_worst_105 : decode cX11_worst 105 = .ok (.iload_n 3, 1) := by decide +kernel
theorem dX11_worst_106 : decode cX11_worst 106 = .ok (.iload 8, 2) := by decide +kernel
theorem dX11_worst_108 : decode cX11_worst 108 = .ok (.iload 4, 2) := by decide +kernel
theorem dX11_worst_110 : decode cX11_worst 110 = .ok (.iload 5, 2) := by decide +kernel
theorem dX11_worst_112 : decode cX11_worst 112 = .ok (.invokevirtual 436, 3) := by decide +kernel
theorem dX11_worst_115 : decode cX11_worst 115 = .ok (.lstore 9, 2) := by decide +kernel
theorem dX11_worst_117 : decode cX11_worst 117 = .ok (.aload_n 0, 1) := by decide +kernel
theorem dX11_worst_118 : decode cX11_worst 118 = .ok (.invokevirtual 440, 3) := by decide +kernel
theorem dX11_worst_121 : decode cX11_worst 121 = .ok (.lload 9, 2) := by decide +kernel
theorem dX11_worst_123 : decode cX11_worst 123 = .ok (.lload 6, 2) := by decide +kernel
theorem dX11_worst_125 : decode cX11_worst 125 = .ok (.lcmp, 1) := by decide +kernel
theorem dX11_worst_126 : decode cX11_worst 126 = .ok (.ifCond .le 51, 3) := by decide +kernel
theorem dX11_worst_129 : decode cX11_worst 129 = .ok (.lload 9, 2) := by decide +kernel
theorem dX11_worst_131 : decode cX11_worst 131 = .ok (.lstore 6, 2) := by decide +kernel
theorem dX11_worst_133 : decode cX11_worst 133 = .ok (.iconst 0, 1) := by decide +kernel
theorem dX11_worst_134 : decode cX11_worst 134 = .ok (.istore 11, 2) := by decide +kernel
theorem dX11_worst_136 : decode cX11_worst 136 = .ok (.iload 11, 2) := by decide +kernel
theorem dX11_worst_138 : decode cX11_worst 138 = .ok (.iload_n 3, 1) := by decide +kernel
theorem dX11_worst_139 : decode cX11_worst 139 = .ok (.if_icmp .ge 38, 3) := by decide +kernel
theorem dX11_worst_142 : decode cX11_worst 142 = .ok (.aload_n 0, 1) := by decide +kernel
theorem dX11_worst_143 : decode cX11_worst 143 = .ok (.getfield 163, 3) := by decide +kernel
theorem dX11_worst_146 : decode cX11_worst 146 = .ok (.iload 11, 2) := by decide +kernel
theorem dX11_worst_148 : decode cX11_worst 148 = .ok (.iload 8, 2) := by decide +kernel
theorem dX11_worst_150 : decode cX11_worst 150 = .ok (.iload_n 3, 1) := by decide +kernel
theorem dX11_worst_151 : decode cX11_worst 151 = .ok (.iconst 1, 1) := by decide +kernel
theorem dX11_worst_152 : decode cX11_worst 152 = .ok (.isub, 1) := by decide +kernel
theorem dX11_worst_153 : decode cX11_worst 153 = .ok (.iload 11, 2) := by decide +kernel
theorem dX11_worst_155 : decode cX11_worst 155 = .ok (.isub, 1) := by decide +kernel
theorem dX11_worst_156 : decode cX11_worst 156 = .ok (.ishr, 1) := by decide +kernel
theorem dX11_worst_157 : decode cX11_worst 157 = .ok (.iconst 1, 1) := by decide +kernel
theorem dX11_worst_158 : decode cX11_worst 158 = .ok (.iand, 1) := by decide +kernel
theorem dX11_worst_159 : decode cX11_worst 159 = .ok (.iconst 1, 1) := by decide +kernel
theorem dX11_worst_160 : decode cX11_worst 160 = .ok (.if_icmp .ne 8, 3) := by decide +kernel
theorem dX11_worst_163 : decode cX11_worst 163 = .ok (.iload 5, 2) := by decide +kernel
theorem dX11_worst_165 : decode cX11_worst 165 = .ok (.goto 5, 3) := by decide +kernel
theorem dX11_worst_168 : decode cX11_worst 168 = .ok (.iload 4, 2) := by decide +kernel
theorem dX11_worst_170 : decode cX11_worst 170 = .ok (.iastore, 1) := by decide +kernel
theorem dX11_worst_171 : decode cX11_worst 171 = .ok (.iinc 11 1, 3) := by decide +kernel
theorem dX11_worst_174 : decode cX11_worst 174 = .ok (.goto (-38), 3) := by decide +kernel
theorem dX11_worst_177 : decode cX11_worst 177 = .ok (.iinc 8 1, 3) := by decide +kernel
theorem dX11_worst_180 : decode cX11_worst 180 = .ok (.goto (-86), 3) := by decide +kernel
theorem dX11_worst_183 : decode cX11_worst 183 = .ok (.aload_n 0, 1) := by decide +kernel
theorem dX11_worst_184 : decode cX11_worst 184 = .ok (.iload_n 3, 1) := by decide +kernel
theorem dX11_worst_185 : decode cX11_worst 185 = .ok (.putfield 443, 3) := by decide +kernel
theorem dX11_worst_188 : decode cX11_worst 188 = .ok (.lload 6, 2) := by decide +kernel
theorem dX11_worst_190 : decode cX11_worst 190 = .ok (.lreturn, 1) := by decide +kernel
theorem dX11_worstAt_0 : decode cX11_worstAt 0 = .ok (.iload_n 1, 1) := by decide +kernel
theorem dX11_worstAt_1 : decode cX11_worstAt 1 = .ok (.i2l, 1) := by decide +kernel
theorem dX11_worstAt_2 : decode cX11_worstAt 2 = .ok (.lconst 0, 1) := by decide +kernel
theorem dX11_worstAt_3 : decode cX11_worstAt 3 = .ok (.aload_n 0, 1) := by decide +kernel
theorem dX11_worstAt_4 : decode cX11_worstAt 4 = .ok (.getfield 443, 3) := by decide +kernel
theorem dX11_worstAt_7 : decode cX11_worstAt 7 = .ok (.iconst 1, 1) := by decide +kernel
theorem dX11_worstAt_8 : decode cX11_worstAt 8 = .ok (.isub, 1) := by decide +kernel
theorem dX11_worstAt_9 : decode cX11_worstAt 9 = .ok (.i2l, 1) := by decide +kernel
theorem dX11_worstAt_10 : decode cX11_worstAt 10 = .ok (.invokestatic 169, 3) := by decide +kernel
theorem dX11_worstAt_13 : decode cX11_worstAt 13 = .ok (.ifCond .eq 12, 3) := by decide +kernel
theorem dX11_worstAt_16 : decode cX11_worstAt 16 = .ok (.aload_n 0, 1) := by decide +kernel
theorem dX11_worstAt_17 : decode cX11_worstAt 17 = .ok (.getfield 163, 3) := by decide +kernel
theorem dX11_worstAt_20 : decode cX11_worstAt 20 = .ok (.iload_n 1, 1) := by decide +kernel
theorem dX11_worstAt_21 : decode cX11_worstAt 21 = .ok (.iaload, 1) := by decide +kernel
theorem dX11_worstAt_22 : decode cX11_worstAt 22 = .ok (.goto 4, 3) := by decide +kernel
theorem dX11_worstAt_25 : decode cX11_worstAt 25 = .ok (.iconst (-1), 1) := by decide +kernel
theorem dX11_worstAt_26 : decode cX11_worstAt 26 = .ok (.ireturn, 1) := by decide +kernel
theorem dX11_areDigits_0 : decode cX11_areDigits 0 = .ok (.lload_n 0, 1) := by decide +kernel
theorem dX11_areDigits_1 : decode cX11_areDigits 1 = .ok (.lconst 0, 1) := by decide +kernel
theorem dX11_areDigits_2 : decode cX11_areDigits 2 = .ok (.lcmp, 1) := by decide +kernel
theorem dX11_areDigits_3 : decode cX11_areDigits 3 = .ok (.ifCond .lt 13, 3) := by decide +kernel
theorem dX11_areDigits_6 : decode cX11_areDigits 6 = .ok (.lload_n 0, 1) := by decide +kernel
theorem dX11_areDigits_7 : decode cX11_areDigits 7 = .ok (.iconst 4, 1) := by decide +kernel
theorem dX11_areDigits_8 : decode cX11_areDigits 8 = .ok (.iload_n 2, 1) := by decide +kernel
theorem dX11_areDigits_9 : decode cX11_areDigits 9 = .ok (.imul, 1) := by decide +kernel
theorem dX11_areDigits_10 : decode cX11_areDigits 10 = .ok (.lshr, 1) := by decide +kernel
theorem dX11_areDigits_11 : decode cX11_areDigits 11 = .ok (.lconst 0, 1) := by decide +kernel
theorem dX11_areDigits_12 : decode cX11_areDigits 12 = .ok (.lcmp, 1) := by decide +kernel
theorem dX11_areDigits_13 : decode cX11_areDigits 13 = .ok (.ifCond .eq 5, 3) := by decide +kernel
theorem dX11_areDigits_16 : decode cX11_areDigits 16 = .ok (.iconst 0, 1) := by decide +kernel
theorem dX11_areDigits_17 : decode cX11_areDigits 17 = .ok (.ireturn, 1) := by decide +kernel
theorem dX11_areDigits_18 : decode cX11_areDigits 18 = .ok (.iconst 0, 1) := by decide +kernel
theorem dX11_areDigits_19 : decode cX11_areDigits 19 = .ok (.istore 4, 2) := by decide +kernel
theorem dX11_areDigits_21 : decode cX11_areDigits 21 = .ok (.iload 4, 2) := by decide +kernel
theorem dX11_areDigits_23 : decode cX11_areDigits 23 = .ok (.iload_n 2, 1) := by decide +kernel
theorem dX11_areDigits_24 : decode cX11_areDigits 24 = .ok (.if_icmp .ge 27, 3) := by decide +kernel
theorem dX11_areDigits_27 : decode cX11_areDigits 27 = .ok (.lload_n 0, 1) := by decide +kernel
theorem dX11_areDigits_28 : decode cX11_areDigits 28 = .ok (.iconst 4, 1) := by decide +kernel
theorem dX11_areDigits_29 : decode cX11_areDigits 29 = .ok (.iload 4, 2) := by decide +kernel
theorem dX11_areDigits_31 : decode cX11_areDigits 31 = .ok (.imul, 1) := by decide +kernel
theorem dX11_areDigits_32 : decode cX11_areDigits 32 = .ok (.lshr, 1) := by decide +kernel
theorem dX11_areDigits_33 : decode cX11_areDigits 33 = .ok (.ldc2_w 446, 3) := by decide +kernel
theorem dX11_areDigits_36 : decode cX11_areDigits 36 = .ok (.land, 1) := by decide +kernel
theorem dX11_areDigits_37 : decode cX11_areDigits 37 = .ok (.iload_n 3, 1) := by decide +kernel
theorem dX11_areDigits_38 : decode cX11_areDigits 38 = .ok (.i2l, 1) := by decide +kernel
theorem dX11_areDigits_39 : decode cX11_areDigits 39 = .ok (.lcmp, 1) := by decide +kernel
theorem dX11_areDigits_40 : decode cX11_areDigits 40 = .ok (.ifCond .le 5, 3) := by decide +kernel
theorem dX11_areDigits_43 : decode cX11_areDigits 43 = .ok (.iconst 0, 1) := by decide +kernel
theorem dX11_areDigits_44 : decode cX11_areDigits 44 = .ok (.ireturn, 1) := by decide +kernel
theorem dX11_areDigits_45 : decode cX11_areDigits 45 = .ok (.iinc 4 1, 3) := by decide +kernel
theorem dX11_areDigits_48 : decode cX11_areDigits 48 = .ok (.goto (-27), 3) := by decide +kernel
theorem dX11_areDigits_51 : decode cX11_areDigits 51 = .ok (.iconst 1, 1) := by decide +kernel
theorem dX11_areDigits_52 : decode cX11_areDigits 52 = .ok (.ireturn, 1) := by decide +kernel
theorem dX11_areClaims_0 : decode cX11_areClaims 0 = .ok (.iload_n 0, 1) := by decide +kernel
theorem dX11_areClaims_1 : decode cX11_areClaims 1 = .ok (.i2l, 1) := by decide +kernel
theorem dX11_areClaims_2 : decode cX11_areClaims 2 = .ok (.lconst 0, 1) := by decide +kernel
theorem dX11_areClaims_3 : decode cX11_areClaims 3 = .ok (.ldc2_w 198, 3) := by decide +kernel
theorem dX11_areClaims_6 : decode cX11_areClaims 6 = .ok (.invokestatic 169, 3) := by decide +kernel
theorem dX11_areClaims_9 : decode cX11_areClaims 9 = .ok (.ifCond .eq 45, 3) := by decide +kernel
theorem dX11_areClaims_12 : decode cX11_areClaims 12 = .ok (.iload_n 1, 1) := by decide +kernel
theorem dX11_areClaims_13 : decode cX11_areClaims 13 = .ok (.i2l, 1) := by decide +kernel
theorem dX11_areClaims_14 : decode cX11_areClaims 14 = .ok (.lconst 0, 1) := by decide +kernel
theorem dX11_areClaims_15 : decode cX11_areClaims 15 = .ok (.ldc2_w 323, 3) := by decide +kernel
theorem dX11_areClaims_18 : decode cX11_areClaims 18 = .ok (.invokestatic 169, 3) := by decide +kernel
theorem dX11_areClaims_21 : decode cX11_areClaims 21 = .ok (.ifCond .eq 33, 3) := by decide +kernel
theorem dX11_areClaims_24 : decode cX11_areClaims 24 = .ok (.iload 4, 2) := by decide +kernel
theorem dX11_areClaims_26 : decode cX11_areClaims 26 = .ok (.i2l, 1) := by decide +kernel
theorem dX11_areClaims_27 : decode cX11_areClaims 27 = .ok (.ldc2_w 198, 3) := by decide +kernel
theorem dX11_areClaims_30 : decode cX11_areClaims 30 = .ok (.ldc2_w 378, 3) := by decide +kernel
theorem dX11_areClaims_33 : decode cX11_areClaims 33 = .ok (.invokestatic 169, 3) := by decide +kernel
theorem dX11_areClaims_36 : decode cX11_areClaims 36 = .ok (.ifCond .eq 18, 3) := by decide +kernel
theorem dX11_areClaims_39 : decode cX11_areClaims 39 = .ok (.lload_n 2, 1) := by decide +kernel
theorem dX11_areClaims_40 : decode cX11_areClaims 40 = .ok (.iload 4, 2) := by decide +kernel
theorem dX11_areClaims_42 : decode cX11_areClaims 42 = .ok (.iload 5, 2) := by decide +kernel
theorem dX11_areClaims_44 : decode cX11_areClaims 44 = .ok (.invokestatic 448, 3) := by decide +kernel
theorem dX11_areClaims_47 : decode cX11_areClaims 47 = .ok (.ifCond .eq 7, 3) := by decide +kernel
theorem dX11_areClaims_50 : decode cX11_areClaims 50 = .ok (.iconst 1, 1) := by decide +kernel
theorem dX11_areClaims_51 : decode cX11_areClaims 51 = .ok (.goto 4, 3) := by decide +kernel
theorem dX11_areClaims_54 : decode cX11_areClaims 54 = .ok (.iconst 0, 1) := by decide +kernel
theorem dX11_areClaims_55 : decode cX11_areClaims 55 = .ok (.ireturn, 1) := by decide +kernel
theorem dX11_getsOne_0 : decode cX11_getsOne 0 = .ok (.iconst 0, 1) := by decide +kernel
theorem dX11_getsOne_1 : decode cX11_getsOne 1 = .ok (.istore 7, 2) := by decide +kernel
theorem dX11_getsOne_3 : decode cX11_getsOne 3 = .ok (.iload 7, 2) := by decide +kernel
theorem dX11_getsOne_5 : decode cX11_getsOne 5 = .ok (.iload 5, 2) := by decide +kernel
theorem dX11_getsOne_7 : decode cX11_getsOne 7 = .ok (.if_icmp .ge 26, 3) := by decide +kernel
theorem dX11_getsOne_10 : decode cX11_getsOne 10 = .ok (.aload_n 0, 1) := by decide +kernel
theorem dX11_getsOne_11 : decode cX11_getsOne 11 = .ok (.getfield 71, 3) := by decide +kernel
theorem dX11_getsOne_14 : decode cX11_getsOne 14 = .ok (.iload 7, 2) := by decide +kernel
theorem dX11_getsOne_16 : decode cX11_getsOne 16 = .ok (.lload_n 3, 1) := by decide +kernel
theorem dX11_getsOne_17 : decode cX11_getsOne 17 = .ok (.iconst 4, 1) := by decide +kernel
theorem dX11_getsOne_18 : decode cX11_getsOne 18 = .ok (.iload 7, 2) := by decide +kernel
theorem dX11_getsOne_20 : decode cX11_getsOne 20 = .ok (.imul, 1) := by decide +kernel
theorem dX11_getsOne_21 : decode cX11_getsOne 21 = .ok (.lshr, 1) := by decide +kernel
theorem dX11_getsOne_22 : decode cX11_getsOne 22 = .ok (.ldc2_w 446, 3) := by decide +kernel
theorem dX11_getsOne_25 : decode cX11_getsOne 25 = .ok (.land, 1) := by decide +kernel
theorem dX11_getsOne_26 : decode cX11_getsOne 26 = .ok (.lastore, 1) := by decide +kernel
theorem dX11_getsOne_27 : decode cX11_getsOne 27 = .ok (.iinc 7 1, 3) := by decide +kernel
theorem dX11_getsOne_30 : decode cX11_getsOne 30 = .ok (.goto (-27), 3) := by decide +kernel
theorem dX11_getsOne_33 : decode cX11_getsOne 33 = .ok (.aload_n 0, 1) := by decide +kernel
theorem dX11_getsOne_34 : decode cX11_getsOne 34 = .ok (.iload_n 1, 1) := by decide +kernel
theorem dX11_getsOne_35 : decode cX11_getsOne 35 = .ok (.iload_n 2, 1) := by decide +kernel
theorem dX11_getsOne_36 : decode cX11_getsOne 36 = .ok (.i2l, 1) := by decide +kernel
theorem dX11_getsOne_37 : decode cX11_getsOne 37 = .ok (.iload 5, 2) := by decide +kernel
theorem dX11_getsOne_39 : decode cX11_getsOne 39 = .ok (.invokevirtual 235, 3) := by decide +kernel
theorem dX11_getsOne_42 : decode cX11_getsOne 42 = .ok (.aload_n 0, 1) := by decide +kernel
theorem dX11_getsOne_43 : decode cX11_getsOne 43 = .ok (.getfield 74, 3) := by decide +kernel
theorem dX11_getsOne_46 : decode cX11_getsOne 46 = .ok (.iload 6, 2) := by decide +kernel
theorem dX11_getsOne_48 : decode cX11_getsOne 48 = .ok (.laload, 1) := by decide +kernel
theorem dX11_getsOne_49 : decode cX11_getsOne 49 = .ok (.lreturn, 1) := by decide +kernel
theorem dX11_gets_0 : decode cX11_gets 0 = .ok (.iload 6, 2) := by decide +kernel
theorem dX11_gets_2 : decode cX11_gets 2 = .ok (.ifCond .lt 10, 3) := by decide +kernel
theorem dX11_gets_5 : decode cX11_gets 5 = .ok (.iload 6, 2) := by decide +kernel
theorem dX11_gets_7 : decode cX11_gets 7 = .ok (.iload 5, 2) := by decide +kernel
theorem dX11_gets_9 : decode cX11_gets 9 = .ok (.if_icmp .lt 5, 3) := by decide +kernel
theorem dX11_gets_12 : decode cX11_gets 12 = .ok (.iconst (-1), 1) := by decide +kernel
theorem dX11_gets_13 : decode cX11_gets 13 = .ok (.ireturn, 1) := by decide +kernel
theorem dX11_gets_14 : decode cX11_gets 14 = .ok (.iload_n 1, 1) := by decide +kernel
theorem dX11_gets_15 : decode cX11_gets 15 = .ok (.iload_n 2, 1) := by decide +kernel
theorem dX11_gets_16 : decode cX11_gets 16 = .ok (.lload_n 3, 1) := by decide +kernel
theorem dX11_gets_17 : decode cX11_gets 17 = .ok (.iload 5, 2) := by decide +kernel
theorem dX11_gets_19 : decode cX11_gets 19 = .ok (.bipush 12, 2) := by decide +kernel
theorem dX11_gets_21 : decode cX11_gets 21 = .ok (.invokestatic 452, 3) := by decide +kernel
theorem dX11_gets_24 : decode cX11_gets 24 = .ok (.ifCond .eq 18, 3) := by decide +kernel
theorem dX11_gets_27 : decode cX11_gets 27 = .ok (.aload_n 0, 1) := by decide +kernel
theorem dX11_gets_28 : decode cX11_gets 28 = .ok (.iload_n 1, 1) := by decide +kernel
theorem dX11_gets_29 : decode cX11_gets 29 = .ok (.iload_n 2, 1) := by decide +kernel
theorem dX11_gets_30 : decode cX11_gets 30 = .ok (.lload_n 3, 1) := by decide +kernel
theorem dX11_gets_31 : decode cX11_gets 31 = .ok (.iload 5, 2) := by decide +kernel
theorem dX11_gets_33 : decode cX11_gets 33 = .ok (.iload 6, 2) := by decide +kernel
theorem dX11_gets_35 : decode cX11_gets 35 = .ok (.invokevirtual 456, 3) := by decide +kernel
theorem dX11_gets_38 : decode cX11_gets 38 = .ok (.l2i, 1) := by decide +kernel
theorem dX11_gets_39 : decode cX11_gets 39 = .ok (.goto 5, 3) := by decide +kernel
theorem dX11_gets_42 : decode cX11_gets 42 = .ok (.bipush (-2), 2) := by decide +kernel
theorem dX11_gets_44 : decode cX11_gets 44 = .ok (.ireturn, 1) := by decide +kernel
theorem dX11_isCalm_0 : decode cX11_isCalm 0 = .ok (.iconst 0, 1) := by decide +kernel
theorem dX11_isCalm_1 : decode cX11_isCalm 1 = .ok (.istore 8, 2) := by decide +kernel
theorem dX11_isCalm_3 : decode cX11_isCalm 3 = .ok (.iload 8, 2) := by decide +kernel
theorem dX11_isCalm_5 : decode cX11_isCalm 5 = .ok (.iload 7, 2) := by decide +kernel
theorem dX11_isCalm_7 : decode cX11_isCalm 7 = .ok (.if_icmp .ge 113, 3) := by decide +kernel
theorem dX11_isCalm_10 : decode cX11_isCalm 10 = .ok (.lload_n 3, 1) := by decide +kernel
theorem dX11_isCalm_11 : decode cX11_isCalm 11 = .ok (.iconst 4, 1) := by decide +kernel
theorem dX11_isCalm_12 : decode cX11_isCalm 12 = .ok (.iload 8, 2) := by decide +kernel
theorem dX11_isCalm_14 : decode cX11_isCalm 14 = .ok (.imul, 1) := by decide +kernel
theorem dX11_isCalm_15 : decode cX11_isCalm 15 = .ok (.lshr, 1) := by decide +kernel
theorem dX11_isCalm_16 : decode cX11_isCalm 16 = .ok (.ldc2_w 446, 3) := by decide +kernel
theorem dX11_isCalm_19 : decode cX11_isCalm 19 = .ok (.land, 1) := by decide +kernel
theorem dX11_isCalm_20 : decode cX11_isCalm 20 = .ok (.lstore 9, 2) := by decide +kernel
theorem dX11_isCalm_22 : decode cX11_isCalm 22 = .ok (.aload_n 0, 1) := by decide +kernel
theorem dX11_isCalm_23 : decode cX11_isCalm 23 = .ok (.iload_n 1, 1) := by decide +kernel
theorem dX11_isCalm_24 : decode cX11_isCalm 24 = .ok (.iload_n 2, 1) := by decide +kernel
theorem dX11_isCalm_25 : decode cX11_isCalm 25 = .ok (.lload 5, 2) := by decide +kernel
theorem dX11_isCalm_27 : decode cX11_isCalm 27 = .ok (.iload 7, 2) := by decide +kernel
theorem dX11_isCalm_29 : decode cX11_isCalm 29 = .ok (.iload 8, 2) := by decide +kernel
theorem dX11_isCalm_31 : decode cX11_isCalm 31 = .ok (.invokevirtual 456, 3) := by decide +kernel
theorem dX11_isCalm_34 : decode cX11_isCalm 34 = .ok (.lload 9, 2) := by decide +kernel
theorem dX11_isCalm_36 : decode cX11_isCalm 36 = .ok (.lsub, 1) := by decide +kernel
theorem dX11_isCalm_37 : decode cX11_isCalm 37 = .ok (.invokestatic 384, 3) := by decide +kernel
theorem dX11_isCalm_40 : decode cX11_isCalm 40 = .ok (.lstore 11, 2) := by decide +kernel
theorem dX11_isCalm_42 : decode cX11_isCalm 42 = .ok (.lconst 0, 1) := by decide +kernel
theorem dX11_isCalm_43 : decode cX11_isCalm 43 = .ok (.lstore 13, 2) := by decide +kernel
theorem dX11_isCalm_45 : decode cX11_isCalm 45 = .ok (.lload 13, 2) := by decide +kernel
theorem dX11_isCalm_47 : decode cX11_isCalm 47 = .ok (.ldc2_w 210, 3) := by decide +kernel
theorem dX11_isCalm_50 : decode cX11_isCalm 50 = .ok (.lcmp, 1) := by decide +kernel
theorem dX11_isCalm_51 : decode cX11_isCalm 51 = .ok (.ifCond .gt 63, 3) := by decide +kernel
theorem dX11_isCalm_54 : decode cX11_isCalm 54 = .ok (.lload 5, 2) := by decide +kernel
theorem dX11_isCalm_56 : decode cX11_isCalm 56 = .ok (.ldc2_w 446, 3) := by decide +kernel
theorem dX11_isCalm_59 : decode cX11_isCalm 59 = .ok (.iconst 4, 1) := by decide +kernel
theorem dX11_isCalm_60 : decode cX11_isCalm 60 = .ok (.iload 8, 2) := by decide +kernel
theorem dX11_isCalm_62 : decode cX11_isCalm 62 = .ok (.imul, 1) := by decide +kernel
theorem dX11_isCalm_63 : decode cX11_isCalm 63 = .ok (.lshl, 1) := by decide +kernel
theorem dX11_isCalm_64 : decode cX11_isCalm 64 = .ok (.ldc2_w 193, 3) := by decide +kernel
theorem dX11_isCalm_67 : decode cX11_isCalm 67 = .ok (.lxor, 1) := by decide +kernel
theorem dX11_isCalm_68 : decode cX11_isCalm 68 = .ok (.land, 1) := by decide +kernel
theorem dX11_isCalm_69 : decode cX11_isCalm 69 = .ok (.lload 13, 2) := by decide +kernel
theorem dX11_isCalm_71 : decode cX11_isCalm 71 = .ok (.iconst 4, 1) := by decide +kernel
theorem dX11_isCalm_72 : decode cX11_isCalm 72 = .ok (.iload 8, 2) := by decide +kernel
theorem dX11_isCalm_74 : decode cX11_isCalm 74 = .ok (.imul, 1) := by decide +kernel
theorem dX11_isCalm_75 : decode cX11_isCalm 75 = .ok (.lshl, 1) := by decide +kernel
theorem dX11_isCalm_76 : decode cX11_isCalm 76 = .ok (.lor, 1) := by decide +kernel
theorem dX11_isCalm_77 : decode cX11_isCalm 77 = .ok (.lstore 15, 2) := by decide +kernel
theorem dX11_isCalm_79 : decode cX11_isCalm 79 = .ok (.aload_n 0, 1) := by decide +kernel
theorem dX11_isCalm_80 : decode cX11_isCalm 80 = .ok (.iload_n 1, 1) := by decide +kernel
theorem dX11_isCalm_81 : decode cX11_isCalm 81 = .ok (.iload_n 2, 1) := by decide +kernel
theorem dX11_isCalm_82 : decode cX11_isCalm 82 = .ok (.lload 15, 2) := by decide +kernel
theorem dX11_isCalm_84 : decode cX11_isCalm 84 = .ok (.iload 7, 2) := by decide +kernel
theorem dX11_isCalm_86 : decode cX11_isCalm 86 = .ok (.iload 8, 2) := by decide +kernel
theorem dX11_isCalm_88 : decode cX11_isCalm 88 = .ok (.invokevirtual 456, 3) := by decide +kernel
theorem dX11_isCalm_91 : decode cX11_isCalm 91 = .ok (.lload 9, 2) := by decide +kernel
theorem dX11_isCalm_93 : decode cX11_isCalm 93 = .ok (.lsub, 1) := by decide +kernel
theorem dX11_isCalm_94 : decode cX11_isCalm 94 = .ok (.invokestatic 384, 3) := by decide +kernel
theorem dX11_isCalm_97 : decode cX11_isCalm 97 = .ok (.lload 11, 2) := by decide +kernel
theorem dX11_isCalm_99 : decode cX11_isCalm 99 = .ok (.lcmp, 1) := by decide +kernel
theorem dX11_isCalm_100 : decode cX11_isCalm 100 = .ok (.ifCond .ge 5, 3) := by decide +kernel
theorem dX11_isCalm_103 : decode cX11_isCalm 103 = .ok (.iconst 0, 1) := by decide +kernel
theorem dX11_isCalm_104 : decode cX11_isCalm 104 = .ok (.ireturn, 1) := by decide +kernel
theorem dX11_isCalm_105 : decode cX11_isCalm 105 = .ok (.lload 13, 2) := by decide +kernel
theorem dX11_isCalm_107 : decode cX11_isCalm 107 = .ok (.lconst 1, 1) := by decide +kernel
theorem dX11_isCalm_108 : decode cX11_isCalm 108 = .ok (.ladd, 1) := by decide +kernel
theorem dX11_isCalm_109 : decode cX11_isCalm 109 = .ok (.lstore 13, 2) := by decide +kernel
theorem dX11_isCalm_111 : decode cX11_isCalm 111 = .ok (.goto (-66), 3) := by decide +kernel
theorem dX11_isCalm_114 : decode cX11_isCalm 114 = .ok (.iinc 8 1, 3) := by decide +kernel
theorem dX11_isCalm_117 : decode cX11_isCalm 117 = .ok (.goto (-114), 3) := by decide +kernel
theorem dX11_isCalm_120 : decode cX11_isCalm 120 = .ok (.iconst 1, 1) := by decide +kernel
theorem dX11_isCalm_121 : decode cX11_isCalm 121 = .ok (.ireturn, 1) := by decide +kernel
theorem dX11_calm_0 : decode cX11_calm 0 = .ok (.iload_n 1, 1) := by decide +kernel
theorem dX11_calm_1 : decode cX11_calm 1 = .ok (.iload_n 2, 1) := by decide +kernel
theorem dX11_calm_2 : decode cX11_calm 2 = .ok (.lload 5, 2) := by decide +kernel
theorem dX11_calm_4 : decode cX11_calm 4 = .ok (.iload 7, 2) := by decide +kernel
theorem dX11_calm_6 : decode cX11_calm 6 = .ok (.bipush 12, 2) := by decide +kernel
theorem dX11_calm_8 : decode cX11_calm 8 = .ok (.invokestatic 452, 3) := by decide +kernel
theorem dX11_calm_11 : decode cX11_calm 11 = .ok (.ifCond .eq 14, 3) := by decide +kernel
theorem dX11_calm_14 : decode cX11_calm 14 = .ok (.lload_n 3, 1) := by decide +kernel
theorem dX11_calm_15 : decode cX11_calm 15 = .ok (.iload 7, 2) := by decide +kernel
theorem dX11_calm_17 : decode cX11_calm 17 = .ok (.bipush 9, 2) := by decide +kernel
theorem dX11_calm_19 : decode cX11_calm 19 = .ok (.invokestatic 448, 3) := by decide +kernel
theorem dX11_calm_22 : decode cX11_calm 22 = .ok (.ifCond .ne 6, 3) := by decide +kernel
theorem dX11_calm_25 : decode cX11_calm 25 = .ok (.bipush (-2), 2) := by decide +kernel
theorem dX11_calm_27 : decode cX11_calm 27 = .ok (.ireturn, 1) := by decide +kernel
theorem dX11_calm_28 : decode cX11_calm 28 = .ok (.aload_n 0, 1) := by decide +kernel
theorem dX11_calm_29 : decode cX11_calm 29 = .ok (.iload_n 1, 1) := by decide +kernel
theorem dX11_calm_30 : decode cX11_calm 30 = .ok (.iload_n 2, 1) := by decide +kernel
theorem dX11_calm_31 : decode cX11_calm 31 = .ok (.lload_n 3, 1) := by decide +kernel
theorem dX11_calm_32 : decode cX11_calm 32 = .ok (.lload 5, 2) := by decide +kernel
theorem dX11_calm_34 : decode cX11_calm 34 = .ok (.iload 7, 2) := by decide +kernel
theorem dX11_calm_36 : decode cX11_calm 36 = .ok (.invokevirtual 460, 3) := by decide +kernel
theorem dX11_calm_39 : decode cX11_calm 39 = .ok (.ifCond .eq 7, 3) := by decide +kernel
theorem dX11_calm_42 : decode cX11_calm 42 = .ok (.iconst 1, 1) := by decide +kernel
theorem dX11_calm_43 : decode cX11_calm 43 = .ok (.goto 4, 3) := by decide +kernel
theorem dX11_calm_46 : decode cX11_calm 46 = .ok (.iconst 0, 1) := by decide +kernel
theorem dX11_calm_47 : decode cX11_calm 47 = .ok (.ireturn, 1) := by decide +kernel
theorem dX11_calmest_0 : decode cX11_calmest 0 = .ok (.iload_n 1, 1) := by decide +kernel
theorem dX11_calmest_1 : decode cX11_calmest 1 = .ok (.iload_n 2, 1) := by decide +kernel
theorem dX11_calmest_2 : decode cX11_calmest 2 = .ok (.lload_n 3, 1) := by decide +kernel
theorem dX11_calmest_3 : decode cX11_calmest 3 = .ok (.iload 5, 2) := by decide +kernel
theorem dX11_calmest_5 : decode cX11_calmest 5 = .ok (.bipush 9, 2) := by decide +kernel
theorem dX11_calmest_7 : decode cX11_calmest 7 = .ok (.invokestatic 452, 3) := by decide +kernel
theorem dX11_calmest_10 : decode cX11_calmest 10 = .ok (.ifCond .eq 9, 3) := by decide +kernel
theorem dX11_calmest_13 : decode cX11_calmest 13 = .ok (.iload 5, 2) := by decide +kernel
theorem dX11_calmest_15 : decode cX11_calmest 15 = .ok (.iconst 4, 1) := by decide +kernel
theorem dX11_calmest_16 : decode cX11_calmest 16 = .ok (.if_icmp .ne 7, 3) := by decide +kernel
theorem dX11_calmest_19 : decode cX11_calmest 19 = .ok (.ldc2_w 429, 3) := by decide +kernel
theorem dX11_calmest_22 : decode cX11_calmest 22 = .ok (.lreturn, 1) := by decide +kernel
theorem dX11_calmest_23 : decode cX11_calmest 23 = .ok (.iload 5, 2) := by decide +kernel
theorem dX11_calmest_25 : decode cX11_calmest 25 = .ok (.iconst 2, 1) := by decide +kernel
theorem dX11_calmest_26 : decode cX11_calmest 26 = .ok (.if_icmp .ne 9, 3) := by decide +kernel
theorem dX11_calmest_29 : decode cX11_calmest 29 = .ok (.sipush 169, 3) := by decide +kernel
theorem dX11_calmest_32 : decode cX11_calmest 32 = .ok (.goto 6, 3) := by decide +kernel
theorem dX11_calmest_35 : decode cX11_calmest 35 = .ok (.sipush 2197, 3) := by decide +kernel
theorem dX11_calmest_38 : decode cX11_calmest 38 = .ok (.istore 6, 2) := by decide +kernel
theorem dX11_calmest_40 : decode cX11_calmest 40 = .ok (.iconst 0, 1) := by decide +kernel
theorem dX11_calmest_41 : decode cX11_calmest 41 = .ok (.istore 7, 2) := by decide +kernel
theorem dX11_calmest_43 : decode cX11_calmest 43 = .ok (.iload 7, 2) := by decide +kernel
theorem dX11_calmest_45 : decode cX11_calmest 45 = .ok (.iload 6, 2) := by decide +kernel
theorem dX11_calmest_47 : decode cX11_calmest 47 = .ok (.if_icmp .ge 73, 3) := by decide +kernel
theorem dX11_calmest_50 : decode cX11_calmest 50 = .ok (.lconst 0, 1) := by decide +kernel
theorem dX11_calmest_51 : decode cX11_calmest 51 = .ok (.lstore 8, 2) := by decide +kernel
theorem dX11_calmest_53 : decode cX11_calmest 53 = .ok (.iload 7, 2) := by decide +kernel
theorem dX11_calmest_55 : decode cX11_calmest 55 = .ok (.istore 10, 2) := by decide +kernel
theorem dX11_calmest_57 : decode cX11_calmest 57 = .ok (.iload 5, 2) := by decide +kernel
theorem dX11_calmest_59 : decode cX11_calmest 59 = .ok (.iconst 1, 1) := by decide +kernel
theorem dX11_calmest_60 : decode cX11_calmest 60 = .ok (.isub, 1) := by decide +kernel
theorem dX11_calmest_61 : decode cX11_calmest 61 = .ok (.istore 11, 2) := by decide +kernel
theorem dX11_calmest_63 : decode cX11_calmest 63 = .ok (.iload 11, 2) := by decide +kernel
theorem dX11_calmest_65 : decode cX11_calmest 65 = .ok (.ifCond .lt 32, 3) := by decide +kernel
theorem dX11_calmest_68 : decode cX11_calmest 68 = .ok (.lload 8, 2) := by decide +kernel
theorem dX11_calmest_70 : decode cX11_calmest 70 = .ok (.iload 10, 2) := by decide +kernel
theorem dX11_calmest_72 : decode cX11_calmest 72 = .ok (.bipush 13, 2) := by decide +kernel
theorem dX11_calmest_74 : decode cX11_calmest 74 = .ok (.irem, 1) := by decide +kernel
theorem dX11_calmest_75 : decode cX11_calmest 75 = .ok (.i2l, 1) := by decide +kernel
theorem dX11_calmest_76 : decode cX11_calmest 76 = .ok (.iconst 4, 1) := by decide +kernel
theorem dX11_calmest_77 : decode cX11_calmest 77 = .ok (.iload 11, 2) := by decide +kernel
theorem dX11_calmest_79 : decode cX11_calmest 79 = .ok (.imul, 1) := by decide +kernel
theorem dX11_calmest_80 : decode cX11_calmest 80 = .ok (.lshl, 1) := by decide +kernel
theorem dX11_calmest_81 : decode cX11_calmest 81 = .ok (.lor, 1) := by decide +kernel
theorem dX11_calmest_82 : decode cX11_calmest 82 = .ok (.lstore 8, 2) := by decide +kernel
theorem dX11_calmest_84 : decode cX11_calmest 84 = .ok (.iload 10, 2) := by decide +kernel
theorem dX11_calmest_86 : decode cX11_calmest 86 = .ok (.bipush 13, 2) := by decide +kernel
theorem dX11_calmest_88 : decode cX11_calmest 88 = .ok (.idiv, 1) := by decide +kernel
theorem dX11_calmest_89 : decode cX11_calmest 89 = .ok (.istore 10, 2) := by decide +kernel
theorem dX11_calmest_91 : decode cX11_calmest 91 = .ok (.iinc 11 (-1), 3) := by decide +kernel
theorem dX11_calmest_94 : decode cX11_calmest 94 = .ok (.goto (-31), 3) := by decide +kernel
theorem dX11_calmest_97 : decode cX11_calmest 97 = .ok (.aload_n 0, 1) := by decide +kernel
theorem dX11_calmest_98 : decode cX11_calmest 98 = .ok (.iload_n 1, 1) := by decide +kernel
theorem dX11_calmest_99 : decode cX11_calmest 99 = .ok (.iload_n 2, 1) := by decide +kernel
theorem dX11_calmest_100 : decode cX11_calmest 100 = .ok (.lload_n 3, 1) := by decide +kernel
theorem dX11_calmest_101 : decode cX11_calmest 101 = .ok (.lload 8, 2) := by decide +kernel
theorem dX11_calmest_103 : decode cX11_calmest 103 = .ok (.iload 5, 2) := by decide +kernel
theorem dX11_calmest_105 : decode cX11_calmest 105 = .ok (.invokevirtual 460, 3) := by decide +kernel
theorem dX11_calmest_108 : decode cX11_calmest 108 = .ok (.ifCond .eq 6, 3) := by decide +kernel
theorem dX11_calmest_111 : decode cX11_calmest 111 = .ok (.lload 8, 2) := by decide +kernel
theorem dX11_calmest_113 : decode cX11_calmest 113 = .ok (.lreturn, 1) := by decide +kernel
theorem dX11_calmest_114 : decode cX11_calmest 114 = .ok (.iinc 7 1, 3) := by decide +kernel
theorem dX11_calmest_117 : decode cX11_calmest 117 = .ok (.goto (-74), 3) := by decide +kernel
theorem dX11_calmest_120 : decode cX11_calmest 120 = .ok (.ldc2_w 193, 3) := by decide +kernel
theorem dX11_calmest_123 : decode cX11_calmest 123 = .ok (.lreturn, 1) := by decide +kernel
theorem dX11_count_0 : decode cX11_count 0 = .ok (.iconst 0, 1) := by decide +kernel
theorem dX11_count_1 : decode cX11_count 1 = .ok (.istore_n 2, 1) := by decide +kernel
theorem dX11_count_2 : decode cX11_count 2 = .ok (.iload_n 1, 1) := by decide +kernel
theorem dX11_count_3 : decode cX11_count 3 = .ok (.tableswitch 98 0 5 #[37, 42, 47, 52, 57, 62], 37) := by decide +kernel
theorem dX11_count_40 : decode cX11_count 40 = .ok (.aload_n 0, 1) := by decide +kernel
theorem dX11_count_41 : decode cX11_count 41 = .ok (.getfield 166, 3) := by decide +kernel
theorem dX11_count_44 : decode cX11_count 44 = .ok (.ireturn, 1) := by decide +kernel
theorem dX11_count_45 : decode cX11_count 45 = .ok (.aload_n 0, 1) := by decide +kernel
theorem dX11_count_46 : decode cX11_count 46 = .ok (.getfield 195, 3) := by decide +kernel
theorem dX11_count_49 : decode cX11_count 49 = .ok (.ireturn, 1) := by decide +kernel
theorem dX11_count_50 : decode cX11_count 50 = .ok (.aload_n 0, 1) := by decide +kernel
theorem dX11_count_51 : decode cX11_count 51 = .ok (.getfield 183, 3) := by decide +kernel
theorem dX11_count_54 : decode cX11_count 54 = .ok (.ireturn, 1) := by decide +kernel
theorem dX11_count_55 : decode cX11_count 55 = .ok (.aload_n 0, 1) := by decide +kernel
theorem dX11_count_56 : decode cX11_count 56 = .ok (.getfield 200, 3) := by decide +kernel
theorem dX11_count_59 : decode cX11_count 59 = .ok (.ireturn, 1) := by decide +kernel
theorem dX11_count_60 : decode cX11_count 60 = .ok (.aload_n 0, 1) := by decide +kernel
theorem dX11_count_61 : decode cX11_count 61 = .ok (.getfield 254, 3) := by decide +kernel
theorem dX11_count_64 : decode cX11_count 64 = .ok (.ireturn, 1) := by decide +kernel
theorem dX11_count_65 : decode cX11_count 65 = .ok (.iconst 0, 1) := by decide +kernel
theorem dX11_count_66 : decode cX11_count 66 = .ok (.istore_n 3, 1) := by decide +kernel
theorem dX11_count_67 : decode cX11_count 67 = .ok (.iload_n 3, 1) := by decide +kernel
theorem dX11_count_68 : decode cX11_count 68 = .ok (.aload_n 0, 1) := by decide +kernel
theorem dX11_count_69 : decode cX11_count 69 = .ok (.getfield 166, 3) := by decide +kernel
theorem dX11_count_72 : decode cX11_count 72 = .ok (.if_icmp .ge 27, 3) := by decide +kernel
theorem dX11_count_75 : decode cX11_count 75 = .ok (.iload_n 2, 1) := by decide +kernel
theorem dX11_count_76 : decode cX11_count 76 = .ok (.aload_n 0, 1) := by decide +kernel
theorem dX11_count_77 : decode cX11_count 77 = .ok (.getfield 7, 3) := by decide +kernel
theorem dX11_count_80 : decode cX11_count 80 = .ok (.iload_n 3, 1) := by decide +kernel
theorem dX11_count_81 : decode cX11_count 81 = .ok (.iaload, 1) := by decide +kernel
theorem dX11_count_82 : decode cX11_count 82 = .ok (.iconst 3, 1) := by decide +kernel
theorem dX11_count_83 : decode cX11_count 83 = .ok (.if_icmp .ne 7, 3) := by decide +kernel
theorem dX11_count_86 : decode cX11_count 86 = .ok (.iconst 1, 1) := by decide +kernel
theorem dX11_count_87 : decode cX11_count 87 = .ok (.goto 4, 3) := by decide +kernel
theorem dX11_count_90 : decode cX11_count 90 = .ok (.iconst 0, 1) := by decide +kernel
theorem dX11_count_91 : decode cX11_count 91 = .ok (.iadd, 1) := by decide +kernel
theorem dX11_count_92 : decode cX11_count 92 = .ok (.istore_n 2, 1) := by decide +kernel
theorem dX11_count_93 : decode cX11_count 93 = .ok (.iinc 3 1, 3) := by decide +kernel
theorem dX11_count_96 : decode cX11_count 96 = .ok (.goto (-29), 3) := by decide +kernel
theorem dX11_count_99 : decode cX11_count 99 = .ok (.iload_n 2, 1) := by decide +kernel
theorem dX11_count_100 : decode cX11_count 100 = .ok (.ireturn, 1) := by decide +kernel
theorem dX11_count_101 : decode cX11_count 101 = .ok (.iconst (-1), 1) := by decide +kernel
theorem dX11_count_102 : decode cX11_count 102 = .ok (.ireturn, 1) := by decide +kernel
