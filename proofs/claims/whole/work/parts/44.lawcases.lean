/-! The law's instructions (printed by wip/tools/gen_law.py). -/
theorem dl_0 : decode code 0 = .ok (.new 7, 3) := by decide +kernel
theorem dl_3 : decode code 3 = .ok (.dup, 1) := by decide +kernel
theorem dl_4 : decode code 4 = .ok (.aload_n 0, 1) := by decide +kernel
theorem dl_5 : decode code 5 = .ok (.iconst 0, 1) := by decide +kernel
theorem dl_6 : decode code 6 = .ok (.invokestatic 9, 3) := by decide +kernel
theorem dl_9 : decode code 9 = .ok (.aload_n 0, 1) := by decide +kernel
theorem dl_10 : decode code 10 = .ok (.iconst 1, 1) := by decide +kernel
theorem dl_11 : decode code 11 = .ok (.invokestatic 9, 3) := by decide +kernel
theorem dl_14 : decode code 14 = .ok (.invokespecial 15, 3) := by decide +kernel
theorem dl_17 : decode code 17 = .ok (.astore_n 1, 1) := by decide +kernel
theorem dl_18 : decode code 18 = .ok (.new 18, 3) := by decide +kernel
theorem dl_21 : decode code 21 = .ok (.dup, 1) := by decide +kernel
theorem dl_22 : decode code 22 = .ok (.aload_n 0, 1) := by decide +kernel
theorem dl_23 : decode code 23 = .ok (.iconst 0, 1) := by decide +kernel
theorem dl_24 : decode code 24 = .ok (.invokestatic 9, 3) := by decide +kernel
theorem dl_27 : decode code 27 = .ok (.aload_n 0, 1) := by decide +kernel
theorem dl_28 : decode code 28 = .ok (.iconst 1, 1) := by decide +kernel
theorem dl_29 : decode code 29 = .ok (.invokestatic 9, 3) := by decide +kernel
theorem dl_32 : decode code 32 = .ok (.invokespecial 20, 3) := by decide +kernel
theorem dl_35 : decode code 35 = .ok (.astore_n 2, 1) := by decide +kernel
theorem dl_36 : decode code 36 = .ok (.iconst 2, 1) := by decide +kernel
theorem dl_37 : decode code 37 = .ok (.istore_n 3, 1) := by decide +kernel
theorem dl_38 : decode code 38 = .ok (.iload_n 3, 1) := by decide +kernel
theorem dl_39 : decode code 39 = .ok (.aload_n 0, 1) := by decide +kernel
theorem dl_40 : decode code 40 = .ok (.arraylength, 1) := by decide +kernel
theorem dl_41 : decode code 41 = .ok (.iconst 5, 1) := by decide +kernel
theorem dl_42 : decode code 42 = .ok (.isub, 1) := by decide +kernel
theorem dl_43 : decode code 43 = .ok (.if_icmp .gt 557, 3) := by decide +kernel
theorem dl_46 : decode code 46 = .ok (.aload_n 0, 1) := by decide +kernel
theorem dl_47 : decode code 47 = .ok (.iload_n 3, 1) := by decide +kernel
theorem dl_48 : decode code 48 = .ok (.iaload, 1) := by decide +kernel
theorem dl_49 : decode code 49 = .ok (.bipush 15, 2) := by decide +kernel
theorem dl_51 : decode code 51 = .ok (.iand, 1) := by decide +kernel
theorem dl_52 : decode code 52 = .ok (.tableswitch 542 0 13 #[72, 95, 138, 207, 250, 283, 332, 381, 414, 427, 450, 483, 496, 519], 72) := by decide +kernel
theorem dl_124 : decode code 124 = .ok (.aload_n 1, 1) := by decide +kernel
theorem dl_125 : decode code 125 = .ok (.aload_n 0, 1) := by decide +kernel
theorem dl_126 : decode code 126 = .ok (.iload_n 3, 1) := by decide +kernel
theorem dl_127 : decode code 127 = .ok (.iconst 1, 1) := by decide +kernel
theorem dl_128 : decode code 128 = .ok (.iadd, 1) := by decide +kernel
theorem dl_129 : decode code 129 = .ok (.iaload, 1) := by decide +kernel
theorem dl_130 : decode code 130 = .ok (.invokevirtual 21, 3) := by decide +kernel
theorem dl_133 : decode code 133 = .ok (.aload_n 2, 1) := by decide +kernel
theorem dl_134 : decode code 134 = .ok (.aload_n 0, 1) := by decide +kernel
theorem dl_135 : decode code 135 = .ok (.iload_n 3, 1) := by decide +kernel
theorem dl_136 : decode code 136 = .ok (.iconst 1, 1) := by decide +kernel
theorem dl_137 : decode code 137 = .ok (.iadd, 1) := by decide +kernel
theorem dl_138 : decode code 138 = .ok (.iaload, 1) := by decide +kernel
theorem dl_139 : decode code 139 = .ok (.invokevirtual 25, 3) := by decide +kernel
theorem dl_142 : decode code 142 = .ok (.if_icmp .eq 452, 3) := by decide +kernel
theorem dl_145 : decode code 145 = .ok (.iconst 0, 1) := by decide +kernel
theorem dl_146 : decode code 146 = .ok (.ireturn, 1) := by decide +kernel
theorem dl_147 : decode code 147 = .ok (.aload_n 1, 1) := by decide +kernel
theorem dl_148 : decode code 148 = .ok (.aload_n 0, 1) := by decide +kernel
theorem dl_149 : decode code 149 = .ok (.iload_n 3, 1) := by decide +kernel
theorem dl_150 : decode code 150 = .ok (.iconst 1, 1) := by decide +kernel
theorem dl_151 : decode code 151 = .ok (.iadd, 1) := by decide +kernel
theorem dl_152 : decode code 152 = .ok (.iaload, 1) := by decide +kernel
theorem dl_153 : decode code 153 = .ok (.aload_n 0, 1) := by decide +kernel
theorem dl_154 : decode code 154 = .ok (.iload_n 3, 1) := by decide +kernel
theorem dl_155 : decode code 155 = .ok (.iconst 2, 1) := by decide +kernel
theorem dl_156 : decode code 156 = .ok (.iadd, 1) := by decide +kernel
theorem dl_157 : decode code 157 = .ok (.iaload, 1) := by decide +kernel
theorem dl_158 : decode code 158 = .ok (.aload_n 0, 1) := by decide +kernel
theorem dl_159 : decode code 159 = .ok (.iload_n 3, 1) := by decide +kernel
theorem dl_160 : decode code 160 = .ok (.iconst 3, 1) := by decide +kernel
theorem dl_161 : decode code 161 = .ok (.iadd, 1) := by decide +kernel
theorem dl_162 : decode code 162 = .ok (.iaload, 1) := by decide +kernel
theorem dl_163 : decode code 163 = .ok (.invokevirtual 26, 3) := by decide +kernel
theorem dl_166 : decode code 166 = .ok (.aload_n 2, 1) := by decide +kernel
theorem dl_167 : decode code 167 = .ok (.aload_n 0, 1) := by decide +kernel
theorem dl_168 : decode code 168 = .ok (.iload_n 3, 1) := by decide +kernel
theorem dl_169 : decode code 169 = .ok (.iconst 1, 1) := by decide +kernel
theorem dl_170 : decode code 170 = .ok (.iadd, 1) := by decide +kernel
theorem dl_171 : decode code 171 = .ok (.iaload, 1) := by decide +kernel
theorem dl_172 : decode code 172 = .ok (.aload_n 0, 1) := by decide +kernel
theorem dl_173 : decode code 173 = .ok (.iload_n 3, 1) := by decide +kernel
theorem dl_174 : decode code 174 = .ok (.iconst 2, 1) := by decide +kernel
theorem dl_175 : decode code 175 = .ok (.iadd, 1) := by decide +kernel
theorem dl_176 : decode code 176 = .ok (.iaload, 1) := by decide +kernel
theorem dl_177 : decode code 177 = .ok (.aload_n 0, 1) := by decide +kernel
theorem dl_178 : decode code 178 = .ok (.iload_n 3, 1) := by decide +kernel
theorem dl_179 : decode code 179 = .ok (.iconst 3, 1) := by decide +kernel
theorem dl_180 : decode code 180 = .ok (.iadd, 1) := by decide +kernel
theorem dl_181 : decode code 181 = .ok (.iaload, 1) := by decide +kernel
theorem dl_182 : decode code 182 = .ok (.invokevirtual 30, 3) := by decide +kernel
theorem dl_185 : decode code 185 = .ok (.if_icmp .eq 409, 3) := by decide +kernel
theorem dl_188 : decode code 188 = .ok (.iconst 0, 1) := by decide +kernel
theorem dl_189 : decode code 189 = .ok (.ireturn, 1) := by decide +kernel
theorem dl_190 : decode code 190 = .ok (.aload_n 1, 1) := by decide +kernel
theorem dl_191 : decode code 191 = .ok (.aload_n 0, 1) := by decide +kernel
theorem dl_192 : decode code 192 = .ok (.iload_n 3, 1) := by decide +kernel
theorem dl_193 : decode code 193 = .ok (.iconst 1, 1) := by decide +kernel
theorem dl_194 : decode code 194 = .ok (.iadd, 1) := by decide +kernel
theorem dl_195 : decode code 195 = .ok (.iaload, 1) := by decide +kernel
theorem dl_196 : decode code 196 = .ok (.aload_n 0, 1) := by decide +kernel
theorem dl_197 : decode code 197 = .ok (.iload_n 3, 1) := by decide +kernel
theorem dl_198 : decode code 198 = .ok (.iconst 2, 1) := by decide +kernel
theorem dl_199 : decode code 199 = .ok (.iadd, 1) := by decide +kernel
theorem dl_200 : decode code 200 = .ok (.iaload, 1) := by decide +kernel
theorem dl_201 : decode code 201 = .ok (.ifCond .eq 7, 3) := by decide +kernel
theorem dl_204 : decode code 204 = .ok (.iconst 1, 1) := by decide +kernel
theorem dl_205 : decode code 205 = .ok (.goto 4, 3) := by decide +kernel
theorem dl_208 : decode code 208 = .ok (.iconst 0, 1) := by decide +kernel
theorem dl_209 : decode code 209 = .ok (.aload_n 0, 1) := by decide +kernel
theorem dl_210 : decode code 210 = .ok (.iload_n 3, 1) := by decide +kernel
theorem dl_211 : decode code 211 = .ok (.iconst 3, 1) := by decide +kernel
theorem dl_212 : decode code 212 = .ok (.iadd, 1) := by decide +kernel
theorem dl_213 : decode code 213 = .ok (.iaload, 1) := by decide +kernel
theorem dl_214 : decode code 214 = .ok (.aload_n 0, 1) := by decide +kernel
theorem dl_215 : decode code 215 = .ok (.iload_n 3, 1) := by decide +kernel
theorem dl_216 : decode code 216 = .ok (.iconst 4, 1) := by decide +kernel
theorem dl_217 : decode code 217 = .ok (.iadd, 1) := by decide +kernel
theorem dl_218 : decode code 218 = .ok (.iaload, 1) := by decide +kernel
theorem dl_219 : decode code 219 = .ok (.invokevirtual 31, 3) := by decide +kernel
theorem dl_222 : decode code 222 = .ok (.aload_n 2, 1) := by decide +kernel
theorem dl_223 : decode code 223 = .ok (.aload_n 0, 1) := by decide +kernel
theorem dl_224 : decode code 224 = .ok (.iload_n 3, 1) := by decide +kernel
theorem dl_225 : decode code 225 = .ok (.iconst 1, 1) := by decide +kernel
theorem dl_226 : decode code 226 = .ok (.iadd, 1) := by decide +kernel
theorem dl_227 : decode code 227 = .ok (.iaload, 1) := by decide +kernel
theorem dl_228 : decode code 228 = .ok (.aload_n 0, 1) := by decide +kernel
theorem dl_229 : decode code 229 = .ok (.iload_n 3, 1) := by decide +kernel
theorem dl_230 : decode code 230 = .ok (.iconst 2, 1) := by decide +kernel
theorem dl_231 : decode code 231 = .ok (.iadd, 1) := by decide +kernel
theorem dl_232 : decode code 232 = .ok (.iaload, 1) := by decide +kernel
theorem dl_233 : decode code 233 = .ok (.ifCond .eq 7, 3) := by decide +kernel
theorem dl_236 : decode code 236 = .ok (.iconst 1, 1) := by decide +kernel
theorem dl_237 : decode code 237 = .ok (.goto 4, 3) := by decide +kernel
theorem dl_240 : decode code 240 = .ok (.iconst 0, 1) := by decide +kernel
theorem dl_241 : decode code 241 = .ok (.aload_n 0, 1) := by decide +kernel
theorem dl_242 : decode code 242 = .ok (.iload_n 3, 1) := by decide +kernel
theorem dl_243 : decode code 243 = .ok (.iconst 3, 1) := by decide +kernel
theorem dl_244 : decode code 244 = .ok (.iadd, 1) := by decide +kernel
theorem dl_245 : decode code 245 = .ok (.iaload, 1) := by decide +kernel
theorem dl_246 : decode code 246 = .ok (.aload_n 0, 1) := by decide +kernel
theorem dl_247 : decode code 247 = .ok (.iload_n 3, 1) := by decide +kernel
theorem dl_248 : decode code 248 = .ok (.iconst 4, 1) := by decide +kernel
theorem dl_249 : decode code 249 = .ok (.iadd, 1) := by decide +kernel
theorem dl_250 : decode code 250 = .ok (.iaload, 1) := by decide +kernel
theorem dl_251 : decode code 251 = .ok (.invokevirtual 35, 3) := by decide +kernel
theorem dl_254 : decode code 254 = .ok (.if_icmp .eq 340, 3) := by decide +kernel
theorem dl_257 : decode code 257 = .ok (.iconst 0, 1) := by decide +kernel
theorem dl_258 : decode code 258 = .ok (.ireturn, 1) := by decide +kernel
theorem dl_259 : decode code 259 = .ok (.aload_n 1, 1) := by decide +kernel
theorem dl_260 : decode code 260 = .ok (.aload_n 0, 1) := by decide +kernel
theorem dl_261 : decode code 261 = .ok (.iload_n 3, 1) := by decide +kernel
theorem dl_262 : decode code 262 = .ok (.iconst 1, 1) := by decide +kernel
theorem dl_263 : decode code 263 = .ok (.iadd, 1) := by decide +kernel
theorem dl_264 : decode code 264 = .ok (.iaload, 1) := by decide +kernel
theorem dl_265 : decode code 265 = .ok (.aload_n 0, 1) := by decide +kernel
theorem dl_266 : decode code 266 = .ok (.iload_n 3, 1) := by decide +kernel
theorem dl_267 : decode code 267 = .ok (.iconst 2, 1) := by decide +kernel
theorem dl_268 : decode code 268 = .ok (.iadd, 1) := by decide +kernel
theorem dl_269 : decode code 269 = .ok (.iaload, 1) := by decide +kernel
theorem dl_270 : decode code 270 = .ok (.aload_n 0, 1) := by decide +kernel
theorem dl_271 : decode code 271 = .ok (.iload_n 3, 1) := by decide +kernel
theorem dl_272 : decode code 272 = .ok (.iconst 3, 1) := by decide +kernel
theorem dl_273 : decode code 273 = .ok (.iadd, 1) := by decide +kernel
theorem dl_274 : decode code 274 = .ok (.iaload, 1) := by decide +kernel
theorem dl_275 : decode code 275 = .ok (.invokevirtual 36, 3) := by decide +kernel
theorem dl_278 : decode code 278 = .ok (.aload_n 2, 1) := by decide +kernel
theorem dl_279 : decode code 279 = .ok (.aload_n 0, 1) := by decide +kernel
theorem dl_280 : decode code 280 = .ok (.iload_n 3, 1) := by decide +kernel
theorem dl_281 : decode code 281 = .ok (.iconst 1, 1) := by decide +kernel
theorem dl_282 : decode code 282 = .ok (.iadd, 1) := by decide +kernel
theorem dl_283 : decode code 283 = .ok (.iaload, 1) := by decide +kernel
theorem dl_284 : decode code 284 = .ok (.aload_n 0, 1) := by decide +kernel
theorem dl_285 : decode code 285 = .ok (.iload_n 3, 1) := by decide +kernel
theorem dl_286 : decode code 286 = .ok (.iconst 2, 1) := by decide +kernel
theorem dl_287 : decode code 287 = .ok (.iadd, 1) := by decide +kernel
theorem dl_288 : decode code 288 = .ok (.iaload, 1) := by decide +kernel
theorem dl_289 : decode code 289 = .ok (.aload_n 0, 1) := by decide +kernel
theorem dl_290 : decode code 290 = .ok (.iload_n 3, 1) := by decide +kernel
theorem dl_291 : decode code 291 = .ok (.iconst 3, 1) := by decide +kernel
theorem dl_292 : decode code 292 = .ok (.iadd, 1) := by decide +kernel
theorem dl_293 : decode code 293 = .ok (.iaload, 1) := by decide +kernel
theorem dl_294 : decode code 294 = .ok (.invokevirtual 40, 3) := by decide +kernel
theorem dl_297 : decode code 297 = .ok (.if_icmp .eq 297, 3) := by decide +kernel
theorem dl_300 : decode code 300 = .ok (.iconst 0, 1) := by decide +kernel
theorem dl_301 : decode code 301 = .ok (.ireturn, 1) := by decide +kernel
theorem dl_302 : decode code 302 = .ok (.aload_n 1, 1) := by decide +kernel
theorem dl_303 : decode code 303 = .ok (.aload_n 0, 1) := by decide +kernel
theorem dl_304 : decode code 304 = .ok (.iload_n 3, 1) := by decide +kernel
theorem dl_305 : decode code 305 = .ok (.iconst 1, 1) := by decide +kernel
theorem dl_306 : decode code 306 = .ok (.iadd, 1) := by decide +kernel
theorem dl_307 : decode code 307 = .ok (.iaload, 1) := by decide +kernel
theorem dl_308 : decode code 308 = .ok (.aload_n 0, 1) := by decide +kernel
theorem dl_309 : decode code 309 = .ok (.iload_n 3, 1) := by decide +kernel
theorem dl_310 : decode code 310 = .ok (.iconst 2, 1) := by decide +kernel
theorem dl_311 : decode code 311 = .ok (.iadd, 1) := by decide +kernel
theorem dl_312 : decode code 312 = .ok (.iaload, 1) := by decide +kernel
theorem dl_313 : decode code 313 = .ok (.invokevirtual 41, 3) := by decide +kernel
theorem dl_316 : decode code 316 = .ok (.aload_n 2, 1) := by decide +kernel
theorem dl_317 : decode code 317 = .ok (.aload_n 0, 1) := by decide +kernel
theorem dl_318 : decode code 318 = .ok (.iload_n 3, 1) := by decide +kernel
theorem dl_319 : decode code 319 = .ok (.iconst 1, 1) := by decide +kernel
theorem dl_320 : decode code 320 = .ok (.iadd, 1) := by decide +kernel
theorem dl_321 : decode code 321 = .ok (.iaload, 1) := by decide +kernel
theorem dl_322 : decode code 322 = .ok (.aload_n 0, 1) := by decide +kernel
theorem dl_323 : decode code 323 = .ok (.iload_n 3, 1) := by decide +kernel
theorem dl_324 : decode code 324 = .ok (.iconst 2, 1) := by decide +kernel
theorem dl_325 : decode code 325 = .ok (.iadd, 1) := by decide +kernel
theorem dl_326 : decode code 326 = .ok (.iaload, 1) := by decide +kernel
theorem dl_327 : decode code 327 = .ok (.invokevirtual 45, 3) := by decide +kernel
theorem dl_330 : decode code 330 = .ok (.if_icmp .eq 264, 3) := by decide +kernel
theorem dl_333 : decode code 333 = .ok (.iconst 0, 1) := by decide +kernel
theorem dl_334 : decode code 334 = .ok (.ireturn, 1) := by decide +kernel
theorem dl_335 : decode code 335 = .ok (.aload_n 1, 1) := by decide +kernel
theorem dl_336 : decode code 336 = .ok (.aload_n 0, 1) := by decide +kernel
theorem dl_337 : decode code 337 = .ok (.iload_n 3, 1) := by decide +kernel
theorem dl_338 : decode code 338 = .ok (.iconst 1, 1) := by decide +kernel
theorem dl_339 : decode code 339 = .ok (.iadd, 1) := by decide +kernel
theorem dl_340 : decode code 340 = .ok (.iaload, 1) := by decide +kernel
theorem dl_341 : decode code 341 = .ok (.aload_n 0, 1) := by decide +kernel
theorem dl_342 : decode code 342 = .ok (.iload_n 3, 1) := by decide +kernel
theorem dl_343 : decode code 343 = .ok (.iconst 2, 1) := by decide +kernel
theorem dl_344 : decode code 344 = .ok (.iadd, 1) := by decide +kernel
theorem dl_345 : decode code 345 = .ok (.iaload, 1) := by decide +kernel
theorem dl_346 : decode code 346 = .ok (.ifCond .eq 7, 3) := by decide +kernel
theorem dl_349 : decode code 349 = .ok (.iconst 1, 1) := by decide +kernel
theorem dl_350 : decode code 350 = .ok (.goto 4, 3) := by decide +kernel
theorem dl_353 : decode code 353 = .ok (.iconst 0, 1) := by decide +kernel
theorem dl_354 : decode code 354 = .ok (.invokevirtual 46, 3) := by decide +kernel
theorem dl_357 : decode code 357 = .ok (.aload_n 2, 1) := by decide +kernel
theorem dl_358 : decode code 358 = .ok (.aload_n 0, 1) := by decide +kernel
theorem dl_359 : decode code 359 = .ok (.iload_n 3, 1) := by decide +kernel
theorem dl_360 : decode code 360 = .ok (.iconst 1, 1) := by decide +kernel
theorem dl_361 : decode code 361 = .ok (.iadd, 1) := by decide +kernel
theorem dl_362 : decode code 362 = .ok (.iaload, 1) := by decide +kernel
theorem dl_363 : decode code 363 = .ok (.aload_n 0, 1) := by decide +kernel
theorem dl_364 : decode code 364 = .ok (.iload_n 3, 1) := by decide +kernel
theorem dl_365 : decode code 365 = .ok (.iconst 2, 1) := by decide +kernel
theorem dl_366 : decode code 366 = .ok (.iadd, 1) := by decide +kernel
theorem dl_367 : decode code 367 = .ok (.iaload, 1) := by decide +kernel
theorem dl_368 : decode code 368 = .ok (.ifCond .eq 7, 3) := by decide +kernel
theorem dl_371 : decode code 371 = .ok (.iconst 1, 1) := by decide +kernel
theorem dl_372 : decode code 372 = .ok (.goto 4, 3) := by decide +kernel
theorem dl_375 : decode code 375 = .ok (.iconst 0, 1) := by decide +kernel
theorem dl_376 : decode code 376 = .ok (.invokevirtual 50, 3) := by decide +kernel
theorem dl_379 : decode code 379 = .ok (.if_icmp .eq 215, 3) := by decide +kernel
theorem dl_382 : decode code 382 = .ok (.iconst 0, 1) := by decide +kernel
theorem dl_383 : decode code 383 = .ok (.ireturn, 1) := by decide +kernel
theorem dl_384 : decode code 384 = .ok (.aload_n 1, 1) := by decide +kernel
theorem dl_385 : decode code 385 = .ok (.aload_n 0, 1) := by decide +kernel
theorem dl_386 : decode code 386 = .ok (.iload_n 3, 1) := by decide +kernel
theorem dl_387 : decode code 387 = .ok (.iconst 1, 1) := by decide +kernel
theorem dl_388 : decode code 388 = .ok (.iadd, 1) := by decide +kernel
theorem dl_389 : decode code 389 = .ok (.iaload, 1) := by decide +kernel
theorem dl_390 : decode code 390 = .ok (.aload_n 0, 1) := by decide +kernel
theorem dl_391 : decode code 391 = .ok (.iload_n 3, 1) := by decide +kernel
theorem dl_392 : decode code 392 = .ok (.iconst 2, 1) := by decide +kernel
theorem dl_393 : decode code 393 = .ok (.iadd, 1) := by decide +kernel
theorem dl_394 : decode code 394 = .ok (.iaload, 1) := by decide +kernel
theorem dl_395 : decode code 395 = .ok (.ifCond .eq 7, 3) := by decide +kernel
theorem dl_398 : decode code 398 = .ok (.iconst 1, 1) := by decide +kernel
theorem dl_399 : decode code 399 = .ok (.goto 4, 3) := by decide +kernel
theorem dl_402 : decode code 402 = .ok (.iconst 0, 1) := by decide +kernel
theorem dl_403 : decode code 403 = .ok (.invokevirtual 51, 3) := by decide +kernel
theorem dl_406 : decode code 406 = .ok (.aload_n 2, 1) := by decide +kernel
theorem dl_407 : decode code 407 = .ok (.aload_n 0, 1) := by decide +kernel
theorem dl_408 : decode code 408 = .ok (.iload_n 3, 1) := by decide +kernel
theorem dl_409 : decode code 409 = .ok (.iconst 1, 1) := by decide +kernel
theorem dl_410 : decode code 410 = .ok (.iadd, 1) := by decide +kernel
theorem dl_411 : decode code 411 = .ok (.iaload, 1) := by decide +kernel
theorem dl_412 : decode code 412 = .ok (.aload_n 0, 1) := by decide +kernel
theorem dl_413 : decode code 413 = .ok (.iload_n 3, 1) := by decide +kernel
theorem dl_414 : decode code 414 = .ok (.iconst 2, 1) := by decide +kernel
theorem dl_415 : decode code 415 = .ok (.iadd, 1) := by decide +kernel
theorem dl_416 : decode code 416 = .ok (.iaload, 1) := by decide +kernel
theorem dl_417 : decode code 417 = .ok (.ifCond .eq 7, 3) := by decide +kernel
theorem dl_420 : decode code 420 = .ok (.iconst 1, 1) := by decide +kernel
theorem dl_421 : decode code 421 = .ok (.goto 4, 3) := by decide +kernel
theorem dl_424 : decode code 424 = .ok (.iconst 0, 1) := by decide +kernel
theorem dl_425 : decode code 425 = .ok (.invokevirtual 54, 3) := by decide +kernel
theorem dl_428 : decode code 428 = .ok (.if_icmp .eq 166, 3) := by decide +kernel
theorem dl_431 : decode code 431 = .ok (.iconst 0, 1) := by decide +kernel
theorem dl_432 : decode code 432 = .ok (.ireturn, 1) := by decide +kernel
theorem dl_433 : decode code 433 = .ok (.aload_n 1, 1) := by decide +kernel
theorem dl_434 : decode code 434 = .ok (.aload_n 0, 1) := by decide +kernel
theorem dl_435 : decode code 435 = .ok (.iload_n 3, 1) := by decide +kernel
theorem dl_436 : decode code 436 = .ok (.iconst 1, 1) := by decide +kernel
theorem dl_437 : decode code 437 = .ok (.iadd, 1) := by decide +kernel
theorem dl_438 : decode code 438 = .ok (.iaload, 1) := by decide +kernel
theorem dl_439 : decode code 439 = .ok (.aload_n 0, 1) := by decide +kernel
theorem dl_440 : decode code 440 = .ok (.iload_n 3, 1) := by decide +kernel
theorem dl_441 : decode code 441 = .ok (.iconst 2, 1) := by decide +kernel
theorem dl_442 : decode code 442 = .ok (.iadd, 1) := by decide +kernel
theorem dl_443 : decode code 443 = .ok (.iaload, 1) := by decide +kernel
theorem dl_444 : decode code 444 = .ok (.invokevirtual 55, 3) := by decide +kernel
theorem dl_447 : decode code 447 = .ok (.aload_n 2, 1) := by decide +kernel
theorem dl_448 : decode code 448 = .ok (.aload_n 0, 1) := by decide +kernel
theorem dl_449 : decode code 449 = .ok (.iload_n 3, 1) := by decide +kernel
theorem dl_450 : decode code 450 = .ok (.iconst 1, 1) := by decide +kernel
theorem dl_451 : decode code 451 = .ok (.iadd, 1) := by decide +kernel
theorem dl_452 : decode code 452 = .ok (.iaload, 1) := by decide +kernel
theorem dl_453 : decode code 453 = .ok (.aload_n 0, 1) := by decide +kernel
theorem dl_454 : decode code 454 = .ok (.iload_n 3, 1) := by decide +kernel
theorem dl_455 : decode code 455 = .ok (.iconst 2, 1) := by decide +kernel
theorem dl_456 : decode code 456 = .ok (.iadd, 1) := by decide +kernel
theorem dl_457 : decode code 457 = .ok (.iaload, 1) := by decide +kernel
theorem dl_458 : decode code 458 = .ok (.invokevirtual 59, 3) := by decide +kernel
theorem dl_461 : decode code 461 = .ok (.if_icmp .eq 133, 3) := by decide +kernel
theorem dl_464 : decode code 464 = .ok (.iconst 0, 1) := by decide +kernel
theorem dl_465 : decode code 465 = .ok (.ireturn, 1) := by decide +kernel
theorem dl_466 : decode code 466 = .ok (.aload_n 1, 1) := by decide +kernel
theorem dl_467 : decode code 467 = .ok (.invokevirtual 60, 3) := by decide +kernel
theorem dl_470 : decode code 470 = .ok (.aload_n 2, 1) := by decide +kernel
theorem dl_471 : decode code 471 = .ok (.invokevirtual 64, 3) := by decide +kernel
theorem dl_474 : decode code 474 = .ok (.if_icmp .eq 120, 3) := by decide +kernel
theorem dl_477 : decode code 477 = .ok (.iconst 0, 1) := by decide +kernel
theorem dl_478 : decode code 478 = .ok (.ireturn, 1) := by decide +kernel
theorem dl_479 : decode code 479 = .ok (.aload_n 1, 1) := by decide +kernel
theorem dl_480 : decode code 480 = .ok (.aload_n 0, 1) := by decide +kernel
theorem dl_481 : decode code 481 = .ok (.iload_n 3, 1) := by decide +kernel
theorem dl_482 : decode code 482 = .ok (.iconst 1, 1) := by decide +kernel
theorem dl_483 : decode code 483 = .ok (.iadd, 1) := by decide +kernel
theorem dl_484 : decode code 484 = .ok (.iaload, 1) := by decide +kernel
theorem dl_485 : decode code 485 = .ok (.invokevirtual 65, 3) := by decide +kernel
theorem dl_488 : decode code 488 = .ok (.aload_n 2, 1) := by decide +kernel
theorem dl_489 : decode code 489 = .ok (.aload_n 0, 1) := by decide +kernel
theorem dl_490 : decode code 490 = .ok (.iload_n 3, 1) := by decide +kernel
theorem dl_491 : decode code 491 = .ok (.iconst 1, 1) := by decide +kernel
theorem dl_492 : decode code 492 = .ok (.iadd, 1) := by decide +kernel
theorem dl_493 : decode code 493 = .ok (.iaload, 1) := by decide +kernel
theorem dl_494 : decode code 494 = .ok (.invokevirtual 69, 3) := by decide +kernel
theorem dl_497 : decode code 497 = .ok (.if_icmp .eq 97, 3) := by decide +kernel
theorem dl_500 : decode code 500 = .ok (.iconst 0, 1) := by decide +kernel
theorem dl_501 : decode code 501 = .ok (.ireturn, 1) := by decide +kernel
theorem dl_502 : decode code 502 = .ok (.aload_n 1, 1) := by decide +kernel
theorem dl_503 : decode code 503 = .ok (.aload_n 0, 1) := by decide +kernel
theorem dl_504 : decode code 504 = .ok (.iload_n 3, 1) := by decide +kernel
theorem dl_505 : decode code 505 = .ok (.iconst 1, 1) := by decide +kernel
theorem dl_506 : decode code 506 = .ok (.iadd, 1) := by decide +kernel
theorem dl_507 : decode code 507 = .ok (.iaload, 1) := by decide +kernel
theorem dl_508 : decode code 508 = .ok (.aload_n 0, 1) := by decide +kernel
theorem dl_509 : decode code 509 = .ok (.iload_n 3, 1) := by decide +kernel
theorem dl_510 : decode code 510 = .ok (.iconst 2, 1) := by decide +kernel
theorem dl_511 : decode code 511 = .ok (.iadd, 1) := by decide +kernel
theorem dl_512 : decode code 512 = .ok (.iaload, 1) := by decide +kernel
theorem dl_513 : decode code 513 = .ok (.invokevirtual 70, 3) := by decide +kernel
theorem dl_516 : decode code 516 = .ok (.aload_n 2, 1) := by decide +kernel
theorem dl_517 : decode code 517 = .ok (.aload_n 0, 1) := by decide +kernel
theorem dl_518 : decode code 518 = .ok (.iload_n 3, 1) := by decide +kernel
theorem dl_519 : decode code 519 = .ok (.iconst 1, 1) := by decide +kernel
theorem dl_520 : decode code 520 = .ok (.iadd, 1) := by decide +kernel
theorem dl_521 : decode code 521 = .ok (.iaload, 1) := by decide +kernel
theorem dl_522 : decode code 522 = .ok (.aload_n 0, 1) := by decide +kernel
theorem dl_523 : decode code 523 = .ok (.iload_n 3, 1) := by decide +kernel
theorem dl_524 : decode code 524 = .ok (.iconst 2, 1) := by decide +kernel
theorem dl_525 : decode code 525 = .ok (.iadd, 1) := by decide +kernel
theorem dl_526 : decode code 526 = .ok (.iaload, 1) := by decide +kernel
theorem dl_527 : decode code 527 = .ok (.invokevirtual 73, 3) := by decide +kernel
theorem dl_530 : decode code 530 = .ok (.if_icmp .eq 64, 3) := by decide +kernel
theorem dl_533 : decode code 533 = .ok (.iconst 0, 1) := by decide +kernel
theorem dl_534 : decode code 534 = .ok (.ireturn, 1) := by decide +kernel
theorem dl_535 : decode code 535 = .ok (.aload_n 1, 1) := by decide +kernel
theorem dl_536 : decode code 536 = .ok (.invokevirtual 74, 3) := by decide +kernel
theorem dl_539 : decode code 539 = .ok (.aload_n 2, 1) := by decide +kernel
theorem dl_540 : decode code 540 = .ok (.invokevirtual 77, 3) := by decide +kernel
theorem dl_543 : decode code 543 = .ok (.if_icmp .eq 51, 3) := by decide +kernel
theorem dl_546 : decode code 546 = .ok (.iconst 0, 1) := by decide +kernel
theorem dl_547 : decode code 547 = .ok (.ireturn, 1) := by decide +kernel
theorem dl_548 : decode code 548 = .ok (.aload_n 1, 1) := by decide +kernel
theorem dl_549 : decode code 549 = .ok (.aload_n 0, 1) := by decide +kernel
theorem dl_550 : decode code 550 = .ok (.iload_n 3, 1) := by decide +kernel
theorem dl_551 : decode code 551 = .ok (.iconst 1, 1) := by decide +kernel
theorem dl_552 : decode code 552 = .ok (.iadd, 1) := by decide +kernel
theorem dl_553 : decode code 553 = .ok (.iaload, 1) := by decide +kernel
theorem dl_554 : decode code 554 = .ok (.invokevirtual 78, 3) := by decide +kernel
theorem dl_557 : decode code 557 = .ok (.aload_n 2, 1) := by decide +kernel
theorem dl_558 : decode code 558 = .ok (.aload_n 0, 1) := by decide +kernel
theorem dl_559 : decode code 559 = .ok (.iload_n 3, 1) := by decide +kernel
theorem dl_560 : decode code 560 = .ok (.iconst 1, 1) := by decide +kernel
theorem dl_561 : decode code 561 = .ok (.iadd, 1) := by decide +kernel
theorem dl_562 : decode code 562 = .ok (.iaload, 1) := by decide +kernel
theorem dl_563 : decode code 563 = .ok (.invokevirtual 81, 3) := by decide +kernel
theorem dl_566 : decode code 566 = .ok (.if_icmp .eq 28, 3) := by decide +kernel
theorem dl_569 : decode code 569 = .ok (.iconst 0, 1) := by decide +kernel
theorem dl_570 : decode code 570 = .ok (.ireturn, 1) := by decide +kernel
theorem dl_571 : decode code 571 = .ok (.aload_n 1, 1) := by decide +kernel
theorem dl_572 : decode code 572 = .ok (.aload_n 0, 1) := by decide +kernel
theorem dl_573 : decode code 573 = .ok (.iload_n 3, 1) := by decide +kernel
theorem dl_574 : decode code 574 = .ok (.iconst 1, 1) := by decide +kernel
theorem dl_575 : decode code 575 = .ok (.iadd, 1) := by decide +kernel
theorem dl_576 : decode code 576 = .ok (.iaload, 1) := by decide +kernel
theorem dl_577 : decode code 577 = .ok (.invokevirtual 82, 3) := by decide +kernel
theorem dl_580 : decode code 580 = .ok (.aload_n 2, 1) := by decide +kernel
theorem dl_581 : decode code 581 = .ok (.aload_n 0, 1) := by decide +kernel
theorem dl_582 : decode code 582 = .ok (.iload_n 3, 1) := by decide +kernel
theorem dl_583 : decode code 583 = .ok (.iconst 1, 1) := by decide +kernel
theorem dl_584 : decode code 584 = .ok (.iadd, 1) := by decide +kernel
theorem dl_585 : decode code 585 = .ok (.iaload, 1) := by decide +kernel
theorem dl_586 : decode code 586 = .ok (.invokevirtual 85, 3) := by decide +kernel
theorem dl_589 : decode code 589 = .ok (.if_icmp .eq 5, 3) := by decide +kernel
theorem dl_592 : decode code 592 = .ok (.iconst 0, 1) := by decide +kernel
theorem dl_593 : decode code 593 = .ok (.ireturn, 1) := by decide +kernel
theorem dl_594 : decode code 594 = .ok (.iinc 3 5, 3) := by decide +kernel
theorem dl_597 : decode code 597 = .ok (.goto (-559), 3) := by decide +kernel
theorem dl_600 : decode code 600 = .ok (.iconst 1, 1) := by decide +kernel
theorem dl_601 : decode code 601 = .ok (.ireturn, 1) := by decide +kernel
def lx_E (p : Program) (s : State) (m : MethodId) (meth : Method) (c : Code) (b L : Nat) (xs : Nat → Int32) (D : va_G) (cI cZ : ClassId) : Prop := lw_At p s m meth c b L xs ∧ L ≤ 2562 ∧ va_K D ax_cl (ax_ty cI cZ) s ∧ ∀ q ∈ ax_NLs, va_Nw (.methodLinkNest q.1 q.2.1 q.2.2.1 q.2.2.2) s
def lx_X (D : va_G) (cI cZ : ClassId) (adx adm : Nat → Nat) (hx hm : ax_H) : Prop := ∀ (i j : Nat) (p q : Nat × va_E), (ax_w cI cZ adx hx)[i]? = some p → (ax_w cI cZ adm hm)[j]? = some q → p.1 ≠ q.1
def lx_V (D : va_G) (cI cZ : ClassId) (s : State) (adx adm : Nat → Nat) (hx hm : ax_H) (H : Heap) (locs : List Loc) : Prop := va_P D ax_cl (ax_w cI cZ adx hx) H ∧ va_P D ax_cl (ax_w cI cZ adm hm) H ∧ va_D (lx_A s) (ax_w cI cZ adx hx) ∧ va_D (lx_A s) (ax_w cI cZ adm hm) ∧ lx_X D cI cZ adx adm hx hm ∧ va_S (lx_A s) s.heap H locs
theorem RH_heads {hx hm : ax_H} (h : RH hx hm) : (∃ fs, ax_nth hx 0 = some (.inr (0, fs))) ∧ ∃ fs, ax_nth hm 0 = some (.inr (5, fs)) := by
  obtain ⟨f, n, t, r, u, b, F, kn, q, rfl, rfl, _⟩ := h
  exact ⟨⟨_, rfl⟩, ⟨_, rfl⟩⟩
section LY
variable {p : Program} {l : Launch} {e : Env} {s : State} {m : MethodId} {below : List Frame} {meth : Method} {c : Code} {H : Heap} {locs : List Loc} {Q : State → Prop} {D : va_G} {cI cZ : ClassId} {ls : Array Slot} {b L i : Nat} {xs : Nat → Int32} {adx adm : Nat → Nat} {hx hm : ax_H} {x1 x2 : Nat}
theorem lx_fix (hE : lx_E p s m meth c b L xs D cI cZ) : CallFix p m c code 4 s #[Value.ref b] lw_tbl R_law := ⟨hE.1.1, hE.1.2.1, hE.1.2.2.2.1, hE.1.2.2.2.2.1, hE.1.2.2.2.2.2.1⟩
theorem lx_l0 (hl : lv_has ls 4 [(3, .int (nI i)), (2, .ref x2), (1, .ref x1), (0, .ref b)]) : ls[0]? = some (.val (.ref b)) := hl.2.2 (0, .ref b) (by simp)
theorem lx_l1 (hl : lv_has ls 4 [(3, .int (nI i)), (2, .ref x2), (1, .ref x1), (0, .ref b)]) : ls[1]? = some (.val (.ref x1)) := hl.2.2 (1, .ref x1) (by simp)
theorem lx_l2 (hl : lv_has ls 4 [(3, .int (nI i)), (2, .ref x2), (1, .ref x1), (0, .ref b)]) : ls[2]? = some (.val (.ref x2)) := hl.2.2 (2, .ref x2) (by simp)
theorem lx_l3 (hl : lv_has ls 4 [(3, .int (nI i)), (2, .ref x2), (1, .ref x1), (0, .ref b)]) : ls[3]? = some (.val (.int (nI i))) := hl.2.2 (3, .int (nI i)) (by simp)
/-- script[i + k] -/
theorem lx_rd {pc k : Nat} {kI : Int} {r : List Value} (hE : lx_E p s m meth c b L xs D cI cZ) (hl : lv_has ls 4 [(3, .int (nI i)), (2, .ref x2), (1, .ref x1), (0, .ref b)]) (hV : lx_V D cI cZ s adx adm hx hm H locs) (hk : Int32.ofInt kI = nI k) (hi : i + k < L) (d0 : decode code pc = .ok (.aload_n 0, 1)) (d1 : decode code (pc + 1) = .ok (.iload_n 3, 1)) (d2 : decode code (pc + 2) = .ok (.iconst kI, 1)) (d3 : decode code (pc + 3) = .ok (.iadd, 1)) (d4 : decode code (pc + 4) = .ok (.iaload, 1))
    (kk : W p l e room_1 s m #[Value.ref b] below meth c H locs 52 1248 Q (F0 m (pc + 5) ls (.int (xs (i + k)) :: r))) : W p l e room_1 s m #[Value.ref b] below meth c H locs 52 1248 Q (F0 m pc ls r) := by
  obtain ⟨⟨hx2, hb2, _, _, _, _, hX, hbl, _, _⟩, hL, _, _⟩ := hE
  refine lv_aload_n hx2 hb2 d0 (i := 0) rfl (lx_l0 hl) ?_
  refine lv_iload_n hx2 hb2 d1 (i := 3) rfl (lx_l3 hl) ?_
  refine lv_iconst hx2 hb2 d2 hk ?_
  refine lv_iadd hx2 hb2 d3 ?_
  rw [nI_add]
  refine va_sld hx2 hb2 hX hbl (A := lx_A s) (by show ¬ s.heap.size ≤ b; omega) hV.2.2.2.2.2 (vp_in_iff.mpr (by rw [nI_toInt (by omega)]; omega)) d4 ?_
  rw [nI_clamp (by omega)]
  exact kk
/-- script[i + k] != 0 -/
theorem lx_rdb {pc k : Nat} {kI : Int} {r : List Value} (hE : lx_E p s m meth c b L xs D cI cZ) (hl : lv_has ls 4 [(3, .int (nI i)), (2, .ref x2), (1, .ref x1), (0, .ref b)]) (hV : lx_V D cI cZ s adx adm hx hm H locs) (hk : Int32.ofInt kI = nI k) (hi : i + k < L) (d0 : decode code pc = .ok (.aload_n 0, 1)) (d1 : decode code (pc + 1) = .ok (.iload_n 3, 1)) (d2 : decode code (pc + 2) = .ok (.iconst kI, 1)) (d3 : decode code (pc + 3) = .ok (.iadd, 1)) (d4 : decode code (pc + 4) = .ok (.iaload, 1)) (d5 : decode code (pc + 5) = .ok (.ifCond .eq 7, 3)) (d8 : decode code (pc + 8) = .ok (.iconst 1, 1)) (d9 : decode code (pc + 9) = .ok (.goto 4, 3)) (d12 : decode code (pc + 12) = .ok (.iconst 0, 1))
    (kk : W p l e room_1 s m #[Value.ref b] below meth c H locs 52 1248 Q (F0 m (pc + 13) ls (.int (bI (!decide (xs (i + k) = 0))) :: r))) : W p l e room_1 s m #[Value.ref b] below meth c H locs 52 1248 Q (F0 m pc ls r) := by
  refine lx_rd hE hl hV hk hi d0 d1 d2 d3 d4 ?_
  have hx2 := hE.1.1
  have hb2 := hE.1.2.1
  refine lv_if_eq hx2 hb2 (tgt := pc + 12) d5 (by omega) (fun q => ?_) (fun q => ?_)
  · rw [decide_eq_true q] at kk
    exact lv_iconst hx2 hb2 d12 rfl kk
  · rw [decide_eq_false q] at kk
    exact lv_iconst hx2 hb2 d8 rfl (lv_goto hx2 hb2 (tgt := pc + 13) d9 (by omega) kk)
/-- a call on the class's object -/
theorem lx_cx (hE : lx_E p s m meth c b L xs D cI cZ) (hV : lx_V D cI cZ s adx adm hx hm H locs) {y idx n nl pc : Nat} {nm : MethodName} {cc2 : ByteArray} {ty : FieldType} {cd : List ax_I} {xs2 r : List Value} {K : ax_K} {fs : List Value} (hn : ax_nth ax_NMs y = some (nm, cc2, some ty)) (hm2 : ax_nth ax_Ms y = some (cd, nl, n + 1, 0, 0)) (hnl : nl ≤ 11 ∧ nm.cls = "RunOrder") (hlk : Cond.methodLink R_law idx nm ∈ lw_tbl) (him : Cond.instanceMethod nm ∈ lw_tbl) (hse : Cond.selects nm.cls nm nm ∈ lw_tbl) (hpd : (parseMethodDescriptor nm.desc).map (fun d => d.parameters.length) = some n)
    (hc : ax_D ax_Ms ax_Xs 7 y (.ref 0 :: xs2) hx K) (hxs : xs2.map (ax_v adx) = xs2) (h0 : ax_nth hx 0 = some (.inr (0, fs))) (hl : xs2.length = n) (hr4 : (r.map fun v => v.category).sum ≤ 8) (hls : ls.size = 4) (hdg : decode code pc = .ok (.invokevirtual idx, 3))
    (kk : ∀ (z : Int32) (hx' : ax_H) (H1 : Heap) (locs1 : List Loc), K (some (.int z)) hx' → lx_V D cI cZ s adx adm hx' hm H1 locs1 → W p l e room_1 s m #[Value.ref b] below meth c H1 locs1 52 1248 Q (F0 m (pc + 3) ls (.int z :: r))) : W p l e room_1 s m #[Value.ref b] below meth c H locs 52 1248 Q (F0 m pc ls (xs2.reverse ++ .ref (adx 0) :: r)) := by
  obtain ⟨v1, v2, v3, v4, v5, v6⟩ := hV
  refine lx_call (lx_fix hE) hE.2.2.1 hE.2.2.2 hn hm2 hnl.1 (ci := 0) rfl hnl.2.symm hlk him hse hpd hc hxs h0 hl hr4 hls hdg v1 v3 v2 v5 v6 (fun z h' H1 locs1 hz a1 a2 a3 a4 a5 => ?_)
  exact kk z h' H1 locs1 hz ⟨a1, a3, a2, v4, a4, a5⟩
/-- a call on the reference's object -/
theorem lx_cm (hE : lx_E p s m meth c b L xs D cI cZ) (hV : lx_V D cI cZ s adx adm hx hm H locs) {y idx n nl pc : Nat} {nm : MethodName} {cc2 : ByteArray} {ty : FieldType} {cd : List ax_I} {xs2 r : List Value} {K : ax_K} {fs : List Value} (hn : ax_nth ax_NMs y = some (nm, cc2, some ty)) (hm2 : ax_nth ax_Ms y = some (cd, nl, n + 1, 0, 0)) (hnl : nl ≤ 11 ∧ nm.cls = "RunOrderModel") (hlk : Cond.methodLink R_law idx nm ∈ lw_tbl) (him : Cond.instanceMethod nm ∈ lw_tbl) (hse : Cond.selects nm.cls nm nm ∈ lw_tbl) (hpd : (parseMethodDescriptor nm.desc).map (fun d => d.parameters.length) = some n)
    (hc : ax_D ax_Ms ax_Xs 7 y (.ref 0 :: xs2) hm K) (hxs : xs2.map (ax_v adm) = xs2) (h0 : ax_nth hm 0 = some (.inr (5, fs))) (hl : xs2.length = n) (hr4 : (r.map fun v => v.category).sum ≤ 8) (hls : ls.size = 4) (hdg : decode code pc = .ok (.invokevirtual idx, 3))
    (kk : ∀ (z : Int32) (hm' : ax_H) (H1 : Heap) (locs1 : List Loc), K (some (.int z)) hm' → lx_V D cI cZ s adx adm hx hm' H1 locs1 → W p l e room_1 s m #[Value.ref b] below meth c H1 locs1 52 1248 Q (F0 m (pc + 3) ls (.int z :: r))) : W p l e room_1 s m #[Value.ref b] below meth c H locs 52 1248 Q (F0 m pc ls (xs2.reverse ++ .ref (adm 0) :: r)) := by
  obtain ⟨v1, v2, v3, v4, v5, v6⟩ := hV
  refine lx_call (lx_fix hE) hE.2.2.1 hE.2.2.2 hn hm2 hnl.1 (ci := 5) rfl hnl.2.symm hlk him hse hpd hc hxs h0 hl hr4 hls hdg v2 v4 v1 (fun i j p q hp hq e => v5 j i q p hq hp e.symm) v6 (fun z h' H1 locs1 hz a1 a2 a3 a4 a5 => ?_)
  exact kk z h' H1 locs1 hz ⟨a3, a1, v3, a2, fun i j p q hp hq e => a4 j i q p hq hp e.symm, a5⟩
set_option maxRecDepth 100000 in
/-- slots -/
theorem lx_c0 (hE : lx_E p s m meth c b L xs D cI cZ) (hl : lv_has ls 4 [(3, .int (nI i)), (2, .ref (adm 0)), (1, .ref (adx 0)), (0, .ref b)]) (hi : i + 5 ≤ L) (hV : lx_V D cI cZ s adx adm hx hm H locs) (hR : RH hx hm) (kk : ∀ (hx' hm' : ax_H) (H1 : Heap) (locs1 : List Loc), RH hx' hm' → lx_V D cI cZ s adx adm hx' hm' H1 locs1 → W p l e room_1 s m #[Value.ref b] below meth c H1 locs1 52 1248 Q (F0 m 594 ls [])) : W p l e room_1 s m #[Value.ref b] below meth c H locs 52 1248 Q (F0 m 124 ls []) := by
  have hx2 := hE.1.1
  have hb2 := hE.1.2.1
  have hL2 := hE.2.1
  obtain ⟨K1, K2, v, c1, c2, v1, v2, hRR⟩ := tw_slots (xs (i + 1)) hR
  obtain ⟨⟨fs1, n1⟩, ⟨fs2, n2⟩⟩ := RH_heads hR
  refine lv_aload_n hx2 hb2 dl_124 (i := 1) rfl (lx_l1 hl) ?_
  refine lx_rd hE hl hV (k := 1) rfl (by omega) dl_125 dl_126 dl_127 dl_128 dl_129 ?_
  refine lx_cx hE hV (xs2 := [.int (xs (i + 1))]) (n := 1) rfl rfl (by decide) (List.mem_of_getElem? (i := 240) rfl) (List.mem_of_getElem? (i := 241) rfl) (List.mem_of_getElem? (i := 242) rfl) (by decide +kernel) c1 rfl n1 rfl (Nat.le_of_ble_eq_true rfl) hl.1 dl_130 (fun z hx' H1 locs1 hz hV1 => ?_)
  cases v1 _ _ hz
  refine lv_aload_n hx2 hb2 dl_133 (i := 2) rfl (lx_l2 hl) ?_
  refine lx_rd hE hl hV1 (k := 1) rfl (by omega) dl_134 dl_135 dl_136 dl_137 dl_138 ?_
  refine lx_cm hE hV1 (xs2 := [.int (xs (i + 1))]) (n := 1) rfl rfl (by decide) (List.mem_of_getElem? (i := 565) rfl) (List.mem_of_getElem? (i := 566) rfl) (List.mem_of_getElem? (i := 567) rfl) (by decide +kernel) c2 rfl n2 rfl (Nat.le_of_ble_eq_true rfl) hl.1 dl_139 (fun z2 hm' H2 locs2 hz2 hV2 => ?_)
  cases v2 _ _ hz2
  exact lv_icmp_eq hx2 hb2 (tgt := 594) dl_142 (by decide) (fun _ => kk hx' hm' H2 locs2 (hRR _ _ _ _ hz hz2) hV2) (fun q => absurd rfl q)
set_option maxRecDepth 100000 in
/-- action -/
theorem lx_c1 (hE : lx_E p s m meth c b L xs D cI cZ) (hl : lv_has ls 4 [(3, .int (nI i)), (2, .ref (adm 0)), (1, .ref (adx 0)), (0, .ref b)]) (hi : i + 5 ≤ L) (hV : lx_V D cI cZ s adx adm hx hm H locs) (hR : RH hx hm) (kk : ∀ (hx' hm' : ax_H) (H1 : Heap) (locs1 : List Loc), RH hx' hm' → lx_V D cI cZ s adx adm hx' hm' H1 locs1 → W p l e room_1 s m #[Value.ref b] below meth c H1 locs1 52 1248 Q (F0 m 594 ls [])) : W p l e room_1 s m #[Value.ref b] below meth c H locs 52 1248 Q (F0 m 147 ls []) := by
  have hx2 := hE.1.1
  have hb2 := hE.1.2.1
  have hL2 := hE.2.1
  obtain ⟨K1, K2, v, c1, c2, v1, v2, hRR⟩ := tw_action (xs (i + 1)) (xs (i + 2)) (xs (i + 3)) hR
  obtain ⟨⟨fs1, n1⟩, ⟨fs2, n2⟩⟩ := RH_heads hR
  refine lv_aload_n hx2 hb2 dl_147 (i := 1) rfl (lx_l1 hl) ?_
  refine lx_rd hE hl hV (k := 1) rfl (by omega) dl_148 dl_149 dl_150 dl_151 dl_152 ?_
  refine lx_rd hE hl hV (k := 2) rfl (by omega) dl_153 dl_154 dl_155 dl_156 dl_157 ?_
  refine lx_rd hE hl hV (k := 3) rfl (by omega) dl_158 dl_159 dl_160 dl_161 dl_162 ?_
  refine lx_cx hE hV (xs2 := [.int (xs (i + 1)), .int (xs (i + 2)), .int (xs (i + 3))]) (n := 3) rfl rfl (by decide) (List.mem_of_getElem? (i := 247) rfl) (List.mem_of_getElem? (i := 248) rfl) (List.mem_of_getElem? (i := 249) rfl) (by decide +kernel) c1 rfl n1 rfl (Nat.le_of_ble_eq_true rfl) hl.1 dl_163 (fun z hx' H1 locs1 hz hV1 => ?_)
  cases v1 _ _ hz
  refine lv_aload_n hx2 hb2 dl_166 (i := 2) rfl (lx_l2 hl) ?_
  refine lx_rd hE hl hV1 (k := 1) rfl (by omega) dl_167 dl_168 dl_169 dl_170 dl_171 ?_
  refine lx_rd hE hl hV1 (k := 2) rfl (by omega) dl_172 dl_173 dl_174 dl_175 dl_176 ?_
  refine lx_rd hE hl hV1 (k := 3) rfl (by omega) dl_177 dl_178 dl_179 dl_180 dl_181 ?_
  refine lx_cm hE hV1 (xs2 := [.int (xs (i + 1)), .int (xs (i + 2)), .int (xs (i + 3))]) (n := 3) rfl rfl (by decide) (List.mem_of_getElem? (i := 572) rfl) (List.mem_of_getElem? (i := 573) rfl) (List.mem_of_getElem? (i := 574) rfl) (by decide +kernel) c2 rfl n2 rfl (Nat.le_of_ble_eq_true rfl) hl.1 dl_182 (fun z2 hm' H2 locs2 hz2 hV2 => ?_)
  cases v2 _ _ hz2
  exact lv_icmp_eq hx2 hb2 (tgt := 594) dl_185 (by decide) (fun _ => kk hx' hm' H2 locs2 (hRR _ _ _ _ hz hz2) hV2) (fun q => absurd rfl q)
set_option maxRecDepth 100000 in
/-- about -/
theorem lx_c2 (hE : lx_E p s m meth c b L xs D cI cZ) (hl : lv_has ls 4 [(3, .int (nI i)), (2, .ref (adm 0)), (1, .ref (adx 0)), (0, .ref b)]) (hi : i + 5 ≤ L) (hV : lx_V D cI cZ s adx adm hx hm H locs) (hR : RH hx hm) (kk : ∀ (hx' hm' : ax_H) (H1 : Heap) (locs1 : List Loc), RH hx' hm' → lx_V D cI cZ s adx adm hx' hm' H1 locs1 → W p l e room_1 s m #[Value.ref b] below meth c H1 locs1 52 1248 Q (F0 m 594 ls [])) : W p l e room_1 s m #[Value.ref b] below meth c H locs 52 1248 Q (F0 m 190 ls []) := by
  have hx2 := hE.1.1
  have hb2 := hE.1.2.1
  have hL2 := hE.2.1
  obtain ⟨K1, K2, v, c1, c2, v1, v2, hRR⟩ := tw_about (xs (i + 1)) (!decide (xs (i + 2) = 0)) (xs (i + 3)) (xs (i + 4)) hR
  obtain ⟨⟨fs1, n1⟩, ⟨fs2, n2⟩⟩ := RH_heads hR
  refine lv_aload_n hx2 hb2 dl_190 (i := 1) rfl (lx_l1 hl) ?_
  refine lx_rd hE hl hV (k := 1) rfl (by omega) dl_191 dl_192 dl_193 dl_194 dl_195 ?_
  refine lx_rdb hE hl hV (k := 2) rfl (by omega) dl_196 dl_197 dl_198 dl_199 dl_200 dl_201 dl_204 dl_205 dl_208 ?_
  refine lx_rd hE hl hV (k := 3) rfl (by omega) dl_209 dl_210 dl_211 dl_212 dl_213 ?_
  refine lx_rd hE hl hV (k := 4) rfl (by omega) dl_214 dl_215 dl_216 dl_217 dl_218 ?_
  refine lx_cx hE hV (xs2 := [.int (xs (i + 1)), .int (bI (!decide (xs (i + 2) = 0))), .int (xs (i + 3)), .int (xs (i + 4))]) (n := 4) rfl rfl (by decide) (List.mem_of_getElem? (i := 255) rfl) (List.mem_of_getElem? (i := 256) rfl) (List.mem_of_getElem? (i := 257) rfl) (by decide +kernel) c1 rfl n1 rfl (Nat.le_of_ble_eq_true rfl) hl.1 dl_219 (fun z hx' H1 locs1 hz hV1 => ?_)
  cases v1 _ _ hz
  refine lv_aload_n hx2 hb2 dl_222 (i := 2) rfl (lx_l2 hl) ?_
  refine lx_rd hE hl hV1 (k := 1) rfl (by omega) dl_223 dl_224 dl_225 dl_226 dl_227 ?_
  refine lx_rdb hE hl hV1 (k := 2) rfl (by omega) dl_228 dl_229 dl_230 dl_231 dl_232 dl_233 dl_236 dl_237 dl_240 ?_
  refine lx_rd hE hl hV1 (k := 3) rfl (by omega) dl_241 dl_242 dl_243 dl_244 dl_245 ?_
  refine lx_rd hE hl hV1 (k := 4) rfl (by omega) dl_246 dl_247 dl_248 dl_249 dl_250 ?_
  refine lx_cm hE hV1 (xs2 := [.int (xs (i + 1)), .int (bI (!decide (xs (i + 2) = 0))), .int (xs (i + 3)), .int (xs (i + 4))]) (n := 4) rfl rfl (by decide) (List.mem_of_getElem? (i := 576) rfl) (List.mem_of_getElem? (i := 577) rfl) (List.mem_of_getElem? (i := 578) rfl) (by decide +kernel) c2 rfl n2 rfl (Nat.le_of_ble_eq_true rfl) hl.1 dl_251 (fun z2 hm' H2 locs2 hz2 hV2 => ?_)
  cases v2 _ _ hz2
  exact lv_icmp_eq hx2 hb2 (tgt := 594) dl_254 (by decide) (fun _ => kk hx' hm' H2 locs2 (hRR _ _ _ _ hz hz2) hV2) (fun q => absurd rfl q)
set_option maxRecDepth 100000 in
/-- fails -/
theorem lx_c3 (hE : lx_E p s m meth c b L xs D cI cZ) (hl : lv_has ls 4 [(3, .int (nI i)), (2, .ref (adm 0)), (1, .ref (adx 0)), (0, .ref b)]) (hi : i + 5 ≤ L) (hV : lx_V D cI cZ s adx adm hx hm H locs) (hR : RH hx hm) (kk : ∀ (hx' hm' : ax_H) (H1 : Heap) (locs1 : List Loc), RH hx' hm' → lx_V D cI cZ s adx adm hx' hm' H1 locs1 → W p l e room_1 s m #[Value.ref b] below meth c H1 locs1 52 1248 Q (F0 m 594 ls [])) : W p l e room_1 s m #[Value.ref b] below meth c H locs 52 1248 Q (F0 m 259 ls []) := by
  have hx2 := hE.1.1
  have hb2 := hE.1.2.1
  have hL2 := hE.2.1
  obtain ⟨K1, K2, v, c1, c2, v1, v2, hRR⟩ := tw_fails (xs (i + 1)) (xs (i + 2)) (xs (i + 3)) hR
  obtain ⟨⟨fs1, n1⟩, ⟨fs2, n2⟩⟩ := RH_heads hR
  refine lv_aload_n hx2 hb2 dl_259 (i := 1) rfl (lx_l1 hl) ?_
  refine lx_rd hE hl hV (k := 1) rfl (by omega) dl_260 dl_261 dl_262 dl_263 dl_264 ?_
  refine lx_rd hE hl hV (k := 2) rfl (by omega) dl_265 dl_266 dl_267 dl_268 dl_269 ?_
  refine lx_rd hE hl hV (k := 3) rfl (by omega) dl_270 dl_271 dl_272 dl_273 dl_274 ?_
  refine lx_cx hE hV (xs2 := [.int (xs (i + 1)), .int (xs (i + 2)), .int (xs (i + 3))]) (n := 3) rfl rfl (by decide) (List.mem_of_getElem? (i := 263) rfl) (List.mem_of_getElem? (i := 264) rfl) (List.mem_of_getElem? (i := 265) rfl) (by decide +kernel) c1 rfl n1 rfl (Nat.le_of_ble_eq_true rfl) hl.1 dl_275 (fun z hx' H1 locs1 hz hV1 => ?_)
  cases v1 _ _ hz
  refine lv_aload_n hx2 hb2 dl_278 (i := 2) rfl (lx_l2 hl) ?_
  refine lx_rd hE hl hV1 (k := 1) rfl (by omega) dl_279 dl_280 dl_281 dl_282 dl_283 ?_
  refine lx_rd hE hl hV1 (k := 2) rfl (by omega) dl_284 dl_285 dl_286 dl_287 dl_288 ?_
  refine lx_rd hE hl hV1 (k := 3) rfl (by omega) dl_289 dl_290 dl_291 dl_292 dl_293 ?_
  refine lx_cm hE hV1 (xs2 := [.int (xs (i + 1)), .int (xs (i + 2)), .int (xs (i + 3))]) (n := 3) rfl rfl (by decide) (List.mem_of_getElem? (i := 584) rfl) (List.mem_of_getElem? (i := 585) rfl) (List.mem_of_getElem? (i := 586) rfl) (by decide +kernel) c2 rfl n2 rfl (Nat.le_of_ble_eq_true rfl) hl.1 dl_294 (fun z2 hm' H2 locs2 hz2 hV2 => ?_)
  cases v2 _ _ hz2
  exact lv_icmp_eq hx2 hb2 (tgt := 594) dl_297 (by decide) (fun _ => kk hx' hm' H2 locs2 (hRR _ _ _ _ hz hz2) hV2) (fun q => absurd rfl q)
set_option maxRecDepth 100000 in
/-- needs -/
theorem lx_c4 (hE : lx_E p s m meth c b L xs D cI cZ) (hl : lv_has ls 4 [(3, .int (nI i)), (2, .ref (adm 0)), (1, .ref (adx 0)), (0, .ref b)]) (hi : i + 5 ≤ L) (hV : lx_V D cI cZ s adx adm hx hm H locs) (hR : RH hx hm) (kk : ∀ (hx' hm' : ax_H) (H1 : Heap) (locs1 : List Loc), RH hx' hm' → lx_V D cI cZ s adx adm hx' hm' H1 locs1 → W p l e room_1 s m #[Value.ref b] below meth c H1 locs1 52 1248 Q (F0 m 594 ls [])) : W p l e room_1 s m #[Value.ref b] below meth c H locs 52 1248 Q (F0 m 302 ls []) := by
  have hx2 := hE.1.1
  have hb2 := hE.1.2.1
  have hL2 := hE.2.1
  obtain ⟨K1, K2, v, c1, c2, v1, v2, hRR⟩ := tw_needs (xs (i + 1)) (xs (i + 2)) hR
  obtain ⟨⟨fs1, n1⟩, ⟨fs2, n2⟩⟩ := RH_heads hR
  refine lv_aload_n hx2 hb2 dl_302 (i := 1) rfl (lx_l1 hl) ?_
  refine lx_rd hE hl hV (k := 1) rfl (by omega) dl_303 dl_304 dl_305 dl_306 dl_307 ?_
  refine lx_rd hE hl hV (k := 2) rfl (by omega) dl_308 dl_309 dl_310 dl_311 dl_312 ?_
  refine lx_cx hE hV (xs2 := [.int (xs (i + 1)), .int (xs (i + 2))]) (n := 2) rfl rfl (by decide) (List.mem_of_getElem? (i := 267) rfl) (List.mem_of_getElem? (i := 268) rfl) (List.mem_of_getElem? (i := 269) rfl) (by decide +kernel) c1 rfl n1 rfl (Nat.le_of_ble_eq_true rfl) hl.1 dl_313 (fun z hx' H1 locs1 hz hV1 => ?_)
  cases v1 _ _ hz
  refine lv_aload_n hx2 hb2 dl_316 (i := 2) rfl (lx_l2 hl) ?_
  refine lx_rd hE hl hV1 (k := 1) rfl (by omega) dl_317 dl_318 dl_319 dl_320 dl_321 ?_
  refine lx_rd hE hl hV1 (k := 2) rfl (by omega) dl_322 dl_323 dl_324 dl_325 dl_326 ?_
  refine lx_cm hE hV1 (xs2 := [.int (xs (i + 1)), .int (xs (i + 2))]) (n := 2) rfl rfl (by decide) (List.mem_of_getElem? (i := 588) rfl) (List.mem_of_getElem? (i := 589) rfl) (List.mem_of_getElem? (i := 590) rfl) (by decide +kernel) c2 rfl n2 rfl (Nat.le_of_ble_eq_true rfl) hl.1 dl_327 (fun z2 hm' H2 locs2 hz2 hV2 => ?_)
  cases v2 _ _ hz2
  exact lv_icmp_eq hx2 hb2 (tgt := 594) dl_330 (by decide) (fun _ => kk hx' hm' H2 locs2 (hRR _ _ _ _ hz hz2) hV2) (fun q => absurd rfl q)
set_option maxRecDepth 100000 in
/-- wish -/
theorem lx_c5 (hE : lx_E p s m meth c b L xs D cI cZ) (hl : lv_has ls 4 [(3, .int (nI i)), (2, .ref (adm 0)), (1, .ref (adx 0)), (0, .ref b)]) (hi : i + 5 ≤ L) (hV : lx_V D cI cZ s adx adm hx hm H locs) (hR : RH hx hm) (kk : ∀ (hx' hm' : ax_H) (H1 : Heap) (locs1 : List Loc), RH hx' hm' → lx_V D cI cZ s adx adm hx' hm' H1 locs1 → W p l e room_1 s m #[Value.ref b] below meth c H1 locs1 52 1248 Q (F0 m 594 ls [])) : W p l e room_1 s m #[Value.ref b] below meth c H locs 52 1248 Q (F0 m 335 ls []) := by
  have hx2 := hE.1.1
  have hb2 := hE.1.2.1
  have hL2 := hE.2.1
  obtain ⟨K1, K2, v, c1, c2, v1, v2, hRR⟩ := tw_wish (xs (i + 1)) (!decide (xs (i + 2) = 0)) hR
  obtain ⟨⟨fs1, n1⟩, ⟨fs2, n2⟩⟩ := RH_heads hR
  refine lv_aload_n hx2 hb2 dl_335 (i := 1) rfl (lx_l1 hl) ?_
  refine lx_rd hE hl hV (k := 1) rfl (by omega) dl_336 dl_337 dl_338 dl_339 dl_340 ?_
  refine lx_rdb hE hl hV (k := 2) rfl (by omega) dl_341 dl_342 dl_343 dl_344 dl_345 dl_346 dl_349 dl_350 dl_353 ?_
  refine lx_cx hE hV (xs2 := [.int (xs (i + 1)), .int (bI (!decide (xs (i + 2) = 0)))]) (n := 2) rfl rfl (by decide) (List.mem_of_getElem? (i := 282) rfl) (List.mem_of_getElem? (i := 283) rfl) (List.mem_of_getElem? (i := 284) rfl) (by decide +kernel) c1 rfl n1 rfl (Nat.le_of_ble_eq_true rfl) hl.1 dl_354 (fun z hx' H1 locs1 hz hV1 => ?_)
  cases v1 _ _ hz
  refine lv_aload_n hx2 hb2 dl_357 (i := 2) rfl (lx_l2 hl) ?_
  refine lx_rd hE hl hV1 (k := 1) rfl (by omega) dl_358 dl_359 dl_360 dl_361 dl_362 ?_
  refine lx_rdb hE hl hV1 (k := 2) rfl (by omega) dl_363 dl_364 dl_365 dl_366 dl_367 dl_368 dl_371 dl_372 dl_375 ?_
  refine lx_cm hE hV1 (xs2 := [.int (xs (i + 1)), .int (bI (!decide (xs (i + 2) = 0)))]) (n := 2) rfl rfl (by decide) (List.mem_of_getElem? (i := 596) rfl) (List.mem_of_getElem? (i := 597) rfl) (List.mem_of_getElem? (i := 598) rfl) (by decide +kernel) c2 rfl n2 rfl (Nat.le_of_ble_eq_true rfl) hl.1 dl_376 (fun z2 hm' H2 locs2 hz2 hV2 => ?_)
  cases v2 _ _ hz2
  exact lv_icmp_eq hx2 hb2 (tgt := 594) dl_379 (by decide) (fun _ => kk hx' hm' H2 locs2 (hRR _ _ _ _ hz hz2) hV2) (fun q => absurd rfl q)
set_option maxRecDepth 100000 in
/-- mode -/
theorem lx_c6 (hE : lx_E p s m meth c b L xs D cI cZ) (hl : lv_has ls 4 [(3, .int (nI i)), (2, .ref (adm 0)), (1, .ref (adx 0)), (0, .ref b)]) (hi : i + 5 ≤ L) (hV : lx_V D cI cZ s adx adm hx hm H locs) (hR : RH hx hm) (kk : ∀ (hx' hm' : ax_H) (H1 : Heap) (locs1 : List Loc), RH hx' hm' → lx_V D cI cZ s adx adm hx' hm' H1 locs1 → W p l e room_1 s m #[Value.ref b] below meth c H1 locs1 52 1248 Q (F0 m 594 ls [])) : W p l e room_1 s m #[Value.ref b] below meth c H locs 52 1248 Q (F0 m 384 ls []) := by
  have hx2 := hE.1.1
  have hb2 := hE.1.2.1
  have hL2 := hE.2.1
  obtain ⟨K1, K2, v, c1, c2, v1, v2, hRR⟩ := tw_mode (xs (i + 1)) (!decide (xs (i + 2) = 0)) hR
  obtain ⟨⟨fs1, n1⟩, ⟨fs2, n2⟩⟩ := RH_heads hR
  refine lv_aload_n hx2 hb2 dl_384 (i := 1) rfl (lx_l1 hl) ?_
  refine lx_rd hE hl hV (k := 1) rfl (by omega) dl_385 dl_386 dl_387 dl_388 dl_389 ?_
  refine lx_rdb hE hl hV (k := 2) rfl (by omega) dl_390 dl_391 dl_392 dl_393 dl_394 dl_395 dl_398 dl_399 dl_402 ?_
  refine lx_cx hE hV (xs2 := [.int (xs (i + 1)), .int (bI (!decide (xs (i + 2) = 0)))]) (n := 2) rfl rfl (by decide) (List.mem_of_getElem? (i := 286) rfl) (List.mem_of_getElem? (i := 287) rfl) (List.mem_of_getElem? (i := 288) rfl) (by decide +kernel) c1 rfl n1 rfl (Nat.le_of_ble_eq_true rfl) hl.1 dl_403 (fun z hx' H1 locs1 hz hV1 => ?_)
  cases v1 _ _ hz
  refine lv_aload_n hx2 hb2 dl_406 (i := 2) rfl (lx_l2 hl) ?_
  refine lx_rd hE hl hV1 (k := 1) rfl (by omega) dl_407 dl_408 dl_409 dl_410 dl_411 ?_
  refine lx_rdb hE hl hV1 (k := 2) rfl (by omega) dl_412 dl_413 dl_414 dl_415 dl_416 dl_417 dl_420 dl_421 dl_424 ?_
  refine lx_cm hE hV1 (xs2 := [.int (xs (i + 1)), .int (bI (!decide (xs (i + 2) = 0)))]) (n := 2) rfl rfl (by decide) (List.mem_of_getElem? (i := 600) rfl) (List.mem_of_getElem? (i := 601) rfl) (List.mem_of_getElem? (i := 602) rfl) (by decide +kernel) c2 rfl n2 rfl (Nat.le_of_ble_eq_true rfl) hl.1 dl_425 (fun z2 hm' H2 locs2 hz2 hV2 => ?_)
  cases v2 _ _ hz2
  exact lv_icmp_eq hx2 hb2 (tgt := 594) dl_428 (by decide) (fun _ => kk hx' hm' H2 locs2 (hRR _ _ _ _ hz hz2) hV2) (fun q => absurd rfl q)
set_option maxRecDepth 100000 in
/-- retries -/
theorem lx_c7 (hE : lx_E p s m meth c b L xs D cI cZ) (hl : lv_has ls 4 [(3, .int (nI i)), (2, .ref (adm 0)), (1, .ref (adx 0)), (0, .ref b)]) (hi : i + 5 ≤ L) (hV : lx_V D cI cZ s adx adm hx hm H locs) (hR : RH hx hm) (kk : ∀ (hx' hm' : ax_H) (H1 : Heap) (locs1 : List Loc), RH hx' hm' → lx_V D cI cZ s adx adm hx' hm' H1 locs1 → W p l e room_1 s m #[Value.ref b] below meth c H1 locs1 52 1248 Q (F0 m 594 ls [])) : W p l e room_1 s m #[Value.ref b] below meth c H locs 52 1248 Q (F0 m 433 ls []) := by
  have hx2 := hE.1.1
  have hb2 := hE.1.2.1
  have hL2 := hE.2.1
  obtain ⟨K1, K2, v, c1, c2, v1, v2, hRR⟩ := tw_retries (xs (i + 1)) (xs (i + 2)) hR
  obtain ⟨⟨fs1, n1⟩, ⟨fs2, n2⟩⟩ := RH_heads hR
  refine lv_aload_n hx2 hb2 dl_433 (i := 1) rfl (lx_l1 hl) ?_
  refine lx_rd hE hl hV (k := 1) rfl (by omega) dl_434 dl_435 dl_436 dl_437 dl_438 ?_
  refine lx_rd hE hl hV (k := 2) rfl (by omega) dl_439 dl_440 dl_441 dl_442 dl_443 ?_
  refine lx_cx hE hV (xs2 := [.int (xs (i + 1)), .int (xs (i + 2))]) (n := 2) rfl rfl (by decide) (List.mem_of_getElem? (i := 290) rfl) (List.mem_of_getElem? (i := 291) rfl) (List.mem_of_getElem? (i := 292) rfl) (by decide +kernel) c1 rfl n1 rfl (Nat.le_of_ble_eq_true rfl) hl.1 dl_444 (fun z hx' H1 locs1 hz hV1 => ?_)
  cases v1 _ _ hz
  refine lv_aload_n hx2 hb2 dl_447 (i := 2) rfl (lx_l2 hl) ?_
  refine lx_rd hE hl hV1 (k := 1) rfl (by omega) dl_448 dl_449 dl_450 dl_451 dl_452 ?_
  refine lx_rd hE hl hV1 (k := 2) rfl (by omega) dl_453 dl_454 dl_455 dl_456 dl_457 ?_
  refine lx_cm hE hV1 (xs2 := [.int (xs (i + 1)), .int (xs (i + 2))]) (n := 2) rfl rfl (by decide) (List.mem_of_getElem? (i := 604) rfl) (List.mem_of_getElem? (i := 605) rfl) (List.mem_of_getElem? (i := 606) rfl) (by decide +kernel) c2 rfl n2 rfl (Nat.le_of_ble_eq_true rfl) hl.1 dl_458 (fun z2 hm' H2 locs2 hz2 hV2 => ?_)
  cases v2 _ _ hz2
  exact lv_icmp_eq hx2 hb2 (tgt := 594) dl_461 (by decide) (fun _ => kk hx' hm' H2 locs2 (hRR _ _ _ _ hz hz2) hV2) (fun q => absurd rfl q)
set_option maxRecDepth 100000 in
/-- run -/
theorem lx_c8 (hE : lx_E p s m meth c b L xs D cI cZ) (hl : lv_has ls 4 [(3, .int (nI i)), (2, .ref (adm 0)), (1, .ref (adx 0)), (0, .ref b)]) (hi : i + 5 ≤ L) (hV : lx_V D cI cZ s adx adm hx hm H locs) (hR : RH hx hm) (kk : ∀ (hx' hm' : ax_H) (H1 : Heap) (locs1 : List Loc), RH hx' hm' → lx_V D cI cZ s adx adm hx' hm' H1 locs1 → W p l e room_1 s m #[Value.ref b] below meth c H1 locs1 52 1248 Q (F0 m 594 ls [])) : W p l e room_1 s m #[Value.ref b] below meth c H locs 52 1248 Q (F0 m 466 ls []) := by
  have hx2 := hE.1.1
  have hb2 := hE.1.2.1
  have hL2 := hE.2.1
  obtain ⟨K1, K2, v, c1, c2, v1, v2, hRR⟩ := tw_run  hR
  obtain ⟨⟨fs1, n1⟩, ⟨fs2, n2⟩⟩ := RH_heads hR
  refine lv_aload_n hx2 hb2 dl_466 (i := 1) rfl (lx_l1 hl) ?_
  refine lx_cx hE hV (xs2 := []) (n := 0) rfl rfl (by decide) (List.mem_of_getElem? (i := 294) rfl) (List.mem_of_getElem? (i := 295) rfl) (List.mem_of_getElem? (i := 296) rfl) (by decide +kernel) c1 rfl n1 rfl (Nat.le_of_ble_eq_true rfl) hl.1 dl_467 (fun z hx' H1 locs1 hz hV1 => ?_)
  cases v1 _ _ hz
  refine lv_aload_n hx2 hb2 dl_470 (i := 2) rfl (lx_l2 hl) ?_
  refine lx_cm hE hV1 (xs2 := []) (n := 0) rfl rfl (by decide) (List.mem_of_getElem? (i := 616) rfl) (List.mem_of_getElem? (i := 617) rfl) (List.mem_of_getElem? (i := 618) rfl) (by decide +kernel) c2 rfl n2 rfl (Nat.le_of_ble_eq_true rfl) hl.1 dl_471 (fun z2 hm' H2 locs2 hz2 hV2 => ?_)
  cases v2 _ _ hz2
  exact lv_icmp_eq hx2 hb2 (tgt := 594) dl_474 (by decide) (fun _ => kk hx' hm' H2 locs2 (hRR _ _ _ _ hz hz2) hV2) (fun q => absurd rfl q)
set_option maxRecDepth 100000 in
/-- rest -/
theorem lx_c9 (hE : lx_E p s m meth c b L xs D cI cZ) (hl : lv_has ls 4 [(3, .int (nI i)), (2, .ref (adm 0)), (1, .ref (adx 0)), (0, .ref b)]) (hi : i + 5 ≤ L) (hV : lx_V D cI cZ s adx adm hx hm H locs) (hR : RH hx hm) (kk : ∀ (hx' hm' : ax_H) (H1 : Heap) (locs1 : List Loc), RH hx' hm' → lx_V D cI cZ s adx adm hx' hm' H1 locs1 → W p l e room_1 s m #[Value.ref b] below meth c H1 locs1 52 1248 Q (F0 m 594 ls [])) : W p l e room_1 s m #[Value.ref b] below meth c H locs 52 1248 Q (F0 m 479 ls []) := by
  have hx2 := hE.1.1
  have hb2 := hE.1.2.1
  have hL2 := hE.2.1
  obtain ⟨K1, K2, v, c1, c2, v1, v2, hRR⟩ := tw_rest (xs (i + 1)) hR
  obtain ⟨⟨fs1, n1⟩, ⟨fs2, n2⟩⟩ := RH_heads hR
  refine lv_aload_n hx2 hb2 dl_479 (i := 1) rfl (lx_l1 hl) ?_
  refine lx_rd hE hl hV (k := 1) rfl (by omega) dl_480 dl_481 dl_482 dl_483 dl_484 ?_
  refine lx_cx hE hV (xs2 := [.int (xs (i + 1))]) (n := 1) rfl rfl (by decide) (List.mem_of_getElem? (i := 414) rfl) (List.mem_of_getElem? (i := 415) rfl) (List.mem_of_getElem? (i := 416) rfl) (by decide +kernel) c1 rfl n1 rfl (Nat.le_of_ble_eq_true rfl) hl.1 dl_485 (fun z hx' H1 locs1 hz hV1 => ?_)
  cases v1 _ _ hz
  refine lv_aload_n hx2 hb2 dl_488 (i := 2) rfl (lx_l2 hl) ?_
  refine lx_rd hE hl hV1 (k := 1) rfl (by omega) dl_489 dl_490 dl_491 dl_492 dl_493 ?_
  refine lx_cm hE hV1 (xs2 := [.int (xs (i + 1))]) (n := 1) rfl rfl (by decide) (List.mem_of_getElem? (i := 608) rfl) (List.mem_of_getElem? (i := 609) rfl) (List.mem_of_getElem? (i := 610) rfl) (by decide +kernel) c2 rfl n2 rfl (Nat.le_of_ble_eq_true rfl) hl.1 dl_494 (fun z2 hm' H2 locs2 hz2 hV2 => ?_)
  cases v2 _ _ hz2
  exact lv_icmp_eq hx2 hb2 (tgt := 594) dl_497 (by decide) (fun _ => kk hx' hm' H2 locs2 (hRR _ _ _ _ hz hz2) hV2) (fun q => absurd rfl q)
set_option maxRecDepth 100000 in
/-- outcome -/
theorem lx_c10 (hE : lx_E p s m meth c b L xs D cI cZ) (hl : lv_has ls 4 [(3, .int (nI i)), (2, .ref (adm 0)), (1, .ref (adx 0)), (0, .ref b)]) (hi : i + 5 ≤ L) (hV : lx_V D cI cZ s adx adm hx hm H locs) (hR : RH hx hm) (kk : ∀ (hx' hm' : ax_H) (H1 : Heap) (locs1 : List Loc), RH hx' hm' → lx_V D cI cZ s adx adm hx' hm' H1 locs1 → W p l e room_1 s m #[Value.ref b] below meth c H1 locs1 52 1248 Q (F0 m 594 ls [])) : W p l e room_1 s m #[Value.ref b] below meth c H locs 52 1248 Q (F0 m 502 ls []) := by
  have hx2 := hE.1.1
  have hb2 := hE.1.2.1
  have hL2 := hE.2.1
  obtain ⟨K1, K2, v, c1, c2, v1, v2, hRR⟩ := tw_outcome (xs (i + 1)) (xs (i + 2)) hR
  obtain ⟨⟨fs1, n1⟩, ⟨fs2, n2⟩⟩ := RH_heads hR
  refine lv_aload_n hx2 hb2 dl_502 (i := 1) rfl (lx_l1 hl) ?_
  refine lx_rd hE hl hV (k := 1) rfl (by omega) dl_503 dl_504 dl_505 dl_506 dl_507 ?_
  refine lx_rd hE hl hV (k := 2) rfl (by omega) dl_508 dl_509 dl_510 dl_511 dl_512 ?_
  refine lx_cx hE hV (xs2 := [.int (xs (i + 1)), .int (xs (i + 2))]) (n := 2) rfl rfl (by decide) (List.mem_of_getElem? (i := 421) rfl) (List.mem_of_getElem? (i := 422) rfl) (List.mem_of_getElem? (i := 423) rfl) (by decide +kernel) c1 rfl n1 rfl (Nat.le_of_ble_eq_true rfl) hl.1 dl_513 (fun z hx' H1 locs1 hz hV1 => ?_)
  cases v1 _ _ hz
  refine lv_aload_n hx2 hb2 dl_516 (i := 2) rfl (lx_l2 hl) ?_
  refine lx_rd hE hl hV1 (k := 1) rfl (by omega) dl_517 dl_518 dl_519 dl_520 dl_521 ?_
  refine lx_rd hE hl hV1 (k := 2) rfl (by omega) dl_522 dl_523 dl_524 dl_525 dl_526 ?_
  refine lx_cm hE hV1 (xs2 := [.int (xs (i + 1)), .int (xs (i + 2))]) (n := 2) rfl rfl (by decide) (List.mem_of_getElem? (i := 676) rfl) (List.mem_of_getElem? (i := 677) rfl) (List.mem_of_getElem? (i := 678) rfl) (by decide +kernel) c2 rfl n2 rfl (Nat.le_of_ble_eq_true rfl) hl.1 dl_527 (fun z2 hm' H2 locs2 hz2 hV2 => ?_)
  cases v2 _ _ hz2
  exact lv_icmp_eq hx2 hb2 (tgt := 594) dl_530 (by decide) (fun _ => kk hx' hm' H2 locs2 (hRR _ _ _ _ hz hz2) hV2) (fun q => absurd rfl q)
set_option maxRecDepth 100000 in
/-- first -/
theorem lx_c11 (hE : lx_E p s m meth c b L xs D cI cZ) (hl : lv_has ls 4 [(3, .int (nI i)), (2, .ref (adm 0)), (1, .ref (adx 0)), (0, .ref b)]) (hi : i + 5 ≤ L) (hV : lx_V D cI cZ s adx adm hx hm H locs) (hR : RH hx hm) (kk : ∀ (hx' hm' : ax_H) (H1 : Heap) (locs1 : List Loc), RH hx' hm' → lx_V D cI cZ s adx adm hx' hm' H1 locs1 → W p l e room_1 s m #[Value.ref b] below meth c H1 locs1 52 1248 Q (F0 m 594 ls [])) : W p l e room_1 s m #[Value.ref b] below meth c H locs 52 1248 Q (F0 m 535 ls []) := by
  have hx2 := hE.1.1
  have hb2 := hE.1.2.1
  have hL2 := hE.2.1
  obtain ⟨K1, K2, v, c1, c2, v1, v2, hRR⟩ := tw_first  hR
  obtain ⟨⟨fs1, n1⟩, ⟨fs2, n2⟩⟩ := RH_heads hR
  refine lv_aload_n hx2 hb2 dl_535 (i := 1) rfl (lx_l1 hl) ?_
  refine lx_cx hE hV (xs2 := []) (n := 0) rfl rfl (by decide) (List.mem_of_getElem? (i := 429) rfl) (List.mem_of_getElem? (i := 430) rfl) (List.mem_of_getElem? (i := 431) rfl) (by decide +kernel) c1 rfl n1 rfl (Nat.le_of_ble_eq_true rfl) hl.1 dl_536 (fun z hx' H1 locs1 hz hV1 => ?_)
  cases v1 _ _ hz
  refine lv_aload_n hx2 hb2 dl_539 (i := 2) rfl (lx_l2 hl) ?_
  refine lx_cm hE hV1 (xs2 := []) (n := 0) rfl rfl (by decide) (List.mem_of_getElem? (i := 680) rfl) (List.mem_of_getElem? (i := 681) rfl) (List.mem_of_getElem? (i := 682) rfl) (by decide +kernel) c2 rfl n2 rfl (Nat.le_of_ble_eq_true rfl) hl.1 dl_540 (fun z2 hm' H2 locs2 hz2 hV2 => ?_)
  cases v2 _ _ hz2
  exact lv_icmp_eq hx2 hb2 (tgt := 594) dl_543 (by decide) (fun _ => kk hx' hm' H2 locs2 (hRR _ _ _ _ hz hz2) hV2) (fun q => absurd rfl q)
set_option maxRecDepth 100000 in
/-- order -/
theorem lx_c12 (hE : lx_E p s m meth c b L xs D cI cZ) (hl : lv_has ls 4 [(3, .int (nI i)), (2, .ref (adm 0)), (1, .ref (adx 0)), (0, .ref b)]) (hi : i + 5 ≤ L) (hV : lx_V D cI cZ s adx adm hx hm H locs) (hR : RH hx hm) (kk : ∀ (hx' hm' : ax_H) (H1 : Heap) (locs1 : List Loc), RH hx' hm' → lx_V D cI cZ s adx adm hx' hm' H1 locs1 → W p l e room_1 s m #[Value.ref b] below meth c H1 locs1 52 1248 Q (F0 m 594 ls [])) : W p l e room_1 s m #[Value.ref b] below meth c H locs 52 1248 Q (F0 m 548 ls []) := by
  have hx2 := hE.1.1
  have hb2 := hE.1.2.1
  have hL2 := hE.2.1
  obtain ⟨K1, K2, v, c1, c2, v1, v2, hRR⟩ := tw_order (xs (i + 1)) hR
  obtain ⟨⟨fs1, n1⟩, ⟨fs2, n2⟩⟩ := RH_heads hR
  refine lv_aload_n hx2 hb2 dl_548 (i := 1) rfl (lx_l1 hl) ?_
  refine lx_rd hE hl hV (k := 1) rfl (by omega) dl_549 dl_550 dl_551 dl_552 dl_553 ?_
  refine lx_cx hE hV (xs2 := [.int (xs (i + 1))]) (n := 1) rfl rfl (by decide) (List.mem_of_getElem? (i := 434) rfl) (List.mem_of_getElem? (i := 435) rfl) (List.mem_of_getElem? (i := 436) rfl) (by decide +kernel) c1 rfl n1 rfl (Nat.le_of_ble_eq_true rfl) hl.1 dl_554 (fun z hx' H1 locs1 hz hV1 => ?_)
  cases v1 _ _ hz
  refine lv_aload_n hx2 hb2 dl_557 (i := 2) rfl (lx_l2 hl) ?_
  refine lx_rd hE hl hV1 (k := 1) rfl (by omega) dl_558 dl_559 dl_560 dl_561 dl_562 ?_
  refine lx_cm hE hV1 (xs2 := [.int (xs (i + 1))]) (n := 1) rfl rfl (by decide) (List.mem_of_getElem? (i := 684) rfl) (List.mem_of_getElem? (i := 685) rfl) (List.mem_of_getElem? (i := 686) rfl) (by decide +kernel) c2 rfl n2 rfl (Nat.le_of_ble_eq_true rfl) hl.1 dl_563 (fun z2 hm' H2 locs2 hz2 hV2 => ?_)
  cases v2 _ _ hz2
  exact lv_icmp_eq hx2 hb2 (tgt := 594) dl_566 (by decide) (fun _ => kk hx' hm' H2 locs2 (hRR _ _ _ _ hz hz2) hV2) (fun q => absurd rfl q)
set_option maxRecDepth 100000 in
/-- peak -/
theorem lx_c13 (hE : lx_E p s m meth c b L xs D cI cZ) (hl : lv_has ls 4 [(3, .int (nI i)), (2, .ref (adm 0)), (1, .ref (adx 0)), (0, .ref b)]) (hi : i + 5 ≤ L) (hV : lx_V D cI cZ s adx adm hx hm H locs) (hR : RH hx hm) (kk : ∀ (hx' hm' : ax_H) (H1 : Heap) (locs1 : List Loc), RH hx' hm' → lx_V D cI cZ s adx adm hx' hm' H1 locs1 → W p l e room_1 s m #[Value.ref b] below meth c H1 locs1 52 1248 Q (F0 m 594 ls [])) : W p l e room_1 s m #[Value.ref b] below meth c H locs 52 1248 Q (F0 m 571 ls []) := by
  have hx2 := hE.1.1
  have hb2 := hE.1.2.1
  have hL2 := hE.2.1
  obtain ⟨K1, K2, v, c1, c2, v1, v2, hRR⟩ := tw_peak (xs (i + 1)) hR
  obtain ⟨⟨fs1, n1⟩, ⟨fs2, n2⟩⟩ := RH_heads hR
  refine lv_aload_n hx2 hb2 dl_571 (i := 1) rfl (lx_l1 hl) ?_
  refine lx_rd hE hl hV (k := 1) rfl (by omega) dl_572 dl_573 dl_574 dl_575 dl_576 ?_
  refine lx_cx hE hV (xs2 := [.int (xs (i + 1))]) (n := 1) rfl rfl (by decide) (List.mem_of_getElem? (i := 442) rfl) (List.mem_of_getElem? (i := 443) rfl) (List.mem_of_getElem? (i := 444) rfl) (by decide +kernel) c1 rfl n1 rfl (Nat.le_of_ble_eq_true rfl) hl.1 dl_577 (fun z hx' H1 locs1 hz hV1 => ?_)
  cases v1 _ _ hz
  refine lv_aload_n hx2 hb2 dl_580 (i := 2) rfl (lx_l2 hl) ?_
  refine lx_rd hE hl hV1 (k := 1) rfl (by omega) dl_581 dl_582 dl_583 dl_584 dl_585 ?_
  refine lx_cm hE hV1 (xs2 := [.int (xs (i + 1))]) (n := 1) rfl rfl (by decide) (List.mem_of_getElem? (i := 688) rfl) (List.mem_of_getElem? (i := 689) rfl) (List.mem_of_getElem? (i := 690) rfl) (by decide +kernel) c2 rfl n2 rfl (Nat.le_of_ble_eq_true rfl) hl.1 dl_586 (fun z2 hm' H2 locs2 hz2 hV2 => ?_)
  cases v2 _ _ hz2
  exact lv_icmp_eq hx2 hb2 (tgt := 594) dl_589 (by decide) (fun _ => kk hx' hm' H2 locs2 (hRR _ _ _ _ hz hz2) hV2) (fun q => absurd rfl q)
end LY
