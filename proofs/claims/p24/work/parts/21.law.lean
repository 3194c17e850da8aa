theorem dL_law_0 : decode cL_law 0 = .ok (.new 7, 3) := by decide +kernel
theorem dL_law_3 : decode cL_law 3 = .ok (.dup, 1) := by decide +kernel
theorem dL_law_4 : decode cL_law 4 = .ok (.invokespecial 9, 3) := by decide +kernel
theorem dL_law_7 : decode cL_law 7 = .ok (.astore_n 1, 1) := by decide +kernel
theorem dL_law_8 : decode cL_law 8 = .ok (.new 10, 3) := by decide +kernel
theorem dL_law_11 : decode cL_law 11 = .ok (.dup, 1) := by decide +kernel
theorem dL_law_12 : decode cL_law 12 = .ok (.invokespecial 12, 3) := by decide +kernel
theorem dL_law_15 : decode cL_law 15 = .ok (.astore_n 2, 1) := by decide +kernel
theorem dL_law_16 : decode cL_law 16 = .ok (.iconst 0, 1) := by decide +kernel
theorem dL_law_17 : decode cL_law 17 = .ok (.istore_n 3, 1) := by decide +kernel
theorem dL_law_18 : decode cL_law 18 = .ok (.iload_n 3, 1) := by decide +kernel
theorem dL_law_19 : decode cL_law 19 = .ok (.aload_n 0, 1) := by decide +kernel
theorem dL_law_20 : decode cL_law 20 = .ok (.arraylength, 1) := by decide +kernel
theorem dL_law_21 : decode cL_law 21 = .ok (.bipush 6, 2) := by decide +kernel
theorem dL_law_23 : decode cL_law 23 = .ok (.isub, 1) := by decide +kernel
theorem dL_law_24 : decode cL_law 24 = .ok (.if_icmp .gt 793, 3) := by decide +kernel
theorem dL_law_27 : decode cL_law 27 = .ok (.aload_n 0, 1) := by decide +kernel
theorem dL_law_28 : decode cL_law 28 = .ok (.iload_n 3, 1) := by decide +kernel
theorem dL_law_29 : decode cL_law 29 = .ok (.iaload, 1) := by decide +kernel
theorem dL_law_30 : decode cL_law 30 = .ok (.bipush 31, 2) := by decide +kernel
theorem dL_law_32 : decode cL_law 32 = .ok (.iand, 1) := by decide +kernel
theorem dL_law_33 : decode cL_law 33 = .ok (.tableswitch 778 0 22 #[107, 140, 203, 226, 239, 252, 285, 318, 351, 400, 449, 482, 505, 548, 561, 594, 617, 640, 673, 706, 729, 742, 755], 107) := by decide +kernel
theorem dL_law_140 : decode cL_law 140 = .ok (.aload_n 1, 1) := by decide +kernel
theorem dL_law_141 : decode cL_law 141 = .ok (.aload_n 0, 1) := by decide +kernel
theorem dL_law_142 : decode cL_law 142 = .ok (.iload_n 3, 1) := by decide +kernel
theorem dL_law_143 : decode cL_law 143 = .ok (.iconst 1, 1) := by decide +kernel
theorem dL_law_144 : decode cL_law 144 = .ok (.iadd, 1) := by decide +kernel
theorem dL_law_145 : decode cL_law 145 = .ok (.iaload, 1) := by decide +kernel
theorem dL_law_146 : decode cL_law 146 = .ok (.aload_n 0, 1) := by decide +kernel
theorem dL_law_147 : decode cL_law 147 = .ok (.iload_n 3, 1) := by decide +kernel
theorem dL_law_148 : decode cL_law 148 = .ok (.iconst 2, 1) := by decide +kernel
theorem dL_law_149 : decode cL_law 149 = .ok (.iadd, 1) := by decide +kernel
theorem dL_law_150 : decode cL_law 150 = .ok (.iaload, 1) := by decide +kernel
theorem dL_law_151 : decode cL_law 151 = .ok (.invokevirtual 13, 3) := by decide +kernel
theorem dL_law_154 : decode cL_law 154 = .ok (.pop, 1) := by decide +kernel
theorem dL_law_155 : decode cL_law 155 = .ok (.aload_n 2, 1) := by decide +kernel
theorem dL_law_156 : decode cL_law 156 = .ok (.aload_n 0, 1) := by decide +kernel
theorem dL_law_157 : decode cL_law 157 = .ok (.iload_n 3, 1) := by decide +kernel
theorem dL_law_158 : decode cL_law 158 = .ok (.iconst 1, 1) := by decide +kernel
theorem dL_law_159 : decode cL_law 159 = .ok (.iadd, 1) := by decide +kernel
theorem dL_law_160 : decode cL_law 160 = .ok (.iaload, 1) := by decide +kernel
theorem dL_law_161 : decode cL_law 161 = .ok (.aload_n 0, 1) := by decide +kernel
theorem dL_law_162 : decode cL_law 162 = .ok (.iload_n 3, 1) := by decide +kernel
theorem dL_law_163 : decode cL_law 163 = .ok (.iconst 2, 1) := by decide +kernel
theorem dL_law_164 : decode cL_law 164 = .ok (.iadd, 1) := by decide +kernel
theorem dL_law_165 : decode cL_law 165 = .ok (.iaload, 1) := by decide +kernel
theorem dL_law_166 : decode cL_law 166 = .ok (.invokevirtual 17, 3) := by decide +kernel
theorem dL_law_169 : decode cL_law 169 = .ok (.pop, 1) := by decide +kernel
theorem dL_law_170 : decode cL_law 170 = .ok (.goto 641, 3) := by decide +kernel
theorem dL_law_173 : decode cL_law 173 = .ok (.aload_n 1, 1) := by decide +kernel
theorem dL_law_174 : decode cL_law 174 = .ok (.aload_n 0, 1) := by decide +kernel
theorem dL_law_175 : decode cL_law 175 = .ok (.iload_n 3, 1) := by decide +kernel
theorem dL_law_176 : decode cL_law 176 = .ok (.iconst 1, 1) := by decide +kernel
theorem dL_law_177 : decode cL_law 177 = .ok (.iadd, 1) := by decide +kernel
theorem dL_law_178 : decode cL_law 178 = .ok (.iaload, 1) := by decide +kernel
theorem dL_law_179 : decode cL_law 179 = .ok (.aload_n 0, 1) := by decide +kernel
theorem dL_law_180 : decode cL_law 180 = .ok (.iload_n 3, 1) := by decide +kernel
theorem dL_law_181 : decode cL_law 181 = .ok (.iconst 2, 1) := by decide +kernel
theorem dL_law_182 : decode cL_law 182 = .ok (.iadd, 1) := by decide +kernel
theorem dL_law_183 : decode cL_law 183 = .ok (.iaload, 1) := by decide +kernel
theorem dL_law_184 : decode cL_law 184 = .ok (.aload_n 0, 1) := by decide +kernel
theorem dL_law_185 : decode cL_law 185 = .ok (.iload_n 3, 1) := by decide +kernel
theorem dL_law_186 : decode cL_law 186 = .ok (.iconst 3, 1) := by decide +kernel
theorem dL_law_187 : decode cL_law 187 = .ok (.iadd, 1) := by decide +kernel
theorem dL_law_188 : decode cL_law 188 = .ok (.iaload, 1) := by decide +kernel
theorem dL_law_189 : decode cL_law 189 = .ok (.aload_n 0, 1) := by decide +kernel
theorem dL_law_190 : decode cL_law 190 = .ok (.iload_n 3, 1) := by decide +kernel
theorem dL_law_191 : decode cL_law 191 = .ok (.iconst 4, 1) := by decide +kernel
theorem dL_law_192 : decode cL_law 192 = .ok (.iadd, 1) := by decide +kernel
theorem dL_law_193 : decode cL_law 193 = .ok (.iaload, 1) := by decide +kernel
theorem dL_law_194 : decode cL_law 194 = .ok (.aload_n 0, 1) := by decide +kernel
theorem dL_law_195 : decode cL_law 195 = .ok (.iload_n 3, 1) := by decide +kernel
theorem dL_law_196 : decode cL_law 196 = .ok (.iconst 5, 1) := by decide +kernel
theorem dL_law_197 : decode cL_law 197 = .ok (.iadd, 1) := by decide +kernel
theorem dL_law_198 : decode cL_law 198 = .ok (.iaload, 1) := by decide +kernel
theorem dL_law_199 : decode cL_law 199 = .ok (.invokevirtual 18, 3) := by decide +kernel
theorem dL_law_202 : decode cL_law 202 = .ok (.pop, 1) := by decide +kernel
theorem dL_law_203 : decode cL_law 203 = .ok (.aload_n 2, 1) := by decide +kernel
theorem dL_law_204 : decode cL_law 204 = .ok (.aload_n 0, 1) := by decide +kernel
theorem dL_law_205 : decode cL_law 205 = .ok (.iload_n 3, 1) := by decide +kernel
theorem dL_law_206 : decode cL_law 206 = .ok (.iconst 1, 1) := by decide +kernel
theorem dL_law_207 : decode cL_law 207 = .ok (.iadd, 1) := by decide +kernel
theorem dL_law_208 : decode cL_law 208 = .ok (.iaload, 1) := by decide +kernel
theorem dL_law_209 : decode cL_law 209 = .ok (.aload_n 0, 1) := by decide +kernel
theorem dL_law_210 : decode cL_law 210 = .ok (.iload_n 3, 1) := by decide +kernel
theorem dL_law_211 : decode cL_law 211 = .ok (.iconst 2, 1) := by decide +kernel
theorem dL_law_212 : decode cL_law 212 = .ok (.iadd, 1) := by decide +kernel
theorem dL_law_213 : decode cL_law 213 = .ok (.iaload, 1) := by decide +kernel
theorem dL_law_214 : decode cL_law 214 = .ok (.aload_n 0, 1) := by decide +kernel
theorem dL_law_215 : decode cL_law 215 = .ok (.iload_n 3, 1) := by decide +kernel
theorem dL_law_216 : decode cL_law 216 = .ok (.iconst 3, 1) := by decide +kernel
theorem dL_law_217 : decode cL_law 217 = .ok (.iadd, 1) := by decide +kernel
theorem dL_law_218 : decode cL_law 218 = .ok (.iaload, 1) := by decide +kernel
theorem dL_law_219 : decode cL_law 219 = .ok (.aload_n 0, 1) := by decide +kernel
theorem dL_law_220 : decode cL_law 220 = .ok (.iload_n 3, 1) := by decide +kernel
theorem dL_law_221 : decode cL_law 221 = .ok (.iconst 4, 1) := by decide +kernel
theorem dL_law_222 : decode cL_law 222 = .ok (.iadd, 1) := by decide +kernel
theorem dL_law_223 : decode cL_law 223 = .ok (.iaload, 1) := by decide +kernel
theorem dL_law_224 : decode cL_law 224 = .ok (.aload_n 0, 1) := by decide +kernel
theorem dL_law_225 : decode cL_law 225 = .ok (.iload_n 3, 1) := by decide +kernel
theorem dL_law_226 : decode cL_law 226 = .ok (.iconst 5, 1) := by decide +kernel
theorem dL_law_227 : decode cL_law 227 = .ok (.iadd, 1) := by decide +kernel
theorem dL_law_228 : decode cL_law 228 = .ok (.iaload, 1) := by decide +kernel
theorem dL_law_229 : decode cL_law 229 = .ok (.invokevirtual 22, 3) := by decide +kernel
theorem dL_law_232 : decode cL_law 232 = .ok (.pop, 1) := by decide +kernel
theorem dL_law_233 : decode cL_law 233 = .ok (.goto 578, 3) := by decide +kernel
theorem dL_law_236 : decode cL_law 236 = .ok (.aload_n 1, 1) := by decide +kernel
theorem dL_law_237 : decode cL_law 237 = .ok (.aload_n 0, 1) := by decide +kernel
theorem dL_law_238 : decode cL_law 238 = .ok (.iload_n 3, 1) := by decide +kernel
theorem dL_law_239 : decode cL_law 239 = .ok (.iconst 1, 1) := by decide +kernel
theorem dL_law_240 : decode cL_law 240 = .ok (.iadd, 1) := by decide +kernel
theorem dL_law_241 : decode cL_law 241 = .ok (.iaload, 1) := by decide +kernel
theorem dL_law_242 : decode cL_law 242 = .ok (.invokevirtual 23, 3) := by decide +kernel
theorem dL_law_245 : decode cL_law 245 = .ok (.pop, 1) := by decide +kernel
theorem dL_law_246 : decode cL_law 246 = .ok (.aload_n 2, 1) := by decide +kernel
theorem dL_law_247 : decode cL_law 247 = .ok (.aload_n 0, 1) := by decide +kernel
theorem dL_law_248 : decode cL_law 248 = .ok (.iload_n 3, 1) := by decide +kernel
theorem dL_law_249 : decode cL_law 249 = .ok (.iconst 1, 1) := by decide +kernel
theorem dL_law_250 : decode cL_law 250 = .ok (.iadd, 1) := by decide +kernel
theorem dL_law_251 : decode cL_law 251 = .ok (.iaload, 1) := by decide +kernel
theorem dL_law_252 : decode cL_law 252 = .ok (.invokevirtual 27, 3) := by decide +kernel
theorem dL_law_255 : decode cL_law 255 = .ok (.pop, 1) := by decide +kernel
theorem dL_law_256 : decode cL_law 256 = .ok (.goto 555, 3) := by decide +kernel
theorem dL_law_259 : decode cL_law 259 = .ok (.aload_n 1, 1) := by decide +kernel
theorem dL_law_260 : decode cL_law 260 = .ok (.invokevirtual 28, 3) := by decide +kernel
theorem dL_law_263 : decode cL_law 263 = .ok (.pop, 1) := by decide +kernel
theorem dL_law_264 : decode cL_law 264 = .ok (.aload_n 2, 1) := by decide +kernel
theorem dL_law_265 : decode cL_law 265 = .ok (.invokevirtual 32, 3) := by decide +kernel
theorem dL_law_268 : decode cL_law 268 = .ok (.pop, 1) := by decide +kernel
theorem dL_law_269 : decode cL_law 269 = .ok (.goto 542, 3) := by decide +kernel
theorem dL_law_272 : decode cL_law 272 = .ok (.aload_n 1, 1) := by decide +kernel
theorem dL_law_273 : decode cL_law 273 = .ok (.invokevirtual 33, 3) := by decide +kernel
theorem dL_law_276 : decode cL_law 276 = .ok (.pop, 1) := by decide +kernel
theorem dL_law_277 : decode cL_law 277 = .ok (.aload_n 2, 1) := by decide +kernel
theorem dL_law_278 : decode cL_law 278 = .ok (.invokevirtual 36, 3) := by decide +kernel
theorem dL_law_281 : decode cL_law 281 = .ok (.pop, 1) := by decide +kernel
theorem dL_law_282 : decode cL_law 282 = .ok (.goto 529, 3) := by decide +kernel
theorem dL_law_285 : decode cL_law 285 = .ok (.aload_n 1, 1) := by decide +kernel
theorem dL_law_286 : decode cL_law 286 = .ok (.aload_n 0, 1) := by decide +kernel
theorem dL_law_287 : decode cL_law 287 = .ok (.iload_n 3, 1) := by decide +kernel
theorem dL_law_288 : decode cL_law 288 = .ok (.iconst 1, 1) := by decide +kernel
theorem dL_law_289 : decode cL_law 289 = .ok (.iadd, 1) := by decide +kernel
theorem dL_law_290 : decode cL_law 290 = .ok (.iaload, 1) := by decide +kernel
theorem dL_law_291 : decode cL_law 291 = .ok (.aload_n 0, 1) := by decide +kernel
theorem dL_law_292 : decode cL_law 292 = .ok (.iload_n 3, 1) := by decide +kernel
theorem dL_law_293 : decode cL_law 293 = .ok (.iconst 2, 1) := by decide +kernel
theorem dL_law_294 : decode cL_law 294 = .ok (.iadd, 1) := by decide +kernel
theorem dL_law_295 : decode cL_law 295 = .ok (.iaload, 1) := by decide +kernel
theorem dL_law_296 : decode cL_law 296 = .ok (.invokevirtual 37, 3) := by decide +kernel
theorem dL_law_299 : decode cL_law 299 = .ok (.pop2, 1) := by decide +kernel
theorem dL_law_300 : decode cL_law 300 = .ok (.aload_n 2, 1) := by decide +kernel
theorem dL_law_301 : decode cL_law 301 = .ok (.aload_n 0, 1) := by decide +kernel
theorem dL_law_302 : decode cL_law 302 = .ok (.iload_n 3, 1) := by decide +kernel
theorem dL_law_303 : decode cL_law 303 = .ok (.iconst 1, 1) := by decide +kernel
theorem dL_law_304 : decode cL_law 304 = .ok (.iadd, 1) := by decide +kernel
theorem dL_law_305 : decode cL_law 305 = .ok (.iaload, 1) := by decide +kernel
theorem dL_law_306 : decode cL_law 306 = .ok (.aload_n 0, 1) := by decide +kernel
theorem dL_law_307 : decode cL_law 307 = .ok (.iload_n 3, 1) := by decide +kernel
theorem dL_law_308 : decode cL_law 308 = .ok (.iconst 2, 1) := by decide +kernel
theorem dL_law_309 : decode cL_law 309 = .ok (.iadd, 1) := by decide +kernel
theorem dL_law_310 : decode cL_law 310 = .ok (.iaload, 1) := by decide +kernel
theorem dL_law_311 : decode cL_law 311 = .ok (.invokevirtual 41, 3) := by decide +kernel
theorem dL_law_314 : decode cL_law 314 = .ok (.pop2, 1) := by decide +kernel
theorem dL_law_315 : decode cL_law 315 = .ok (.goto 496, 3) := by decide +kernel
theorem dL_law_318 : decode cL_law 318 = .ok (.aload_n 1, 1) := by decide +kernel
theorem dL_law_319 : decode cL_law 319 = .ok (.aload_n 0, 1) := by decide +kernel
theorem dL_law_320 : decode cL_law 320 = .ok (.iload_n 3, 1) := by decide +kernel
theorem dL_law_321 : decode cL_law 321 = .ok (.iconst 1, 1) := by decide +kernel
theorem dL_law_322 : decode cL_law 322 = .ok (.iadd, 1) := by decide +kernel
theorem dL_law_323 : decode cL_law 323 = .ok (.iaload, 1) := by decide +kernel
theorem dL_law_324 : decode cL_law 324 = .ok (.aload_n 0, 1) := by decide +kernel
theorem dL_law_325 : decode cL_law 325 = .ok (.iload_n 3, 1) := by decide +kernel
theorem dL_law_326 : decode cL_law 326 = .ok (.iconst 2, 1) := by decide +kernel
theorem dL_law_327 : decode cL_law 327 = .ok (.iadd, 1) := by decide +kernel
theorem dL_law_328 : decode cL_law 328 = .ok (.iaload, 1) := by decide +kernel
theorem dL_law_329 : decode cL_law 329 = .ok (.invokevirtual 42, 3) := by decide +kernel
theorem dL_law_332 : decode cL_law 332 = .ok (.pop, 1) := by decide +kernel
theorem dL_law_333 : decode cL_law 333 = .ok (.aload_n 2, 1) := by decide +kernel
theorem dL_law_334 : decode cL_law 334 = .ok (.aload_n 0, 1) := by decide +kernel
theorem dL_law_335 : decode cL_law 335 = .ok (.iload_n 3, 1) := by decide +kernel
theorem dL_law_336 : decode cL_law 336 = .ok (.iconst 1, 1) := by decide +kernel
theorem dL_law_337 : decode cL_law 337 = .ok (.iadd, 1) := by decide +kernel
theorem dL_law_338 : decode cL_law 338 = .ok (.iaload, 1) := by decide +kernel
theorem dL_law_339 : decode cL_law 339 = .ok (.aload_n 0, 1) := by decide +kernel
theorem dL_law_340 : decode cL_law 340 = .ok (.iload_n 3, 1) := by decide +kernel
theorem dL_law_341 : decode cL_law 341 = .ok (.iconst 2, 1) := by decide +kernel
theorem dL_law_342 : decode cL_law 342 = .ok (.iadd, 1) := by decide +kernel
theorem dL_law_343 : decode cL_law 343 = .ok (.iaload, 1) := by decide +kernel
theorem dL_law_344 : decode cL_law 344 = .ok (.invokevirtual 45, 3) := by decide +kernel
theorem dL_law_347 : decode cL_law 347 = .ok (.pop, 1) := by decide +kernel
theorem dL_law_348 : decode cL_law 348 = .ok (.goto 463, 3) := by decide +kernel
theorem dL_law_351 : decode cL_law 351 = .ok (.aload_n 1, 1) := by decide +kernel
theorem dL_law_352 : decode cL_law 352 = .ok (.aload_n 0, 1) := by decide +kernel
theorem dL_law_353 : decode cL_law 353 = .ok (.iload_n 3, 1) := by decide +kernel
theorem dL_law_354 : decode cL_law 354 = .ok (.iconst 1, 1) := by decide +kernel
theorem dL_law_355 : decode cL_law 355 = .ok (.iadd, 1) := by decide +kernel
theorem dL_law_356 : decode cL_law 356 = .ok (.iaload, 1) := by decide +kernel
theorem dL_law_357 : decode cL_law 357 = .ok (.aload_n 0, 1) := by decide +kernel
theorem dL_law_358 : decode cL_law 358 = .ok (.iload_n 3, 1) := by decide +kernel
theorem dL_law_359 : decode cL_law 359 = .ok (.iconst 2, 1) := by decide +kernel
theorem dL_law_360 : decode cL_law 360 = .ok (.iadd, 1) := by decide +kernel
theorem dL_law_361 : decode cL_law 361 = .ok (.iaload, 1) := by decide +kernel
theorem dL_law_362 : decode cL_law 362 = .ok (.invokevirtual 46, 3) := by decide +kernel
theorem dL_law_365 : decode cL_law 365 = .ok (.pop, 1) := by decide +kernel
theorem dL_law_366 : decode cL_law 366 = .ok (.aload_n 2, 1) := by decide +kernel
theorem dL_law_367 : decode cL_law 367 = .ok (.aload_n 0, 1) := by decide +kernel
theorem dL_law_368 : decode cL_law 368 = .ok (.iload_n 3, 1) := by decide +kernel
theorem dL_law_369 : decode cL_law 369 = .ok (.iconst 1, 1) := by decide +kernel
theorem dL_law_370 : decode cL_law 370 = .ok (.iadd, 1) := by decide +kernel
theorem dL_law_371 : decode cL_law 371 = .ok (.iaload, 1) := by decide +kernel
theorem dL_law_372 : decode cL_law 372 = .ok (.aload_n 0, 1) := by decide +kernel
theorem dL_law_373 : decode cL_law 373 = .ok (.iload_n 3, 1) := by decide +kernel
theorem dL_law_374 : decode cL_law 374 = .ok (.iconst 2, 1) := by decide +kernel
theorem dL_law_375 : decode cL_law 375 = .ok (.iadd, 1) := by decide +kernel
theorem dL_law_376 : decode cL_law 376 = .ok (.iaload, 1) := by decide +kernel
theorem dL_law_377 : decode cL_law 377 = .ok (.invokevirtual 49, 3) := by decide +kernel
theorem dL_law_380 : decode cL_law 380 = .ok (.pop, 1) := by decide +kernel
theorem dL_law_381 : decode cL_law 381 = .ok (.goto 430, 3) := by decide +kernel
theorem dL_law_384 : decode cL_law 384 = .ok (.aload_n 1, 1) := by decide +kernel
theorem dL_law_385 : decode cL_law 385 = .ok (.aload_n 0, 1) := by decide +kernel
theorem dL_law_386 : decode cL_law 386 = .ok (.iload_n 3, 1) := by decide +kernel
theorem dL_law_387 : decode cL_law 387 = .ok (.iconst 1, 1) := by decide +kernel
theorem dL_law_388 : decode cL_law 388 = .ok (.iadd, 1) := by decide +kernel
theorem dL_law_389 : decode cL_law 389 = .ok (.iaload, 1) := by decide +kernel
theorem dL_law_390 : decode cL_law 390 = .ok (.aload_n 0, 1) := by decide +kernel
theorem dL_law_391 : decode cL_law 391 = .ok (.iload_n 3, 1) := by decide +kernel
theorem dL_law_392 : decode cL_law 392 = .ok (.iconst 2, 1) := by decide +kernel
theorem dL_law_393 : decode cL_law 393 = .ok (.iadd, 1) := by decide +kernel
theorem dL_law_394 : decode cL_law 394 = .ok (.iaload, 1) := by decide +kernel
theorem dL_law_395 : decode cL_law 395 = .ok (.ifCond .eq 7, 3) := by decide +kernel
theorem dL_law_398 : decode cL_law 398 = .ok (.iconst 1, 1) := by decide +kernel
theorem dL_law_399 : decode cL_law 399 = .ok (.goto 4, 3) := by decide +kernel
theorem dL_law_402 : decode cL_law 402 = .ok (.iconst 0, 1) := by decide +kernel
theorem dL_law_403 : decode cL_law 403 = .ok (.invokevirtual 50, 3) := by decide +kernel
theorem dL_law_406 : decode cL_law 406 = .ok (.pop, 1) := by decide +kernel
theorem dL_law_407 : decode cL_law 407 = .ok (.aload_n 2, 1) := by decide +kernel
theorem dL_law_408 : decode cL_law 408 = .ok (.aload_n 0, 1) := by decide +kernel
theorem dL_law_409 : decode cL_law 409 = .ok (.iload_n 3, 1) := by decide +kernel
theorem dL_law_410 : decode cL_law 410 = .ok (.iconst 1, 1) := by decide +kernel
theorem dL_law_411 : decode cL_law 411 = .ok (.iadd, 1) := by decide +kernel
theorem dL_law_412 : decode cL_law 412 = .ok (.iaload, 1) := by decide +kernel
theorem dL_law_413 : decode cL_law 413 = .ok (.aload_n 0, 1) := by decide +kernel
theorem dL_law_414 : decode cL_law 414 = .ok (.iload_n 3, 1) := by decide +kernel
theorem dL_law_415 : decode cL_law 415 = .ok (.iconst 2, 1) := by decide +kernel
theorem dL_law_416 : decode cL_law 416 = .ok (.iadd, 1) := by decide +kernel
theorem dL_law_417 : decode cL_law 417 = .ok (.iaload, 1) := by decide +kernel
theorem dL_law_418 : decode cL_law 418 = .ok (.ifCond .eq 7, 3) := by decide +kernel
theorem dL_law_421 : decode cL_law 421 = .ok (.iconst 1, 1) := by decide +kernel
theorem dL_law_422 : decode cL_law 422 = .ok (.goto 4, 3) := by decide +kernel
theorem dL_law_425 : decode cL_law 425 = .ok (.iconst 0, 1) := by decide +kernel
theorem dL_law_426 : decode cL_law 426 = .ok (.invokevirtual 54, 3) := by decide +kernel
theorem dL_law_429 : decode cL_law 429 = .ok (.pop, 1) := by decide +kernel
theorem dL_law_430 : decode cL_law 430 = .ok (.goto 381, 3) := by decide +kernel
theorem dL_law_433 : decode cL_law 433 = .ok (.aload_n 1, 1) := by decide +kernel
theorem dL_law_434 : decode cL_law 434 = .ok (.aload_n 0, 1) := by decide +kernel
theorem dL_law_435 : decode cL_law 435 = .ok (.iload_n 3, 1) := by decide +kernel
theorem dL_law_436 : decode cL_law 436 = .ok (.iconst 1, 1) := by decide +kernel
theorem dL_law_437 : decode cL_law 437 = .ok (.iadd, 1) := by decide +kernel
theorem dL_law_438 : decode cL_law 438 = .ok (.iaload, 1) := by decide +kernel
theorem dL_law_439 : decode cL_law 439 = .ok (.aload_n 0, 1) := by decide +kernel
theorem dL_law_440 : decode cL_law 440 = .ok (.iload_n 3, 1) := by decide +kernel
theorem dL_law_441 : decode cL_law 441 = .ok (.iconst 2, 1) := by decide +kernel
theorem dL_law_442 : decode cL_law 442 = .ok (.iadd, 1) := by decide +kernel
theorem dL_law_443 : decode cL_law 443 = .ok (.iaload, 1) := by decide +kernel
theorem dL_law_444 : decode cL_law 444 = .ok (.ifCond .eq 7, 3) := by decide +kernel
theorem dL_law_447 : decode cL_law 447 = .ok (.iconst 1, 1) := by decide +kernel
theorem dL_law_448 : decode cL_law 448 = .ok (.goto 4, 3) := by decide +kernel
theorem dL_law_451 : decode cL_law 451 = .ok (.iconst 0, 1) := by decide +kernel
theorem dL_law_452 : decode cL_law 452 = .ok (.invokevirtual 55, 3) := by decide +kernel
theorem dL_law_455 : decode cL_law 455 = .ok (.pop, 1) := by decide +kernel
theorem dL_law_456 : decode cL_law 456 = .ok (.aload_n 2, 1) := by decide +kernel
theorem dL_law_457 : decode cL_law 457 = .ok (.aload_n 0, 1) := by decide +kernel
theorem dL_law_458 : decode cL_law 458 = .ok (.iload_n 3, 1) := by decide +kernel
theorem dL_law_459 : decode cL_law 459 = .ok (.iconst 1, 1) := by decide +kernel
theorem dL_law_460 : decode cL_law 460 = .ok (.iadd, 1) := by decide +kernel
theorem dL_law_461 : decode cL_law 461 = .ok (.iaload, 1) := by decide +kernel
theorem dL_law_462 : decode cL_law 462 = .ok (.aload_n 0, 1) := by decide +kernel
theorem dL_law_463 : decode cL_law 463 = .ok (.iload_n 3, 1) := by decide +kernel
theorem dL_law_464 : decode cL_law 464 = .ok (.iconst 2, 1) := by decide +kernel
theorem dL_law_465 : decode cL_law 465 = .ok (.iadd, 1) := by decide +kernel
theorem dL_law_466 : decode cL_law 466 = .ok (.iaload, 1) := by decide +kernel
theorem dL_law_467 : decode cL_law 467 = .ok (.ifCond .eq 7, 3) := by decide +kernel
theorem dL_law_470 : decode cL_law 470 = .ok (.iconst 1, 1) := by decide +kernel
theorem dL_law_471 : decode cL_law 471 = .ok (.goto 4, 3) := by decide +kernel
theorem dL_law_474 : decode cL_law 474 = .ok (.iconst 0, 1) := by decide +kernel
theorem dL_law_475 : decode cL_law 475 = .ok (.invokevirtual 58, 3) := by decide +kernel
theorem dL_law_478 : decode cL_law 478 = .ok (.pop, 1) := by decide +kernel
theorem dL_law_479 : decode cL_law 479 = .ok (.goto 332, 3) := by decide +kernel
theorem dL_law_482 : decode cL_law 482 = .ok (.aload_n 1, 1) := by decide +kernel
theorem dL_law_483 : decode cL_law 483 = .ok (.aload_n 0, 1) := by decide +kernel
theorem dL_law_484 : decode cL_law 484 = .ok (.iload_n 3, 1) := by decide +kernel
theorem dL_law_485 : decode cL_law 485 = .ok (.iconst 1, 1) := by decide +kernel
theorem dL_law_486 : decode cL_law 486 = .ok (.iadd, 1) := by decide +kernel
theorem dL_law_487 : decode cL_law 487 = .ok (.iaload, 1) := by decide +kernel
theorem dL_law_488 : decode cL_law 488 = .ok (.aload_n 0, 1) := by decide +kernel
theorem dL_law_489 : decode cL_law 489 = .ok (.iload_n 3, 1) := by decide +kernel
theorem dL_law_490 : decode cL_law 490 = .ok (.iconst 2, 1) := by decide +kernel
theorem dL_law_491 : decode cL_law 491 = .ok (.iadd, 1) := by decide +kernel
theorem dL_law_492 : decode cL_law 492 = .ok (.iaload, 1) := by decide +kernel
theorem dL_law_493 : decode cL_law 493 = .ok (.invokevirtual 59, 3) := by decide +kernel
theorem dL_law_496 : decode cL_law 496 = .ok (.pop, 1) := by decide +kernel
theorem dL_law_497 : decode cL_law 497 = .ok (.aload_n 2, 1) := by decide +kernel
theorem dL_law_498 : decode cL_law 498 = .ok (.aload_n 0, 1) := by decide +kernel
theorem dL_law_499 : decode cL_law 499 = .ok (.iload_n 3, 1) := by decide +kernel
theorem dL_law_500 : decode cL_law 500 = .ok (.iconst 1, 1) := by decide +kernel
theorem dL_law_501 : decode cL_law 501 = .ok (.iadd, 1) := by decide +kernel
theorem dL_law_502 : decode cL_law 502 = .ok (.iaload, 1) := by decide +kernel
theorem dL_law_503 : decode cL_law 503 = .ok (.aload_n 0, 1) := by decide +kernel
theorem dL_law_504 : decode cL_law 504 = .ok (.iload_n 3, 1) := by decide +kernel
theorem dL_law_505 : decode cL_law 505 = .ok (.iconst 2, 1) := by decide +kernel
theorem dL_law_506 : decode cL_law 506 = .ok (.iadd, 1) := by decide +kernel
theorem dL_law_507 : decode cL_law 507 = .ok (.iaload, 1) := by decide +kernel
theorem dL_law_508 : decode cL_law 508 = .ok (.invokevirtual 62, 3) := by decide +kernel
theorem dL_law_511 : decode cL_law 511 = .ok (.pop, 1) := by decide +kernel
theorem dL_law_512 : decode cL_law 512 = .ok (.goto 299, 3) := by decide +kernel
theorem dL_law_515 : decode cL_law 515 = .ok (.aload_n 1, 1) := by decide +kernel
theorem dL_law_516 : decode cL_law 516 = .ok (.aload_n 0, 1) := by decide +kernel
theorem dL_law_517 : decode cL_law 517 = .ok (.iload_n 3, 1) := by decide +kernel
theorem dL_law_518 : decode cL_law 518 = .ok (.iconst 1, 1) := by decide +kernel
theorem dL_law_519 : decode cL_law 519 = .ok (.iadd, 1) := by decide +kernel
theorem dL_law_520 : decode cL_law 520 = .ok (.iaload, 1) := by decide +kernel
theorem dL_law_521 : decode cL_law 521 = .ok (.invokevirtual 63, 3) := by decide +kernel
theorem dL_law_524 : decode cL_law 524 = .ok (.pop, 1) := by decide +kernel
theorem dL_law_525 : decode cL_law 525 = .ok (.aload_n 2, 1) := by decide +kernel
theorem dL_law_526 : decode cL_law 526 = .ok (.aload_n 0, 1) := by decide +kernel
theorem dL_law_527 : decode cL_law 527 = .ok (.iload_n 3, 1) := by decide +kernel
theorem dL_law_528 : decode cL_law 528 = .ok (.iconst 1, 1) := by decide +kernel
theorem dL_law_529 : decode cL_law 529 = .ok (.iadd, 1) := by decide +kernel
theorem dL_law_530 : decode cL_law 530 = .ok (.iaload, 1) := by decide +kernel
theorem dL_law_531 : decode cL_law 531 = .ok (.invokevirtual 66, 3) := by decide +kernel
theorem dL_law_534 : decode cL_law 534 = .ok (.pop, 1) := by decide +kernel
theorem dL_law_535 : decode cL_law 535 = .ok (.goto 276, 3) := by decide +kernel
theorem dL_law_538 : decode cL_law 538 = .ok (.aload_n 1, 1) := by decide +kernel
theorem dL_law_539 : decode cL_law 539 = .ok (.aload_n 0, 1) := by decide +kernel
theorem dL_law_540 : decode cL_law 540 = .ok (.iload_n 3, 1) := by decide +kernel
theorem dL_law_541 : decode cL_law 541 = .ok (.iconst 1, 1) := by decide +kernel
theorem dL_law_542 : decode cL_law 542 = .ok (.iadd, 1) := by decide +kernel
theorem dL_law_543 : decode cL_law 543 = .ok (.iaload, 1) := by decide +kernel
theorem dL_law_544 : decode cL_law 544 = .ok (.aload_n 0, 1) := by decide +kernel
theorem dL_law_545 : decode cL_law 545 = .ok (.iload_n 3, 1) := by decide +kernel
theorem dL_law_546 : decode cL_law 546 = .ok (.iconst 2, 1) := by decide +kernel
theorem dL_law_547 : decode cL_law 547 = .ok (.iadd, 1) := by decide +kernel
theorem dL_law_548 : decode cL_law 548 = .ok (.iaload, 1) := by decide +kernel
theorem dL_law_549 : decode cL_law 549 = .ok (.aload_n 0, 1) := by decide +kernel
theorem dL_law_550 : decode cL_law 550 = .ok (.iload_n 3, 1) := by decide +kernel
theorem dL_law_551 : decode cL_law 551 = .ok (.iconst 3, 1) := by decide +kernel
theorem dL_law_552 : decode cL_law 552 = .ok (.iadd, 1) := by decide +kernel
theorem dL_law_553 : decode cL_law 553 = .ok (.iaload, 1) := by decide +kernel
theorem dL_law_554 : decode cL_law 554 = .ok (.invokevirtual 67, 3) := by decide +kernel
theorem dL_law_557 : decode cL_law 557 = .ok (.pop, 1) := by decide +kernel
theorem dL_law_558 : decode cL_law 558 = .ok (.aload_n 2, 1) := by decide +kernel
theorem dL_law_559 : decode cL_law 559 = .ok (.aload_n 0, 1) := by decide +kernel
theorem dL_law_560 : decode cL_law 560 = .ok (.iload_n 3, 1) := by decide +kernel
theorem dL_law_561 : decode cL_law 561 = .ok (.iconst 1, 1) := by decide +kernel
theorem dL_law_562 : decode cL_law 562 = .ok (.iadd, 1) := by decide +kernel
theorem dL_law_563 : decode cL_law 563 = .ok (.iaload, 1) := by decide +kernel
theorem dL_law_564 : decode cL_law 564 = .ok (.aload_n 0, 1) := by decide +kernel
theorem dL_law_565 : decode cL_law 565 = .ok (.iload_n 3, 1) := by decide +kernel
theorem dL_law_566 : decode cL_law 566 = .ok (.iconst 2, 1) := by decide +kernel
theorem dL_law_567 : decode cL_law 567 = .ok (.iadd, 1) := by decide +kernel
theorem dL_law_568 : decode cL_law 568 = .ok (.iaload, 1) := by decide +kernel
theorem dL_law_569 : decode cL_law 569 = .ok (.aload_n 0, 1) := by decide +kernel
theorem dL_law_570 : decode cL_law 570 = .ok (.iload_n 3, 1) := by decide +kernel
theorem dL_law_571 : decode cL_law 571 = .ok (.iconst 3, 1) := by decide +kernel
theorem dL_law_572 : decode cL_law 572 = .ok (.iadd, 1) := by decide +kernel
theorem dL_law_573 : decode cL_law 573 = .ok (.iaload, 1) := by decide +kernel
theorem dL_law_574 : decode cL_law 574 = .ok (.invokevirtual 71, 3) := by decide +kernel
theorem dL_law_577 : decode cL_law 577 = .ok (.pop, 1) := by decide +kernel
theorem dL_law_578 : decode cL_law 578 = .ok (.goto 233, 3) := by decide +kernel
theorem dL_law_581 : decode cL_law 581 = .ok (.aload_n 1, 1) := by decide +kernel
theorem dL_law_582 : decode cL_law 582 = .ok (.invokevirtual 72, 3) := by decide +kernel
theorem dL_law_585 : decode cL_law 585 = .ok (.pop, 1) := by decide +kernel
theorem dL_law_586 : decode cL_law 586 = .ok (.aload_n 2, 1) := by decide +kernel
theorem dL_law_587 : decode cL_law 587 = .ok (.invokevirtual 75, 3) := by decide +kernel
theorem dL_law_590 : decode cL_law 590 = .ok (.pop, 1) := by decide +kernel
theorem dL_law_591 : decode cL_law 591 = .ok (.goto 220, 3) := by decide +kernel
theorem dL_law_594 : decode cL_law 594 = .ok (.aload_n 1, 1) := by decide +kernel
theorem dL_law_595 : decode cL_law 595 = .ok (.aload_n 0, 1) := by decide +kernel
theorem dL_law_596 : decode cL_law 596 = .ok (.iload_n 3, 1) := by decide +kernel
theorem dL_law_597 : decode cL_law 597 = .ok (.iconst 1, 1) := by decide +kernel
theorem dL_law_598 : decode cL_law 598 = .ok (.iadd, 1) := by decide +kernel
theorem dL_law_599 : decode cL_law 599 = .ok (.iaload, 1) := by decide +kernel
theorem dL_law_600 : decode cL_law 600 = .ok (.aload_n 0, 1) := by decide +kernel
theorem dL_law_601 : decode cL_law 601 = .ok (.iload_n 3, 1) := by decide +kernel
theorem dL_law_602 : decode cL_law 602 = .ok (.iconst 2, 1) := by decide +kernel
theorem dL_law_603 : decode cL_law 603 = .ok (.iadd, 1) := by decide +kernel
theorem dL_law_604 : decode cL_law 604 = .ok (.iaload, 1) := by decide +kernel
theorem dL_law_605 : decode cL_law 605 = .ok (.invokevirtual 76, 3) := by decide +kernel
theorem dL_law_608 : decode cL_law 608 = .ok (.pop, 1) := by decide +kernel
theorem dL_law_609 : decode cL_law 609 = .ok (.aload_n 2, 1) := by decide +kernel
theorem dL_law_610 : decode cL_law 610 = .ok (.aload_n 0, 1) := by decide +kernel
theorem dL_law_611 : decode cL_law 611 = .ok (.iload_n 3, 1) := by decide +kernel
theorem dL_law_612 : decode cL_law 612 = .ok (.iconst 1, 1) := by decide +kernel
theorem dL_law_613 : decode cL_law 613 = .ok (.iadd, 1) := by decide +kernel
theorem dL_law_614 : decode cL_law 614 = .ok (.iaload, 1) := by decide +kernel
theorem dL_law_615 : decode cL_law 615 = .ok (.aload_n 0, 1) := by decide +kernel
theorem dL_law_616 : decode cL_law 616 = .ok (.iload_n 3, 1) := by decide +kernel
theorem dL_law_617 : decode cL_law 617 = .ok (.iconst 2, 1) := by decide +kernel
theorem dL_law_618 : decode cL_law 618 = .ok (.iadd, 1) := by decide +kernel
theorem dL_law_619 : decode cL_law 619 = .ok (.iaload, 1) := by decide +kernel
theorem dL_law_620 : decode cL_law 620 = .ok (.invokevirtual 79, 3) := by decide +kernel
theorem dL_law_623 : decode cL_law 623 = .ok (.pop, 1) := by decide +kernel
theorem dL_law_624 : decode cL_law 624 = .ok (.goto 187, 3) := by decide +kernel
theorem dL_law_627 : decode cL_law 627 = .ok (.aload_n 1, 1) := by decide +kernel
theorem dL_law_628 : decode cL_law 628 = .ok (.aload_n 0, 1) := by decide +kernel
theorem dL_law_629 : decode cL_law 629 = .ok (.iload_n 3, 1) := by decide +kernel
theorem dL_law_630 : decode cL_law 630 = .ok (.iconst 1, 1) := by decide +kernel
theorem dL_law_631 : decode cL_law 631 = .ok (.iadd, 1) := by decide +kernel
theorem dL_law_632 : decode cL_law 632 = .ok (.iaload, 1) := by decide +kernel
theorem dL_law_633 : decode cL_law 633 = .ok (.invokevirtual 80, 3) := by decide +kernel
theorem dL_law_636 : decode cL_law 636 = .ok (.pop, 1) := by decide +kernel
theorem dL_law_637 : decode cL_law 637 = .ok (.aload_n 2, 1) := by decide +kernel
theorem dL_law_638 : decode cL_law 638 = .ok (.aload_n 0, 1) := by decide +kernel
theorem dL_law_639 : decode cL_law 639 = .ok (.iload_n 3, 1) := by decide +kernel
theorem dL_law_640 : decode cL_law 640 = .ok (.iconst 1, 1) := by decide +kernel
theorem dL_law_641 : decode cL_law 641 = .ok (.iadd, 1) := by decide +kernel
theorem dL_law_642 : decode cL_law 642 = .ok (.iaload, 1) := by decide +kernel
theorem dL_law_643 : decode cL_law 643 = .ok (.invokevirtual 83, 3) := by decide +kernel
theorem dL_law_646 : decode cL_law 646 = .ok (.pop, 1) := by decide +kernel
theorem dL_law_647 : decode cL_law 647 = .ok (.goto 164, 3) := by decide +kernel
theorem dL_law_650 : decode cL_law 650 = .ok (.aload_n 1, 1) := by decide +kernel
theorem dL_law_651 : decode cL_law 651 = .ok (.aload_n 0, 1) := by decide +kernel
theorem dL_law_652 : decode cL_law 652 = .ok (.iload_n 3, 1) := by decide +kernel
theorem dL_law_653 : decode cL_law 653 = .ok (.iconst 1, 1) := by decide +kernel
theorem dL_law_654 : decode cL_law 654 = .ok (.iadd, 1) := by decide +kernel
theorem dL_law_655 : decode cL_law 655 = .ok (.iaload, 1) := by decide +kernel
theorem dL_law_656 : decode cL_law 656 = .ok (.invokevirtual 84, 3) := by decide +kernel
theorem dL_law_659 : decode cL_law 659 = .ok (.pop, 1) := by decide +kernel
theorem dL_law_660 : decode cL_law 660 = .ok (.aload_n 2, 1) := by decide +kernel
theorem dL_law_661 : decode cL_law 661 = .ok (.aload_n 0, 1) := by decide +kernel
theorem dL_law_662 : decode cL_law 662 = .ok (.iload_n 3, 1) := by decide +kernel
theorem dL_law_663 : decode cL_law 663 = .ok (.iconst 1, 1) := by decide +kernel
theorem dL_law_664 : decode cL_law 664 = .ok (.iadd, 1) := by decide +kernel
theorem dL_law_665 : decode cL_law 665 = .ok (.iaload, 1) := by decide +kernel
theorem dL_law_666 : decode cL_law 666 = .ok (.invokevirtual 87, 3) := by decide +kernel
theorem dL_law_669 : decode cL_law 669 = .ok (.pop, 1) := by decide +kernel
theorem dL_law_670 : decode cL_law 670 = .ok (.goto 141, 3) := by decide +kernel
theorem dL_law_673 : decode cL_law 673 = .ok (.aload_n 1, 1) := by decide +kernel
theorem dL_law_674 : decode cL_law 674 = .ok (.aload_n 0, 1) := by decide +kernel
theorem dL_law_675 : decode cL_law 675 = .ok (.iload_n 3, 1) := by decide +kernel
theorem dL_law_676 : decode cL_law 676 = .ok (.iconst 1, 1) := by decide +kernel
theorem dL_law_677 : decode cL_law 677 = .ok (.iadd, 1) := by decide +kernel
theorem dL_law_678 : decode cL_law 678 = .ok (.iaload, 1) := by decide +kernel
theorem dL_law_679 : decode cL_law 679 = .ok (.aload_n 0, 1) := by decide +kernel
theorem dL_law_680 : decode cL_law 680 = .ok (.iload_n 3, 1) := by decide +kernel
theorem dL_law_681 : decode cL_law 681 = .ok (.iconst 2, 1) := by decide +kernel
theorem dL_law_682 : decode cL_law 682 = .ok (.iadd, 1) := by decide +kernel
theorem dL_law_683 : decode cL_law 683 = .ok (.iaload, 1) := by decide +kernel
theorem dL_law_684 : decode cL_law 684 = .ok (.invokevirtual 88, 3) := by decide +kernel
theorem dL_law_687 : decode cL_law 687 = .ok (.pop2, 1) := by decide +kernel
theorem dL_law_688 : decode cL_law 688 = .ok (.aload_n 2, 1) := by decide +kernel
theorem dL_law_689 : decode cL_law 689 = .ok (.aload_n 0, 1) := by decide +kernel
theorem dL_law_690 : decode cL_law 690 = .ok (.iload_n 3, 1) := by decide +kernel
theorem dL_law_691 : decode cL_law 691 = .ok (.iconst 1, 1) := by decide +kernel
theorem dL_law_692 : decode cL_law 692 = .ok (.iadd, 1) := by decide +kernel
theorem dL_law_693 : decode cL_law 693 = .ok (.iaload, 1) := by decide +kernel
theorem dL_law_694 : decode cL_law 694 = .ok (.aload_n 0, 1) := by decide +kernel
theorem dL_law_695 : decode cL_law 695 = .ok (.iload_n 3, 1) := by decide +kernel
theorem dL_law_696 : decode cL_law 696 = .ok (.iconst 2, 1) := by decide +kernel
theorem dL_law_697 : decode cL_law 697 = .ok (.iadd, 1) := by decide +kernel
theorem dL_law_698 : decode cL_law 698 = .ok (.iaload, 1) := by decide +kernel
theorem dL_law_699 : decode cL_law 699 = .ok (.invokevirtual 91, 3) := by decide +kernel
theorem dL_law_702 : decode cL_law 702 = .ok (.pop2, 1) := by decide +kernel
theorem dL_law_703 : decode cL_law 703 = .ok (.goto 108, 3) := by decide +kernel
theorem dL_law_706 : decode cL_law 706 = .ok (.aload_n 1, 1) := by decide +kernel
theorem dL_law_707 : decode cL_law 707 = .ok (.aload_n 0, 1) := by decide +kernel
theorem dL_law_708 : decode cL_law 708 = .ok (.iload_n 3, 1) := by decide +kernel
theorem dL_law_709 : decode cL_law 709 = .ok (.iconst 1, 1) := by decide +kernel
theorem dL_law_710 : decode cL_law 710 = .ok (.iadd, 1) := by decide +kernel
theorem dL_law_711 : decode cL_law 711 = .ok (.iaload, 1) := by decide +kernel
theorem dL_law_712 : decode cL_law 712 = .ok (.aload_n 0, 1) := by decide +kernel
theorem dL_law_713 : decode cL_law 713 = .ok (.iload_n 3, 1) := by decide +kernel
theorem dL_law_714 : decode cL_law 714 = .ok (.iconst 2, 1) := by decide +kernel
theorem dL_law_715 : decode cL_law 715 = .ok (.iadd, 1) := by decide +kernel
theorem dL_law_716 : decode cL_law 716 = .ok (.iaload, 1) := by decide +kernel
theorem dL_law_717 : decode cL_law 717 = .ok (.invokevirtual 92, 3) := by decide +kernel
theorem dL_law_720 : decode cL_law 720 = .ok (.pop, 1) := by decide +kernel
theorem dL_law_721 : decode cL_law 721 = .ok (.aload_n 2, 1) := by decide +kernel
theorem dL_law_722 : decode cL_law 722 = .ok (.aload_n 0, 1) := by decide +kernel
theorem dL_law_723 : decode cL_law 723 = .ok (.iload_n 3, 1) := by decide +kernel
theorem dL_law_724 : decode cL_law 724 = .ok (.iconst 1, 1) := by decide +kernel
theorem dL_law_725 : decode cL_law 725 = .ok (.iadd, 1) := by decide +kernel
theorem dL_law_726 : decode cL_law 726 = .ok (.iaload, 1) := by decide +kernel
theorem dL_law_727 : decode cL_law 727 = .ok (.aload_n 0, 1) := by decide +kernel
theorem dL_law_728 : decode cL_law 728 = .ok (.iload_n 3, 1) := by decide +kernel
theorem dL_law_729 : decode cL_law 729 = .ok (.iconst 2, 1) := by decide +kernel
theorem dL_law_730 : decode cL_law 730 = .ok (.iadd, 1) := by decide +kernel
theorem dL_law_731 : decode cL_law 731 = .ok (.iaload, 1) := by decide +kernel
theorem dL_law_732 : decode cL_law 732 = .ok (.invokevirtual 95, 3) := by decide +kernel
theorem dL_law_735 : decode cL_law 735 = .ok (.pop, 1) := by decide +kernel
theorem dL_law_736 : decode cL_law 736 = .ok (.goto 75, 3) := by decide +kernel
theorem dL_law_739 : decode cL_law 739 = .ok (.aload_n 1, 1) := by decide +kernel
theorem dL_law_740 : decode cL_law 740 = .ok (.aload_n 0, 1) := by decide +kernel
theorem dL_law_741 : decode cL_law 741 = .ok (.iload_n 3, 1) := by decide +kernel
theorem dL_law_742 : decode cL_law 742 = .ok (.iconst 1, 1) := by decide +kernel
theorem dL_law_743 : decode cL_law 743 = .ok (.iadd, 1) := by decide +kernel
theorem dL_law_744 : decode cL_law 744 = .ok (.iaload, 1) := by decide +kernel
theorem dL_law_745 : decode cL_law 745 = .ok (.invokevirtual 96, 3) := by decide +kernel
theorem dL_law_748 : decode cL_law 748 = .ok (.pop, 1) := by decide +kernel
theorem dL_law_749 : decode cL_law 749 = .ok (.aload_n 2, 1) := by decide +kernel
theorem dL_law_750 : decode cL_law 750 = .ok (.aload_n 0, 1) := by decide +kernel
theorem dL_law_751 : decode cL_law 751 = .ok (.iload_n 3, 1) := by decide +kernel
theorem dL_law_752 : decode cL_law 752 = .ok (.iconst 1, 1) := by decide +kernel
theorem dL_law_753 : decode cL_law 753 = .ok (.iadd, 1) := by decide +kernel
theorem dL_law_754 : decode cL_law 754 = .ok (.iaload, 1) := by decide +kernel
theorem dL_law_755 : decode cL_law 755 = .ok (.invokevirtual 99, 3) := by decide +kernel
theorem dL_law_758 : decode cL_law 758 = .ok (.pop, 1) := by decide +kernel
theorem dL_law_759 : decode cL_law 759 = .ok (.goto 52, 3) := by decide +kernel
theorem dL_law_762 : decode cL_law 762 = .ok (.aload_n 1, 1) := by decide +kernel
theorem dL_law_763 : decode cL_law 763 = .ok (.invokevirtual 100, 3) := by decide +kernel
theorem dL_law_766 : decode cL_law 766 = .ok (.pop, 1) := by decide +kernel
theorem dL_law_767 : decode cL_law 767 = .ok (.aload_n 2, 1) := by decide +kernel
theorem dL_law_768 : decode cL_law 768 = .ok (.invokevirtual 103, 3) := by decide +kernel
theorem dL_law_771 : decode cL_law 771 = .ok (.pop, 1) := by decide +kernel
theorem dL_law_772 : decode cL_law 772 = .ok (.goto 39, 3) := by decide +kernel
theorem dL_law_775 : decode cL_law 775 = .ok (.aload_n 1, 1) := by decide +kernel
theorem dL_law_776 : decode cL_law 776 = .ok (.invokevirtual 104, 3) := by decide +kernel
theorem dL_law_779 : decode cL_law 779 = .ok (.pop, 1) := by decide +kernel
theorem dL_law_780 : decode cL_law 780 = .ok (.aload_n 2, 1) := by decide +kernel
theorem dL_law_781 : decode cL_law 781 = .ok (.invokevirtual 107, 3) := by decide +kernel
theorem dL_law_784 : decode cL_law 784 = .ok (.pop, 1) := by decide +kernel
theorem dL_law_785 : decode cL_law 785 = .ok (.goto 26, 3) := by decide +kernel
theorem dL_law_788 : decode cL_law 788 = .ok (.aload_n 1, 1) := by decide +kernel
theorem dL_law_789 : decode cL_law 789 = .ok (.aload_n 0, 1) := by decide +kernel
theorem dL_law_790 : decode cL_law 790 = .ok (.iload_n 3, 1) := by decide +kernel
theorem dL_law_791 : decode cL_law 791 = .ok (.iconst 1, 1) := by decide +kernel
theorem dL_law_792 : decode cL_law 792 = .ok (.iadd, 1) := by decide +kernel
theorem dL_law_793 : decode cL_law 793 = .ok (.iaload, 1) := by decide +kernel
theorem dL_law_794 : decode cL_law 794 = .ok (.invokevirtual 108, 3) := by decide +kernel
theorem dL_law_797 : decode cL_law 797 = .ok (.aload_n 2, 1) := by decide +kernel
theorem dL_law_798 : decode cL_law 798 = .ok (.aload_n 0, 1) := by decide +kernel
theorem dL_law_799 : decode cL_law 799 = .ok (.iload_n 3, 1) := by decide +kernel
theorem dL_law_800 : decode cL_law 800 = .ok (.iconst 1, 1) := by decide +kernel
theorem dL_law_801 : decode cL_law 801 = .ok (.iadd, 1) := by decide +kernel
theorem dL_law_802 : decode cL_law 802 = .ok (.iaload, 1) := by decide +kernel
theorem dL_law_803 : decode cL_law 803 = .ok (.invokevirtual 111, 3) := by decide +kernel
theorem dL_law_806 : decode cL_law 806 = .ok (.if_icmp .eq 5, 3) := by decide +kernel
theorem dL_law_809 : decode cL_law 809 = .ok (.iconst 0, 1) := by decide +kernel
theorem dL_law_810 : decode cL_law 810 = .ok (.ireturn, 1) := by decide +kernel
theorem dL_law_811 : decode cL_law 811 = .ok (.iinc 3 6, 3) := by decide +kernel
theorem dL_law_814 : decode cL_law 814 = .ok (.goto (-796), 3) := by decide +kernel
theorem dL_law_817 : decode cL_law 817 = .ok (.iconst 1, 1) := by decide +kernel
theorem dL_law_818 : decode cL_law 818 = .ok (.ireturn, 1) := by decide +kernel
theorem and31 (x : Int32) : 0 ≤ (x &&& iI 31).toInt ∧ (x &&& iI 31).toInt ≤ 31 := by
  have h1 : (x &&& iI 31).toBitVec.toNat ≤ 31 := by
    rw [Int32.toBitVec_and, BitVec.toNat_and]
    exact Nat.le_trans Nat.and_le_right (by decide)
  have h2 : (x &&& iI 31).toInt = (x &&& iI 31).toBitVec.toInt := rfl
  rw [h2, BitVec.toInt_eq_toNat_cond]
  split <;> omega
section LRULES
variable {S : ST} {l : Launch} {w : WT} {cc : ByteArray} {nL : Nat} {ret : Option FieldType} {own : String} {R : Room} {P : Option Value → MM → Prop} {G : GT} {pc : Nat} {lv : List (Option Value)} {st : List Value} {σ : MM}
theorem r_pop (hX : Cx S l w cc nL ret own R P G) {v : Value} (hd : decode cc pc = .ok (.pop, 1)) (hv : v.category = 1) (k : G (pc + 1) lv st σ) : G pc lv (v :: st) σ := by
  obtain ⟨p, e, s, m, args, below, meth, c, A, cells, slots, Q, ⟨hx, hb, -⟩, rfl, -⟩ := hX
  exact fun hB H locs ls hP hS h => lv_pop hx hb hd hv (k hB H locs ls hP hS h)
theorem r_pop2 (hX : Cx S l w cc nL ret own R P G) {v : Value} (hd : decode cc pc = .ok (.pop2, 1)) (hv : v.category = 2) (k : G (pc + 1) lv st σ) : G pc lv (v :: st) σ := by
  obtain ⟨p, e, s, m, args, below, meth, c, A, cells, slots, Q, ⟨hx, hb, -⟩, rfl, -⟩ := hX
  exact fun hB H locs ls hP hS h => lv_pop2_2 hx hb hd hv (k hB H locs ls hP hS h)
theorem r_iand31 (hX : Cx S l w cc nL ret own R P G) {a : Int} (hd : decode cc pc = .ok (.iand, 1)) (k : ∀ z : Int, 0 ≤ z → z ≤ 31 → G (pc + 1) lv (.int (iI z) :: st) σ) : G pc lv (.int (iI 31) :: .int (iI a) :: st) σ := by
  obtain ⟨p, e, s, m, args, below, meth, c, A, cells, slots, Q, ⟨hx, hb, -⟩, rfl, -⟩ := hX
  intro hB H locs ls hP hS h
  have h1 := and31 (iI a)
  refine lv_iand hx hb hd ?_
  have := k _ h1.1 h1.2 hB H locs ls hP hS h
  rw [iI_self] at this
  exact this
theorem r_lcmpE (hX : Cx S l w cc nL ret own R P G) {a b : Int} (hab : a = b) (hd : decode cc pc = .ok (.lcmp, 1)) (k : G (pc + 1) lv (.int (iI 0) :: st) σ) : G pc lv (.long (lI b) :: .long (lI a) :: st) σ := by
  obtain ⟨p, e, s, m, args, below, meth, c, A, cells, slots, Q, ⟨hx, hb, -⟩, rfl, -⟩ := hX
  intro hB H locs ls hP hS h
  subst hab
  refine W.lcmp hx hb hd ?_
  have e1 : lg_cmp (lI a) (lI a) = iI 0 := by
    have h1 : ¬ lI a < lI a := by rw [Int64.lt_iff_toInt_lt]; omega
    simp only [lg_cmp]
    rw [if_neg h1]
    simp
    decide
  rw [e1]
  exact k hB H locs ls hP hS h
end LRULES
theorem i_astore_n {l : Launch} {w : WT} {cc : ByteArray} {nL : Nat} {own : String} {R : Room} {isI : Bool} {Fn : va_W → Prop} {GI : GIT} {pc : Nat} {lv lv1 : List (Option Value)} {st : List Value} {ws : va_W} {mc ms : Nat} (hX : CxI l w cc nL own R isI Fn GI) {i : Fin 4} {x : Nat} (hd : decode cc pc = .ok (.astore_n i, 1)) (hi : (i : Nat) < lv.length) (hln : lv.length = nL) (hc : cat1 lv = true) (hl : lv.set (i : Nat) (some (.ref x)) = lv1) (k : GI (pc + 1) lv1 st ws mc ms) : GI pc lv (.ref x :: st) ws mc ms := by
  obtain ⟨p, e, s, m, args, below, meth, c, A, Q, ⟨hx, hb, -⟩, rfl, -⟩ := hX
  exact fun H locs ls hP hD hS h => lv_astore_n hx hb hd rfl h.has (by omega) rfl fun ls1 h1 => k H locs ls1 hP hD hS (by rw [← hl]; exact LH.set hi hc h1)
theorem i_istore_n {l : Launch} {w : WT} {cc : ByteArray} {nL : Nat} {own : String} {R : Room} {isI : Bool} {Fn : va_W → Prop} {GI : GIT} {pc : Nat} {lv lv1 : List (Option Value)} {st : List Value} {ws : va_W} {mc ms : Nat} (hX : CxI l w cc nL own R isI Fn GI) {i : Fin 4} {x : Int} (hd : decode cc pc = .ok (.istore_n i, 1)) (hi : (i : Nat) < lv.length) (hln : lv.length = nL) (hc : cat1 lv = true) (hl : lv.set (i : Nat) (some (.int (iI x))) = lv1) (k : GI (pc + 1) lv1 st ws mc ms) : GI pc lv (.int (iI x) :: st) ws mc ms := by
  obtain ⟨p, e, s, m, args, below, meth, c, A, Q, ⟨hx, hb, -⟩, rfl, -⟩ := hX
  exact fun H locs ls hP hD hS h => lv_istore_n hx hb hd rfl h.has (by omega) rfl fun ls1 h1 => k H locs ls1 hP hD hS (by rw [← hl]; exact LH.set hi hc h1)
def LawF (b L : Nat) (sv : Int → Int) (G : GT) : Prop :=
  (∀ (pc : Nat) (lv : List (Option Value)) (st : List Value) (σ : MM) (i : Int), decode cL_law pc = .ok (.iaload, 1) → 0 ≤ i → i < (L : Int) → G (pc + 1) lv (.int (iI (sv i)) :: st) σ → G pc lv (.int (iI i) :: .ref b :: st) σ) ∧
  (∀ (pc : Nat) (lv : List (Option Value)) (st : List Value) (σ : MM), decode cL_law pc = .ok (.arraylength, 1) → G (pc + 1) lv (.int (iI (L : Int)) :: st) σ → G pc lv (.ref b :: st) σ)
abbrev P1L : Option Value → MM → Prop := fun v _ => v = some (.int (iI 1))
set_option maxRecDepth 20000 in
set_option maxHeartbeats 8000000 in
theorem law_loop {l : Launch} {w : WT} {b L : Nat} {sv : Int → Int} {G : GT} (hX : Cx SX l w cL_law 4 ret RL room_1 P1L G) (hF : LawF b L sv G) (hs : ∀ i, inr (sv i)) (hL : L ≤ 3072) : ∀ (n : Nat) (i : Int) (σ : MM), (0 ≤ i ∧ i ≤ 3078) → (L : Int) - i < (n : Int) → RR σ → G 18 [some (.ref b), some (.ref (w.2.2 0)), some (.ref (w.2.2 27)), some (.int (iI i))] [] σ := by
  intro n
  induction n with
  | zero =>
    intro i σ hi hn hR
    refine r_iload_n hX dL_law_18 rfl ?_
    refine r_aload_n hX dL_law_19 rfl ?_
    refine hF.2 _ _ _ _ dL_law_20 ?_
    refine r_bipush hX dL_law_21 (by decide) ?_
    refine r_isub hX dL_law_23 ?_
    refine r_icmp_gt hX (tgt := 817) dL_law_24 (by decide) ⟨by omega, by omega⟩ ⟨by omega, by omega⟩ (fun _ => ?_) (fun q => by exfalso; omega)
    refine r_iconst hX dL_law_817 ?_
    exact r_zret hX dL_law_818 rfl (by omega) rfl
  | succ n ih =>
    intro i σ hi hn hR
    refine r_bd hX (fun hB => ?_)
    refine r_iload_n hX dL_law_18 rfl ?_
    refine r_aload_n hX dL_law_19 rfl ?_
    refine hF.2 _ _ _ _ dL_law_20 ?_
    refine r_bipush hX dL_law_21 (by decide) ?_
    refine r_isub hX dL_law_23 ?_
    refine r_icmp_gt hX (tgt := 817) dL_law_24 (by decide) ⟨by omega, by omega⟩ ⟨by omega, by omega⟩ (fun _ => ?_) (fun q24 => ?_)
    · refine r_iconst hX dL_law_817 ?_
      exact r_zret hX dL_law_818 rfl (by omega) rfl
    refine r_aload_n hX dL_law_27 rfl ?_
    refine r_iload_n hX dL_law_28 rfl ?_
    refine hF.1 _ _ _ _ _ dL_law_29 (by omega) (by omega) ?_
    refine r_bipush hX dL_law_30 (by decide) ?_
    refine r_iand31 hX dL_law_32 (fun z hz0 hz1 => ?_)
    rcases (by omega : 22 < z ∨ z = 0 ∨ z = 1 ∨ z = 2 ∨ z = 3 ∨ z = 4 ∨ z = 5 ∨ z = 6 ∨ z = 7 ∨ z = 8 ∨ z = 9 ∨ z = 10 ∨ z = 11 ∨ z = 12 ∨ z = 13 ∨ z = 14 ∨ z = 15 ∨ z = 16 ∨ z = 17 ∨ z = 18 ∨ z = 19 ∨ z = 20 ∨ z = 21 ∨ z = 22) with c33 | c33 | c33 | c33 | c33 | c33 | c33 | c33 | c33 | c33 | c33 | c33 | c33 | c33 | c33 | c33 | c33 | c33 | c33 | c33 | c33 | c33 | c33 | c33
    · refine r_tblOut hX dL_law_33 ⟨by omega, by omega⟩ (Or.inr c33) (tgt := 811) (by decide) ?_
      refine r_iinc hX (fun x => [some (.ref b), some (.ref (w.2.2 0)), some (.ref (w.2.2 27)), some (.int (iI x))]) dL_law_811 rfl rfl rfl (fun _ => rfl) (fun x811 e811 => ?_)
      refine r_goto hX dL_law_814 (tgt := 18) (by decide) ?_
      exact ih x811 σ (by omega) (by omega) hR
    · refine r_tblIn hX 0 dL_law_33 c33 (by decide) rfl (tgt := 140) (by decide) ?_
      refine r_aload_n hX dL_law_140 rfl ?_
      refine r_aload_n hX dL_law_141 rfl ?_
      refine r_iload_n hX dL_law_142 rfl ?_
      refine r_iconst hX dL_law_143 ?_
      refine r_iadd hX dL_law_144 ?_
      refine hF.1 _ _ _ _ _ dL_law_145 (by omega) (by omega) ?_
      refine r_aload_n hX dL_law_146 rfl ?_
      refine r_iload_n hX dL_law_147 rfl ?_
      refine r_iconst hX dL_law_148 ?_
      refine r_iadd hX dL_law_149 ?_
      refine hF.1 _ _ _ _ _ dL_law_150 (by omega) (by omega) ?_
      refine r_callV hX dL_law_151 (k_B_input l w σ _ _ (hs _) (hs _)) mf_X5_input mv_X5_input lk_RL_13 rfl rfl rfl rfl rfl ⟨Nat.le_of_ble_eq_true rfl, Nat.le_of_ble_eq_true rfl⟩ (Nat.le_of_ble_eq_true rfl) (kI fun z151 σx151 hh => ?_)
      obtain ⟨mx, hx⟩ := hh
      refine r_pop hX dL_law_154 rfl ?_
      refine r_aload_n hX dL_law_155 rfl ?_
      refine r_aload_n hX dL_law_156 rfl ?_
      refine r_iload_n hX dL_law_157 rfl ?_
      refine r_iconst hX dL_law_158 ?_
      refine r_iadd hX dL_law_159 ?_
      refine hF.1 _ _ _ _ _ dL_law_160 (by omega) (by omega) ?_
      refine r_aload_n hX dL_law_161 rfl ?_
      refine r_iload_n hX dL_law_162 rfl ?_
      refine r_iconst hX dL_law_163 ?_
      refine r_iadd hX dL_law_164 ?_
      refine hF.1 _ _ _ _ _ dL_law_165 (by omega) (by omega) ?_
      refine r_callV hX dL_law_166 (k_M_input l w σx151 _ _ (hs _) (hs _)) mf_X6_input mv_X6_input lk_RL_17 rfl rfl rfl rfl rfl ⟨Nat.le_of_ble_eq_true rfl, Nat.le_of_ble_eq_true rfl⟩ (Nat.le_of_ble_eq_true rfl) (kI fun z166 σm166 hh => ?_)
      obtain ⟨mm, hm⟩ := hh
      obtain ⟨hR2, he⟩ := pr_input hR hB mx hx mm hm
      refine r_pop hX dL_law_169 rfl ?_
      refine r_goto hX dL_law_170 (tgt := 811) (by decide) ?_
      refine r_iinc hX (fun x => [some (.ref b), some (.ref (w.2.2 0)), some (.ref (w.2.2 27)), some (.int (iI x))]) dL_law_811 rfl rfl rfl (fun _ => rfl) (fun x811 e811 => ?_)
      refine r_goto hX dL_law_814 (tgt := 18) (by decide) ?_
      exact ih x811 σm166 (by omega) (by omega) hR2
    · refine r_tblIn hX 1 dL_law_33 c33 (by decide) rfl (tgt := 173) (by decide) ?_
      refine r_aload_n hX dL_law_173 rfl ?_
      refine r_aload_n hX dL_law_174 rfl ?_
      refine r_iload_n hX dL_law_175 rfl ?_
      refine r_iconst hX dL_law_176 ?_
      refine r_iadd hX dL_law_177 ?_
      refine hF.1 _ _ _ _ _ dL_law_178 (by omega) (by omega) ?_
      refine r_aload_n hX dL_law_179 rfl ?_
      refine r_iload_n hX dL_law_180 rfl ?_
      refine r_iconst hX dL_law_181 ?_
      refine r_iadd hX dL_law_182 ?_
      refine hF.1 _ _ _ _ _ dL_law_183 (by omega) (by omega) ?_
      refine r_aload_n hX dL_law_184 rfl ?_
      refine r_iload_n hX dL_law_185 rfl ?_
      refine r_iconst hX dL_law_186 ?_
      refine r_iadd hX dL_law_187 ?_
      refine hF.1 _ _ _ _ _ dL_law_188 (by omega) (by omega) ?_
      refine r_aload_n hX dL_law_189 rfl ?_
      refine r_iload_n hX dL_law_190 rfl ?_
      refine r_iconst hX dL_law_191 ?_
      refine r_iadd hX dL_law_192 ?_
      refine hF.1 _ _ _ _ _ dL_law_193 (by omega) (by omega) ?_
      refine r_aload_n hX dL_law_194 rfl ?_
      refine r_iload_n hX dL_law_195 rfl ?_
      refine r_iconst hX dL_law_196 ?_
      refine r_iadd hX dL_law_197 ?_
      refine hF.1 _ _ _ _ _ dL_law_198 (by omega) (by omega) ?_
      refine r_callV hX dL_law_199 (k_B_act l w σ _ _ _ _ _ (hs _) (hs _) (hs _) (hs _) (hs _)) mf_X5_act mv_X5_act lk_RL_18 rfl rfl rfl rfl rfl ⟨Nat.le_of_ble_eq_true rfl, Nat.le_of_ble_eq_true rfl⟩ (Nat.le_of_ble_eq_true rfl) (kI fun z199 σx199 hh => ?_)
      obtain ⟨mx, hx⟩ := hh
      refine r_pop hX dL_law_202 rfl ?_
      refine r_aload_n hX dL_law_203 rfl ?_
      refine r_aload_n hX dL_law_204 rfl ?_
      refine r_iload_n hX dL_law_205 rfl ?_
      refine r_iconst hX dL_law_206 ?_
      refine r_iadd hX dL_law_207 ?_
      refine hF.1 _ _ _ _ _ dL_law_208 (by omega) (by omega) ?_
      refine r_aload_n hX dL_law_209 rfl ?_
      refine r_iload_n hX dL_law_210 rfl ?_
      refine r_iconst hX dL_law_211 ?_
      refine r_iadd hX dL_law_212 ?_
      refine hF.1 _ _ _ _ _ dL_law_213 (by omega) (by omega) ?_
      refine r_aload_n hX dL_law_214 rfl ?_
      refine r_iload_n hX dL_law_215 rfl ?_
      refine r_iconst hX dL_law_216 ?_
      refine r_iadd hX dL_law_217 ?_
      refine hF.1 _ _ _ _ _ dL_law_218 (by omega) (by omega) ?_
      refine r_aload_n hX dL_law_219 rfl ?_
      refine r_iload_n hX dL_law_220 rfl ?_
      refine r_iconst hX dL_law_221 ?_
      refine r_iadd hX dL_law_222 ?_
      refine hF.1 _ _ _ _ _ dL_law_223 (by omega) (by omega) ?_
      refine r_aload_n hX dL_law_224 rfl ?_
      refine r_iload_n hX dL_law_225 rfl ?_
      refine r_iconst hX dL_law_226 ?_
      refine r_iadd hX dL_law_227 ?_
      refine hF.1 _ _ _ _ _ dL_law_228 (by omega) (by omega) ?_
      refine r_callV hX dL_law_229 (k_M_act l w σx199 _ _ _ _ _ (hs _) (hs _) (hs _) (hs _) (hs _)) mf_X6_act mv_X6_act lk_RL_22 rfl rfl rfl rfl rfl ⟨Nat.le_of_ble_eq_true rfl, Nat.le_of_ble_eq_true rfl⟩ (Nat.le_of_ble_eq_true rfl) (kI fun z229 σm229 hh => ?_)
      obtain ⟨mm, hm⟩ := hh
      obtain ⟨hR2, he⟩ := pr_act hR hB mx hx mm hm
      refine r_pop hX dL_law_232 rfl ?_
      refine r_goto hX dL_law_233 (tgt := 811) (by decide) ?_
      refine r_iinc hX (fun x => [some (.ref b), some (.ref (w.2.2 0)), some (.ref (w.2.2 27)), some (.int (iI x))]) dL_law_811 rfl rfl rfl (fun _ => rfl) (fun x811 e811 => ?_)
      refine r_goto hX dL_law_814 (tgt := 18) (by decide) ?_
      exact ih x811 σm229 (by omega) (by omega) hR2
    · refine r_tblIn hX 2 dL_law_33 c33 (by decide) rfl (tgt := 236) (by decide) ?_
      refine r_aload_n hX dL_law_236 rfl ?_
      refine r_aload_n hX dL_law_237 rfl ?_
      refine r_iload_n hX dL_law_238 rfl ?_
      refine r_iconst hX dL_law_239 ?_
      refine r_iadd hX dL_law_240 ?_
      refine hF.1 _ _ _ _ _ dL_law_241 (by omega) (by omega) ?_
      refine r_callV hX dL_law_242 (k_B_first l w σ _ (hs _)) mf_X5_first mv_X5_first lk_RL_23 rfl rfl rfl rfl rfl ⟨Nat.le_of_ble_eq_true rfl, Nat.le_of_ble_eq_true rfl⟩ (Nat.le_of_ble_eq_true rfl) (kI fun z242 σx242 hh => ?_)
      obtain ⟨mx, hx⟩ := hh
      refine r_pop hX dL_law_245 rfl ?_
      refine r_aload_n hX dL_law_246 rfl ?_
      refine r_aload_n hX dL_law_247 rfl ?_
      refine r_iload_n hX dL_law_248 rfl ?_
      refine r_iconst hX dL_law_249 ?_
      refine r_iadd hX dL_law_250 ?_
      refine hF.1 _ _ _ _ _ dL_law_251 (by omega) (by omega) ?_
      refine r_callV hX dL_law_252 (k_M_first l w σx242 _ (hs _)) mf_X6_first mv_X6_first lk_RL_27 rfl rfl rfl rfl rfl ⟨Nat.le_of_ble_eq_true rfl, Nat.le_of_ble_eq_true rfl⟩ (Nat.le_of_ble_eq_true rfl) (kI fun z252 σm252 hh => ?_)
      obtain ⟨mm, hm⟩ := hh
      obtain ⟨hR2, he⟩ := pr_first hR hB mx hx mm hm
      refine r_pop hX dL_law_255 rfl ?_
      refine r_goto hX dL_law_256 (tgt := 811) (by decide) ?_
      refine r_iinc hX (fun x => [some (.ref b), some (.ref (w.2.2 0)), some (.ref (w.2.2 27)), some (.int (iI x))]) dL_law_811 rfl rfl rfl (fun _ => rfl) (fun x811 e811 => ?_)
      refine r_goto hX dL_law_814 (tgt := 18) (by decide) ?_
      exact ih x811 σm252 (by omega) (by omega) hR2
    · refine r_tblIn hX 3 dL_law_33 c33 (by decide) rfl (tgt := 259) (by decide) ?_
      refine r_aload_n hX dL_law_259 rfl ?_
      refine r_callV hX dL_law_260 (k_B_clear l w σ) mf_X5_clear mv_X5_clear lk_RL_28 rfl rfl rfl rfl rfl ⟨Nat.le_of_ble_eq_true rfl, Nat.le_of_ble_eq_true rfl⟩ (Nat.le_of_ble_eq_true rfl) (kI fun z260 σx260 hh => ?_)
      obtain ⟨mx, hx⟩ := hh
      refine r_pop hX dL_law_263 rfl ?_
      refine r_aload_n hX dL_law_264 rfl ?_
      refine r_callV hX dL_law_265 (k_M_clear l w σx260) mf_X6_clear mv_X6_clear lk_RL_32 rfl rfl rfl rfl rfl ⟨Nat.le_of_ble_eq_true rfl, Nat.le_of_ble_eq_true rfl⟩ (Nat.le_of_ble_eq_true rfl) (kI fun z265 σm265 hh => ?_)
      obtain ⟨mm, hm⟩ := hh
      obtain ⟨hR2, he⟩ := pr_clear hR hB mx hx mm hm
      refine r_pop hX dL_law_268 rfl ?_
      refine r_goto hX dL_law_269 (tgt := 811) (by decide) ?_
      refine r_iinc hX (fun x => [some (.ref b), some (.ref (w.2.2 0)), some (.ref (w.2.2 27)), some (.int (iI x))]) dL_law_811 rfl rfl rfl (fun _ => rfl) (fun x811 e811 => ?_)
      refine r_goto hX dL_law_814 (tgt := 18) (by decide) ?_
      exact ih x811 σm265 (by omega) (by omega) hR2
    · refine r_tblIn hX 4 dL_law_33 c33 (by decide) rfl (tgt := 272) (by decide) ?_
      refine r_aload_n hX dL_law_272 rfl ?_
      refine r_callV hX dL_law_273 (k_B_sound l w σ) mf_X5_sound mv_X5_sound lk_RL_33 rfl rfl rfl rfl rfl ⟨Nat.le_of_ble_eq_true rfl, Nat.le_of_ble_eq_true rfl⟩ (Nat.le_of_ble_eq_true rfl) (kI fun z273 σx273 hh => ?_)
      obtain ⟨rfl, hx⟩ := hh
      refine r_pop hX dL_law_276 rfl ?_
      refine r_aload_n hX dL_law_277 rfl ?_
      refine r_callV hX dL_law_278 (k_M_sound l w σ) mf_X6_sound mv_X6_sound lk_RL_36 rfl rfl rfl rfl rfl ⟨Nat.le_of_ble_eq_true rfl, Nat.le_of_ble_eq_true rfl⟩ (Nat.le_of_ble_eq_true rfl) (kI fun z278 σm278 hh => ?_)
      obtain ⟨mm, hm⟩ := hh
      obtain ⟨hR2, he⟩ := pr_sound hR hB hx mm hm
      refine r_pop hX dL_law_281 rfl ?_
      refine r_goto hX dL_law_282 (tgt := 811) (by decide) ?_
      refine r_iinc hX (fun x => [some (.ref b), some (.ref (w.2.2 0)), some (.ref (w.2.2 27)), some (.int (iI x))]) dL_law_811 rfl rfl rfl (fun _ => rfl) (fun x811 e811 => ?_)
      refine r_goto hX dL_law_814 (tgt := 18) (by decide) ?_
      exact ih x811 σm278 (by omega) (by omega) hR2
    · refine r_tblIn hX 5 dL_law_33 c33 (by decide) rfl (tgt := 285) (by decide) ?_
      refine r_aload_n hX dL_law_285 rfl ?_
      refine r_aload_n hX dL_law_286 rfl ?_
      refine r_iload_n hX dL_law_287 rfl ?_
      refine r_iconst hX dL_law_288 ?_
      refine r_iadd hX dL_law_289 ?_
      refine hF.1 _ _ _ _ _ dL_law_290 (by omega) (by omega) ?_
      refine r_aload_n hX dL_law_291 rfl ?_
      refine r_iload_n hX dL_law_292 rfl ?_
      refine r_iconst hX dL_law_293 ?_
      refine r_iadd hX dL_law_294 ?_
      refine hF.1 _ _ _ _ _ dL_law_295 (by omega) (by omega) ?_
      refine r_callV hX dL_law_296 (k_B_plain l w σ _ _ (hs _) (hs _) hR.2.2.2.2.1 (hR.1.dat hB) hR.2.2.2.2.2.2.2) mf_X5_plain mv_X5_plain lk_RL_37 rfl rfl rfl rfl rfl ⟨Nat.le_of_ble_eq_true rfl, Nat.le_of_ble_eq_true rfl⟩ (Nat.le_of_ble_eq_true rfl) (kL fun z296 σx296 hh => ?_)
      obtain ⟨mx, hx⟩ := hh
      refine r_pop2 hX dL_law_299 rfl ?_
      refine r_aload_n hX dL_law_300 rfl ?_
      refine r_aload_n hX dL_law_301 rfl ?_
      refine r_iload_n hX dL_law_302 rfl ?_
      refine r_iconst hX dL_law_303 ?_
      refine r_iadd hX dL_law_304 ?_
      refine hF.1 _ _ _ _ _ dL_law_305 (by omega) (by omega) ?_
      refine r_aload_n hX dL_law_306 rfl ?_
      refine r_iload_n hX dL_law_307 rfl ?_
      refine r_iconst hX dL_law_308 ?_
      refine r_iadd hX dL_law_309 ?_
      refine hF.1 _ _ _ _ _ dL_law_310 (by omega) (by omega) ?_
      refine r_callV hX dL_law_311 (k_M_plain l w σx296 _ _ (hs _) (hs _)) mf_X6_plain mv_X6_plain lk_RL_41 rfl rfl rfl rfl rfl ⟨Nat.le_of_ble_eq_true rfl, Nat.le_of_ble_eq_true rfl⟩ (Nat.le_of_ble_eq_true rfl) (kL fun z311 σm311 hh => ?_)
      obtain ⟨mm, hm⟩ := hh
      obtain ⟨hR2, he⟩ := pr_plain hR hB mx hx mm hm
      refine r_pop2 hX dL_law_314 rfl ?_
      refine r_goto hX dL_law_315 (tgt := 811) (by decide) ?_
      refine r_iinc hX (fun x => [some (.ref b), some (.ref (w.2.2 0)), some (.ref (w.2.2 27)), some (.int (iI x))]) dL_law_811 rfl rfl rfl (fun _ => rfl) (fun x811 e811 => ?_)
      refine r_goto hX dL_law_814 (tgt := 18) (by decide) ?_
      exact ih x811 σm311 (by omega) (by omega) hR2
    · refine r_tblIn hX 6 dL_law_33 c33 (by decide) rfl (tgt := 318) (by decide) ?_
      refine r_aload_n hX dL_law_318 rfl ?_
      refine r_aload_n hX dL_law_319 rfl ?_
      refine r_iload_n hX dL_law_320 rfl ?_
      refine r_iconst hX dL_law_321 ?_
      refine r_iadd hX dL_law_322 ?_
      refine hF.1 _ _ _ _ _ dL_law_323 (by omega) (by omega) ?_
      refine r_aload_n hX dL_law_324 rfl ?_
      refine r_iload_n hX dL_law_325 rfl ?_
      refine r_iconst hX dL_law_326 ?_
      refine r_iadd hX dL_law_327 ?_
      refine hF.1 _ _ _ _ _ dL_law_328 (by omega) (by omega) ?_
      refine r_callV hX dL_law_329 (k_B_about l w σ _ _ (hs _) (hs _)) mf_X5_about mv_X5_about lk_RL_42 rfl rfl rfl rfl rfl ⟨Nat.le_of_ble_eq_true rfl, Nat.le_of_ble_eq_true rfl⟩ (Nat.le_of_ble_eq_true rfl) (kI fun z329 σx329 hh => ?_)
      obtain ⟨rfl, hx⟩ := hh
      refine r_pop hX dL_law_332 rfl ?_
      refine r_aload_n hX dL_law_333 rfl ?_
      refine r_aload_n hX dL_law_334 rfl ?_
      refine r_iload_n hX dL_law_335 rfl ?_
      refine r_iconst hX dL_law_336 ?_
      refine r_iadd hX dL_law_337 ?_
      refine hF.1 _ _ _ _ _ dL_law_338 (by omega) (by omega) ?_
      refine r_aload_n hX dL_law_339 rfl ?_
      refine r_iload_n hX dL_law_340 rfl ?_
      refine r_iconst hX dL_law_341 ?_
      refine r_iadd hX dL_law_342 ?_
      refine hF.1 _ _ _ _ _ dL_law_343 (by omega) (by omega) ?_
      refine r_callV hX dL_law_344 (k_M_about l w σ _ _ (hs _) (hs _)) mf_X6_about mv_X6_about lk_RL_45 rfl rfl rfl rfl rfl ⟨Nat.le_of_ble_eq_true rfl, Nat.le_of_ble_eq_true rfl⟩ (Nat.le_of_ble_eq_true rfl) (kI fun z344 σm344 hh => ?_)
      obtain ⟨rfl, hm⟩ := hh
      obtain ⟨hR2, he⟩ := pr_about hR hB hx hm
      refine r_pop hX dL_law_347 rfl ?_
      refine r_goto hX dL_law_348 (tgt := 811) (by decide) ?_
      refine r_iinc hX (fun x => [some (.ref b), some (.ref (w.2.2 0)), some (.ref (w.2.2 27)), some (.int (iI x))]) dL_law_811 rfl rfl rfl (fun _ => rfl) (fun x811 e811 => ?_)
      refine r_goto hX dL_law_814 (tgt := 18) (by decide) ?_
      exact ih x811 σ (by omega) (by omega) hR2
    · refine r_tblIn hX 7 dL_law_33 c33 (by decide) rfl (tgt := 351) (by decide) ?_
      refine r_aload_n hX dL_law_351 rfl ?_
      refine r_aload_n hX dL_law_352 rfl ?_
      refine r_iload_n hX dL_law_353 rfl ?_
      refine r_iconst hX dL_law_354 ?_
      refine r_iadd hX dL_law_355 ?_
      refine hF.1 _ _ _ _ _ dL_law_356 (by omega) (by omega) ?_
      refine r_aload_n hX dL_law_357 rfl ?_
      refine r_iload_n hX dL_law_358 rfl ?_
      refine r_iconst hX dL_law_359 ?_
      refine r_iadd hX dL_law_360 ?_
      refine hF.1 _ _ _ _ _ dL_law_361 (by omega) (by omega) ?_
      refine r_callV hX dL_law_362 (k_B_board l w σ _ _ (hs _) (hs _)) mf_X5_board mv_X5_board lk_RL_46 rfl rfl rfl rfl rfl ⟨Nat.le_of_ble_eq_true rfl, Nat.le_of_ble_eq_true rfl⟩ (Nat.le_of_ble_eq_true rfl) (kI fun z362 σx362 hh => ?_)
      obtain ⟨mx, hx⟩ := hh
      refine r_pop hX dL_law_365 rfl ?_
      refine r_aload_n hX dL_law_366 rfl ?_
      refine r_aload_n hX dL_law_367 rfl ?_
      refine r_iload_n hX dL_law_368 rfl ?_
      refine r_iconst hX dL_law_369 ?_
      refine r_iadd hX dL_law_370 ?_
      refine hF.1 _ _ _ _ _ dL_law_371 (by omega) (by omega) ?_
      refine r_aload_n hX dL_law_372 rfl ?_
      refine r_iload_n hX dL_law_373 rfl ?_
      refine r_iconst hX dL_law_374 ?_
      refine r_iadd hX dL_law_375 ?_
      refine hF.1 _ _ _ _ _ dL_law_376 (by omega) (by omega) ?_
      refine r_callV hX dL_law_377 (k_M_board l w σx362 _ _ (hs _) (hs _)) mf_X6_board mv_X6_board lk_RL_49 rfl rfl rfl rfl rfl ⟨Nat.le_of_ble_eq_true rfl, Nat.le_of_ble_eq_true rfl⟩ (Nat.le_of_ble_eq_true rfl) (kI fun z377 σm377 hh => ?_)
      obtain ⟨mm, hm⟩ := hh
      obtain ⟨hR2, he⟩ := pr_board hR hB mx hx mm hm
      refine r_pop hX dL_law_380 rfl ?_
      refine r_goto hX dL_law_381 (tgt := 811) (by decide) ?_
      refine r_iinc hX (fun x => [some (.ref b), some (.ref (w.2.2 0)), some (.ref (w.2.2 27)), some (.int (iI x))]) dL_law_811 rfl rfl rfl (fun _ => rfl) (fun x811 e811 => ?_)
      refine r_goto hX dL_law_814 (tgt := 18) (by decide) ?_
      exact ih x811 σm377 (by omega) (by omega) hR2
    · refine r_tblIn hX 8 dL_law_33 c33 (by decide) rfl (tgt := 384) (by decide) ?_
      refine r_aload_n hX dL_law_384 rfl ?_
      refine r_aload_n hX dL_law_385 rfl ?_
      refine r_iload_n hX dL_law_386 rfl ?_
      refine r_iconst hX dL_law_387 ?_
      refine r_iadd hX dL_law_388 ?_
      refine hF.1 _ _ _ _ _ dL_law_389 (by omega) (by omega) ?_
      refine r_aload_n hX dL_law_390 rfl ?_
      refine r_iload_n hX dL_law_391 rfl ?_
      refine r_iconst hX dL_law_392 ?_
      refine r_iadd hX dL_law_393 ?_
      refine hF.1 _ _ _ _ _ dL_law_394 (by omega) (by omega) ?_
      refine r_if_eq hX (tgt := 402) dL_law_395 (by decide) (hs _) (fun c395 => ?_) (fun c395 => ?_)
      · skip
        refine r_iconst hX dL_law_402 ?_
        refine r_callV hX dL_law_403 (k_B_breaks l w σ _ _ (hs _) (by omega) (by omega)) mf_X5_breaks mv_X5_breaks lk_RL_50 rfl rfl rfl rfl rfl ⟨Nat.le_of_ble_eq_true rfl, Nat.le_of_ble_eq_true rfl⟩ (Nat.le_of_ble_eq_true rfl) (kI fun z403 σx403 hh => ?_)
        obtain ⟨mx, hx⟩ := hh
        refine r_pop hX dL_law_406 rfl ?_
        refine r_aload_n hX dL_law_407 rfl ?_
        refine r_aload_n hX dL_law_408 rfl ?_
        refine r_iload_n hX dL_law_409 rfl ?_
        refine r_iconst hX dL_law_410 ?_
        refine r_iadd hX dL_law_411 ?_
        refine hF.1 _ _ _ _ _ dL_law_412 (by omega) (by omega) ?_
        refine r_aload_n hX dL_law_413 rfl ?_
        refine r_iload_n hX dL_law_414 rfl ?_
        refine r_iconst hX dL_law_415 ?_
        refine r_iadd hX dL_law_416 ?_
        refine hF.1 _ _ _ _ _ dL_law_417 (by omega) (by omega) ?_
        refine r_if_eq hX (tgt := 425) dL_law_418 (by decide) (hs _) (fun c418 => ?_) (fun c418 => ?_)
        · skip
          refine r_iconst hX dL_law_425 ?_
          refine r_callV hX dL_law_426 (k_M_breaks l w σx403 _ _ (hs _) (by omega) (by omega)) mf_X6_breaks mv_X6_breaks lk_RL_54 rfl rfl rfl rfl rfl ⟨Nat.le_of_ble_eq_true rfl, Nat.le_of_ble_eq_true rfl⟩ (Nat.le_of_ble_eq_true rfl) (kI fun z426 σm426 hh => ?_)
          obtain ⟨mm, hm⟩ := hh
          obtain ⟨hR2, he⟩ := pr_breaks hR hB mx hx mm hm
          refine r_pop hX dL_law_429 rfl ?_
          refine r_goto hX dL_law_430 (tgt := 811) (by decide) ?_
          refine r_iinc hX (fun x => [some (.ref b), some (.ref (w.2.2 0)), some (.ref (w.2.2 27)), some (.int (iI x))]) dL_law_811 rfl rfl rfl (fun _ => rfl) (fun x811 e811 => ?_)
          refine r_goto hX dL_law_814 (tgt := 18) (by decide) ?_
          exact ih x811 σm426 (by omega) (by omega) hR2
        · skip
          exfalso; omega
      · skip
        refine r_iconst hX dL_law_398 ?_
        refine r_goto hX dL_law_399 (tgt := 403) (by decide) ?_
        refine r_callV hX dL_law_403 (k_B_breaks l w σ _ _ (hs _) (by omega) (by omega)) mf_X5_breaks mv_X5_breaks lk_RL_50 rfl rfl rfl rfl rfl ⟨Nat.le_of_ble_eq_true rfl, Nat.le_of_ble_eq_true rfl⟩ (Nat.le_of_ble_eq_true rfl) (kI fun z403 σx403 hh => ?_)
        obtain ⟨mx, hx⟩ := hh
        refine r_pop hX dL_law_406 rfl ?_
        refine r_aload_n hX dL_law_407 rfl ?_
        refine r_aload_n hX dL_law_408 rfl ?_
        refine r_iload_n hX dL_law_409 rfl ?_
        refine r_iconst hX dL_law_410 ?_
        refine r_iadd hX dL_law_411 ?_
        refine hF.1 _ _ _ _ _ dL_law_412 (by omega) (by omega) ?_
        refine r_aload_n hX dL_law_413 rfl ?_
        refine r_iload_n hX dL_law_414 rfl ?_
        refine r_iconst hX dL_law_415 ?_
        refine r_iadd hX dL_law_416 ?_
        refine hF.1 _ _ _ _ _ dL_law_417 (by omega) (by omega) ?_
        refine r_if_eq hX (tgt := 425) dL_law_418 (by decide) (hs _) (fun c418 => ?_) (fun c418 => ?_)
        · skip
          exfalso; omega
        · skip
          refine r_iconst hX dL_law_421 ?_
          refine r_goto hX dL_law_422 (tgt := 426) (by decide) ?_
          refine r_callV hX dL_law_426 (k_M_breaks l w σx403 _ _ (hs _) (by omega) (by omega)) mf_X6_breaks mv_X6_breaks lk_RL_54 rfl rfl rfl rfl rfl ⟨Nat.le_of_ble_eq_true rfl, Nat.le_of_ble_eq_true rfl⟩ (Nat.le_of_ble_eq_true rfl) (kI fun z426 σm426 hh => ?_)
          obtain ⟨mm, hm⟩ := hh
          obtain ⟨hR2, he⟩ := pr_breaks hR hB mx hx mm hm
          refine r_pop hX dL_law_429 rfl ?_
          refine r_goto hX dL_law_430 (tgt := 811) (by decide) ?_
          refine r_iinc hX (fun x => [some (.ref b), some (.ref (w.2.2 0)), some (.ref (w.2.2 27)), some (.int (iI x))]) dL_law_811 rfl rfl rfl (fun _ => rfl) (fun x811 e811 => ?_)
          refine r_goto hX dL_law_814 (tgt := 18) (by decide) ?_
          exact ih x811 σm426 (by omega) (by omega) hR2
    · refine r_tblIn hX 9 dL_law_33 c33 (by decide) rfl (tgt := 433) (by decide) ?_
      refine r_aload_n hX dL_law_433 rfl ?_
      refine r_aload_n hX dL_law_434 rfl ?_
      refine r_iload_n hX dL_law_435 rfl ?_
      refine r_iconst hX dL_law_436 ?_
      refine r_iadd hX dL_law_437 ?_
      refine hF.1 _ _ _ _ _ dL_law_438 (by omega) (by omega) ?_
      refine r_aload_n hX dL_law_439 rfl ?_
      refine r_iload_n hX dL_law_440 rfl ?_
      refine r_iconst hX dL_law_441 ?_
      refine r_iadd hX dL_law_442 ?_
      refine hF.1 _ _ _ _ _ dL_law_443 (by omega) (by omega) ?_
      refine r_if_eq hX (tgt := 451) dL_law_444 (by decide) (hs _) (fun c444 => ?_) (fun c444 => ?_)
      · skip
        refine r_iconst hX dL_law_451 ?_
        refine r_callV hX dL_law_452 (k_B_multiplies l w σ _ _ (hs _) (by omega) (by omega)) mf_X5_multiplies mv_X5_multiplies lk_RL_55 rfl rfl rfl rfl rfl ⟨Nat.le_of_ble_eq_true rfl, Nat.le_of_ble_eq_true rfl⟩ (Nat.le_of_ble_eq_true rfl) (kI fun z452 σx452 hh => ?_)
        obtain ⟨mx, hx⟩ := hh
        refine r_pop hX dL_law_455 rfl ?_
        refine r_aload_n hX dL_law_456 rfl ?_
        refine r_aload_n hX dL_law_457 rfl ?_
        refine r_iload_n hX dL_law_458 rfl ?_
        refine r_iconst hX dL_law_459 ?_
        refine r_iadd hX dL_law_460 ?_
        refine hF.1 _ _ _ _ _ dL_law_461 (by omega) (by omega) ?_
        refine r_aload_n hX dL_law_462 rfl ?_
        refine r_iload_n hX dL_law_463 rfl ?_
        refine r_iconst hX dL_law_464 ?_
        refine r_iadd hX dL_law_465 ?_
        refine hF.1 _ _ _ _ _ dL_law_466 (by omega) (by omega) ?_
        refine r_if_eq hX (tgt := 474) dL_law_467 (by decide) (hs _) (fun c467 => ?_) (fun c467 => ?_)
        · skip
          refine r_iconst hX dL_law_474 ?_
          refine r_callV hX dL_law_475 (k_M_multiplies l w σx452 _ _ (hs _) (by omega) (by omega)) mf_X6_multiplies mv_X6_multiplies lk_RL_58 rfl rfl rfl rfl rfl ⟨Nat.le_of_ble_eq_true rfl, Nat.le_of_ble_eq_true rfl⟩ (Nat.le_of_ble_eq_true rfl) (kI fun z475 σm475 hh => ?_)
          obtain ⟨mm, hm⟩ := hh
          obtain ⟨hR2, he⟩ := pr_multiplies hR hB mx hx mm hm
          refine r_pop hX dL_law_478 rfl ?_
          refine r_goto hX dL_law_479 (tgt := 811) (by decide) ?_
          refine r_iinc hX (fun x => [some (.ref b), some (.ref (w.2.2 0)), some (.ref (w.2.2 27)), some (.int (iI x))]) dL_law_811 rfl rfl rfl (fun _ => rfl) (fun x811 e811 => ?_)
          refine r_goto hX dL_law_814 (tgt := 18) (by decide) ?_
          exact ih x811 σm475 (by omega) (by omega) hR2
        · skip
          exfalso; omega
      · skip
        refine r_iconst hX dL_law_447 ?_
        refine r_goto hX dL_law_448 (tgt := 452) (by decide) ?_
        refine r_callV hX dL_law_452 (k_B_multiplies l w σ _ _ (hs _) (by omega) (by omega)) mf_X5_multiplies mv_X5_multiplies lk_RL_55 rfl rfl rfl rfl rfl ⟨Nat.le_of_ble_eq_true rfl, Nat.le_of_ble_eq_true rfl⟩ (Nat.le_of_ble_eq_true rfl) (kI fun z452 σx452 hh => ?_)
        obtain ⟨mx, hx⟩ := hh
        refine r_pop hX dL_law_455 rfl ?_
        refine r_aload_n hX dL_law_456 rfl ?_
        refine r_aload_n hX dL_law_457 rfl ?_
        refine r_iload_n hX dL_law_458 rfl ?_
        refine r_iconst hX dL_law_459 ?_
        refine r_iadd hX dL_law_460 ?_
        refine hF.1 _ _ _ _ _ dL_law_461 (by omega) (by omega) ?_
        refine r_aload_n hX dL_law_462 rfl ?_
        refine r_iload_n hX dL_law_463 rfl ?_
        refine r_iconst hX dL_law_464 ?_
        refine r_iadd hX dL_law_465 ?_
        refine hF.1 _ _ _ _ _ dL_law_466 (by omega) (by omega) ?_
        refine r_if_eq hX (tgt := 474) dL_law_467 (by decide) (hs _) (fun c467 => ?_) (fun c467 => ?_)
        · skip
          exfalso; omega
        · skip
          refine r_iconst hX dL_law_470 ?_
          refine r_goto hX dL_law_471 (tgt := 475) (by decide) ?_
          refine r_callV hX dL_law_475 (k_M_multiplies l w σx452 _ _ (hs _) (by omega) (by omega)) mf_X6_multiplies mv_X6_multiplies lk_RL_58 rfl rfl rfl rfl rfl ⟨Nat.le_of_ble_eq_true rfl, Nat.le_of_ble_eq_true rfl⟩ (Nat.le_of_ble_eq_true rfl) (kI fun z475 σm475 hh => ?_)
          obtain ⟨mm, hm⟩ := hh
          obtain ⟨hR2, he⟩ := pr_multiplies hR hB mx hx mm hm
          refine r_pop hX dL_law_478 rfl ?_
          refine r_goto hX dL_law_479 (tgt := 811) (by decide) ?_
          refine r_iinc hX (fun x => [some (.ref b), some (.ref (w.2.2 0)), some (.ref (w.2.2 27)), some (.int (iI x))]) dL_law_811 rfl rfl rfl (fun _ => rfl) (fun x811 e811 => ?_)
          refine r_goto hX dL_law_814 (tgt := 18) (by decide) ?_
          exact ih x811 σm475 (by omega) (by omega) hR2
    · refine r_tblIn hX 10 dL_law_33 c33 (by decide) rfl (tgt := 482) (by decide) ?_
      refine r_aload_n hX dL_law_482 rfl ?_
      refine r_aload_n hX dL_law_483 rfl ?_
      refine r_iload_n hX dL_law_484 rfl ?_
      refine r_iconst hX dL_law_485 ?_
      refine r_iadd hX dL_law_486 ?_
      refine hF.1 _ _ _ _ _ dL_law_487 (by omega) (by omega) ?_
      refine r_aload_n hX dL_law_488 rfl ?_
      refine r_iload_n hX dL_law_489 rfl ?_
      refine r_iconst hX dL_law_490 ?_
      refine r_iadd hX dL_law_491 ?_
      refine hF.1 _ _ _ _ _ dL_law_492 (by omega) (by omega) ?_
      refine r_callV hX dL_law_493 (k_B_way l w σ _ _ (hs _) (hs _)) mf_X5_way mv_X5_way lk_RL_59 rfl rfl rfl rfl rfl ⟨Nat.le_of_ble_eq_true rfl, Nat.le_of_ble_eq_true rfl⟩ (Nat.le_of_ble_eq_true rfl) (kI fun z493 σx493 hh => ?_)
      obtain ⟨rfl, hx⟩ := hh
      refine r_pop hX dL_law_496 rfl ?_
      refine r_aload_n hX dL_law_497 rfl ?_
      refine r_aload_n hX dL_law_498 rfl ?_
      refine r_iload_n hX dL_law_499 rfl ?_
      refine r_iconst hX dL_law_500 ?_
      refine r_iadd hX dL_law_501 ?_
      refine hF.1 _ _ _ _ _ dL_law_502 (by omega) (by omega) ?_
      refine r_aload_n hX dL_law_503 rfl ?_
      refine r_iload_n hX dL_law_504 rfl ?_
      refine r_iconst hX dL_law_505 ?_
      refine r_iadd hX dL_law_506 ?_
      refine hF.1 _ _ _ _ _ dL_law_507 (by omega) (by omega) ?_
      refine r_callV hX dL_law_508 (k_M_way l w σ _ _ (hs _) (hs _) (σ 13) ((hR.way hB))) mf_X6_way mv_X6_way lk_RL_62 rfl rfl rfl rfl rfl ⟨Nat.le_of_ble_eq_true rfl, Nat.le_of_ble_eq_true rfl⟩ (Nat.le_of_ble_eq_true rfl) (kI fun z508 σm508 hh => ?_)
      obtain ⟨mm, hm⟩ := hh
      obtain ⟨hR2, he⟩ := pr_way hR hB hx mm hm
      refine r_pop hX dL_law_511 rfl ?_
      refine r_goto hX dL_law_512 (tgt := 811) (by decide) ?_
      refine r_iinc hX (fun x => [some (.ref b), some (.ref (w.2.2 0)), some (.ref (w.2.2 27)), some (.int (iI x))]) dL_law_811 rfl rfl rfl (fun _ => rfl) (fun x811 e811 => ?_)
      refine r_goto hX dL_law_814 (tgt := 18) (by decide) ?_
      exact ih x811 σm508 (by omega) (by omega) hR2
    · refine r_tblIn hX 11 dL_law_33 c33 (by decide) rfl (tgt := 515) (by decide) ?_
      refine r_aload_n hX dL_law_515 rfl ?_
      refine r_aload_n hX dL_law_516 rfl ?_
      refine r_iload_n hX dL_law_517 rfl ?_
      refine r_iconst hX dL_law_518 ?_
      refine r_iadd hX dL_law_519 ?_
      refine hF.1 _ _ _ _ _ dL_law_520 (by omega) (by omega) ?_
      refine r_callV hX dL_law_521 (k_B_plan l w σ _ (hs _)) mf_X5_plan mv_X5_plan lk_RL_63 rfl rfl rfl rfl rfl ⟨Nat.le_of_ble_eq_true rfl, Nat.le_of_ble_eq_true rfl⟩ (Nat.le_of_ble_eq_true rfl) (kI fun z521 σx521 hh => ?_)
      obtain ⟨mx, hx⟩ := hh
      refine r_pop hX dL_law_524 rfl ?_
      refine r_aload_n hX dL_law_525 rfl ?_
      refine r_aload_n hX dL_law_526 rfl ?_
      refine r_iload_n hX dL_law_527 rfl ?_
      refine r_iconst hX dL_law_528 ?_
      refine r_iadd hX dL_law_529 ?_
      refine hF.1 _ _ _ _ _ dL_law_530 (by omega) (by omega) ?_
      refine r_callV hX dL_law_531 (k_M_plan l w σx521 _ (hs _)) mf_X6_plan mv_X6_plan lk_RL_66 rfl rfl rfl rfl rfl ⟨Nat.le_of_ble_eq_true rfl, Nat.le_of_ble_eq_true rfl⟩ (Nat.le_of_ble_eq_true rfl) (kI fun z531 σm531 hh => ?_)
      obtain ⟨mm, hm⟩ := hh
      obtain ⟨hR2, he⟩ := pr_plan hR hB mx hx mm hm
      refine r_pop hX dL_law_534 rfl ?_
      refine r_goto hX dL_law_535 (tgt := 811) (by decide) ?_
      refine r_iinc hX (fun x => [some (.ref b), some (.ref (w.2.2 0)), some (.ref (w.2.2 27)), some (.int (iI x))]) dL_law_811 rfl rfl rfl (fun _ => rfl) (fun x811 e811 => ?_)
      refine r_goto hX dL_law_814 (tgt := 18) (by decide) ?_
      exact ih x811 σm531 (by omega) (by omega) hR2
    · refine r_tblIn hX 12 dL_law_33 c33 (by decide) rfl (tgt := 538) (by decide) ?_
      refine r_aload_n hX dL_law_538 rfl ?_
      refine r_aload_n hX dL_law_539 rfl ?_
      refine r_iload_n hX dL_law_540 rfl ?_
      refine r_iconst hX dL_law_541 ?_
      refine r_iadd hX dL_law_542 ?_
      refine hF.1 _ _ _ _ _ dL_law_543 (by omega) (by omega) ?_
      refine r_aload_n hX dL_law_544 rfl ?_
      refine r_iload_n hX dL_law_545 rfl ?_
      refine r_iconst hX dL_law_546 ?_
      refine r_iadd hX dL_law_547 ?_
      refine hF.1 _ _ _ _ _ dL_law_548 (by omega) (by omega) ?_
      refine r_aload_n hX dL_law_549 rfl ?_
      refine r_iload_n hX dL_law_550 rfl ?_
      refine r_iconst hX dL_law_551 ?_
      refine r_iadd hX dL_law_552 ?_
      refine hF.1 _ _ _ _ _ dL_law_553 (by omega) (by omega) ?_
      refine r_callV hX dL_law_554 (k_B_lay l w σ _ _ _ (hs _) (hs _) (hs _)) mf_X5_lay mv_X5_lay lk_RL_67 rfl rfl rfl rfl rfl ⟨Nat.le_of_ble_eq_true rfl, Nat.le_of_ble_eq_true rfl⟩ (Nat.le_of_ble_eq_true rfl) (kI fun z554 σx554 hh => ?_)
      obtain ⟨mx, hx⟩ := hh
      refine r_pop hX dL_law_557 rfl ?_
      refine r_aload_n hX dL_law_558 rfl ?_
      refine r_aload_n hX dL_law_559 rfl ?_
      refine r_iload_n hX dL_law_560 rfl ?_
      refine r_iconst hX dL_law_561 ?_
      refine r_iadd hX dL_law_562 ?_
      refine hF.1 _ _ _ _ _ dL_law_563 (by omega) (by omega) ?_
      refine r_aload_n hX dL_law_564 rfl ?_
      refine r_iload_n hX dL_law_565 rfl ?_
      refine r_iconst hX dL_law_566 ?_
      refine r_iadd hX dL_law_567 ?_
      refine hF.1 _ _ _ _ _ dL_law_568 (by omega) (by omega) ?_
      refine r_aload_n hX dL_law_569 rfl ?_
      refine r_iload_n hX dL_law_570 rfl ?_
      refine r_iconst hX dL_law_571 ?_
      refine r_iadd hX dL_law_572 ?_
      refine hF.1 _ _ _ _ _ dL_law_573 (by omega) (by omega) ?_
      refine r_callV hX dL_law_574 (k_M_lay l w σx554 _ _ _ (hs _) (hs _) (hs _)) mf_X6_lay mv_X6_lay lk_RL_71 rfl rfl rfl rfl rfl ⟨Nat.le_of_ble_eq_true rfl, Nat.le_of_ble_eq_true rfl⟩ (Nat.le_of_ble_eq_true rfl) (kI fun z574 σm574 hh => ?_)
      obtain ⟨mm, hm⟩ := hh
      obtain ⟨hR2, he⟩ := pr_lay hR hB mx hx mm hm
      refine r_pop hX dL_law_577 rfl ?_
      refine r_goto hX dL_law_578 (tgt := 811) (by decide) ?_
      refine r_iinc hX (fun x => [some (.ref b), some (.ref (w.2.2 0)), some (.ref (w.2.2 27)), some (.int (iI x))]) dL_law_811 rfl rfl rfl (fun _ => rfl) (fun x811 e811 => ?_)
      refine r_goto hX dL_law_814 (tgt := 18) (by decide) ?_
      exact ih x811 σm574 (by omega) (by omega) hR2
    · refine r_tblIn hX 13 dL_law_33 c33 (by decide) rfl (tgt := 581) (by decide) ?_
      refine r_aload_n hX dL_law_581 rfl ?_
      refine r_callV hX dL_law_582 (k_B_lacks l w σ hR.2.2.2.2.1 hR.2.2.2.2.2.1) mf_X5_lacks mv_X5_lacks lk_RL_72 rfl rfl rfl rfl rfl ⟨Nat.le_of_ble_eq_true rfl, Nat.le_of_ble_eq_true rfl⟩ (Nat.le_of_ble_eq_true rfl) (kI fun z582 σx582 hh => ?_)
      obtain ⟨rfl, hx⟩ := hh
      refine r_pop hX dL_law_585 rfl ?_
      refine r_aload_n hX dL_law_586 rfl ?_
      refine r_callV hX dL_law_587 (k_M_lacks l w σ (σ 13) ((hR.way hB)) (hR.layM)) mf_X6_lacks mv_X6_lacks lk_RL_75 rfl rfl rfl rfl rfl ⟨Nat.le_of_ble_eq_true rfl, Nat.le_of_ble_eq_true rfl⟩ (Nat.le_of_ble_eq_true rfl) (kI fun z587 σm587 hh => ?_)
      obtain ⟨mm, hm⟩ := hh
      obtain ⟨hR2, he⟩ := pr_lacks hR hB hx mm hm
      refine r_pop hX dL_law_590 rfl ?_
      refine r_goto hX dL_law_591 (tgt := 811) (by decide) ?_
      refine r_iinc hX (fun x => [some (.ref b), some (.ref (w.2.2 0)), some (.ref (w.2.2 27)), some (.int (iI x))]) dL_law_811 rfl rfl rfl (fun _ => rfl) (fun x811 e811 => ?_)
      refine r_goto hX dL_law_814 (tgt := 18) (by decide) ?_
      exact ih x811 σm587 (by omega) (by omega) hR2
    · refine r_tblIn hX 14 dL_law_33 c33 (by decide) rfl (tgt := 594) (by decide) ?_
      refine r_aload_n hX dL_law_594 rfl ?_
      refine r_aload_n hX dL_law_595 rfl ?_
      refine r_iload_n hX dL_law_596 rfl ?_
      refine r_iconst hX dL_law_597 ?_
      refine r_iadd hX dL_law_598 ?_
      refine hF.1 _ _ _ _ _ dL_law_599 (by omega) (by omega) ?_
      refine r_aload_n hX dL_law_600 rfl ?_
      refine r_iload_n hX dL_law_601 rfl ?_
      refine r_iconst hX dL_law_602 ?_
      refine r_iadd hX dL_law_603 ?_
      refine hF.1 _ _ _ _ _ dL_law_604 (by omega) (by omega) ?_
      refine r_callV hX dL_law_605 (k_B_laid l w σ _ _ (hs _) (hs _)) mf_X5_laid mv_X5_laid lk_RL_76 rfl rfl rfl rfl rfl ⟨Nat.le_of_ble_eq_true rfl, Nat.le_of_ble_eq_true rfl⟩ (Nat.le_of_ble_eq_true rfl) (kI fun z605 σx605 hh => ?_)
      obtain ⟨rfl, hx⟩ := hh
      refine r_pop hX dL_law_608 rfl ?_
      refine r_aload_n hX dL_law_609 rfl ?_
      refine r_aload_n hX dL_law_610 rfl ?_
      refine r_iload_n hX dL_law_611 rfl ?_
      refine r_iconst hX dL_law_612 ?_
      refine r_iadd hX dL_law_613 ?_
      refine hF.1 _ _ _ _ _ dL_law_614 (by omega) (by omega) ?_
      refine r_aload_n hX dL_law_615 rfl ?_
      refine r_iload_n hX dL_law_616 rfl ?_
      refine r_iconst hX dL_law_617 ?_
      refine r_iadd hX dL_law_618 ?_
      refine hF.1 _ _ _ _ _ dL_law_619 (by omega) (by omega) ?_
      refine r_callV hX dL_law_620 (k_M_laid l w σ _ _ (hs _) (hs _)) mf_X6_laid mv_X6_laid lk_RL_79 rfl rfl rfl rfl rfl ⟨Nat.le_of_ble_eq_true rfl, Nat.le_of_ble_eq_true rfl⟩ (Nat.le_of_ble_eq_true rfl) (kI fun z620 σm620 hh => ?_)
      obtain ⟨rfl, hm⟩ := hh
      obtain ⟨hR2, he⟩ := pr_laid hR hB hx hm
      refine r_pop hX dL_law_623 rfl ?_
      refine r_goto hX dL_law_624 (tgt := 811) (by decide) ?_
      refine r_iinc hX (fun x => [some (.ref b), some (.ref (w.2.2 0)), some (.ref (w.2.2 27)), some (.int (iI x))]) dL_law_811 rfl rfl rfl (fun _ => rfl) (fun x811 e811 => ?_)
      refine r_goto hX dL_law_814 (tgt := 18) (by decide) ?_
      exact ih x811 σ (by omega) (by omega) hR2
    · refine r_tblIn hX 15 dL_law_33 c33 (by decide) rfl (tgt := 627) (by decide) ?_
      refine r_aload_n hX dL_law_627 rfl ?_
      refine r_aload_n hX dL_law_628 rfl ?_
      refine r_iload_n hX dL_law_629 rfl ?_
      refine r_iconst hX dL_law_630 ?_
      refine r_iadd hX dL_law_631 ?_
      refine hF.1 _ _ _ _ _ dL_law_632 (by omega) (by omega) ?_
      refine r_callV hX dL_law_633 (k_B_kept l w σ _ (hs _) hR.2.2.2.2.1 hR.2.2.2.2.2.1) mf_X5_kept mv_X5_kept lk_RL_80 rfl rfl rfl rfl rfl ⟨Nat.le_of_ble_eq_true rfl, Nat.le_of_ble_eq_true rfl⟩ (Nat.le_of_ble_eq_true rfl) (kI fun z633 σx633 hh => ?_)
      obtain ⟨rfl, hx⟩ := hh
      refine r_pop hX dL_law_636 rfl ?_
      refine r_aload_n hX dL_law_637 rfl ?_
      refine r_aload_n hX dL_law_638 rfl ?_
      refine r_iload_n hX dL_law_639 rfl ?_
      refine r_iconst hX dL_law_640 ?_
      refine r_iadd hX dL_law_641 ?_
      refine hF.1 _ _ _ _ _ dL_law_642 (by omega) (by omega) ?_
      refine r_callV hX dL_law_643 (k_M_kept l w σ _ (hs _) (σ 13) ((hR.way hB)) (hR.layM)) mf_X6_kept mv_X6_kept lk_RL_83 rfl rfl rfl rfl rfl ⟨Nat.le_of_ble_eq_true rfl, Nat.le_of_ble_eq_true rfl⟩ (Nat.le_of_ble_eq_true rfl) (kI fun z643 σm643 hh => ?_)
      obtain ⟨mm, hm⟩ := hh
      obtain ⟨hR2, he⟩ := pr_kept hR hB hx mm hm
      refine r_pop hX dL_law_646 rfl ?_
      refine r_goto hX dL_law_647 (tgt := 811) (by decide) ?_
      refine r_iinc hX (fun x => [some (.ref b), some (.ref (w.2.2 0)), some (.ref (w.2.2 27)), some (.int (iI x))]) dL_law_811 rfl rfl rfl (fun _ => rfl) (fun x811 e811 => ?_)
      refine r_goto hX dL_law_814 (tgt := 18) (by decide) ?_
      exact ih x811 σm643 (by omega) (by omega) hR2
    · refine r_tblIn hX 16 dL_law_33 c33 (by decide) rfl (tgt := 650) (by decide) ?_
      refine r_aload_n hX dL_law_650 rfl ?_
      refine r_aload_n hX dL_law_651 rfl ?_
      refine r_iload_n hX dL_law_652 rfl ?_
      refine r_iconst hX dL_law_653 ?_
      refine r_iadd hX dL_law_654 ?_
      refine hF.1 _ _ _ _ _ dL_law_655 (by omega) (by omega) ?_
      refine r_callV hX dL_law_656 (k_B_step l w σ _ (hs _) hR.2.2.2.2.1 (hR.1.dat hB) hR.2.2.2.2.2.1) mf_X5_step mv_X5_step lk_RL_84 rfl rfl rfl rfl rfl ⟨Nat.le_of_ble_eq_true rfl, Nat.le_of_ble_eq_true rfl⟩ (Nat.le_of_ble_eq_true rfl) (kI fun z656 σx656 hh => ?_)
      obtain ⟨mx, hx⟩ := hh
      refine r_pop hX dL_law_659 rfl ?_
      refine r_aload_n hX dL_law_660 rfl ?_
      refine r_aload_n hX dL_law_661 rfl ?_
      refine r_iload_n hX dL_law_662 rfl ?_
      refine r_iconst hX dL_law_663 ?_
      refine r_iadd hX dL_law_664 ?_
      refine hF.1 _ _ _ _ _ dL_law_665 (by omega) (by omega) ?_
      refine r_callV hX dL_law_666 (k_M_step l w σx656 _ (hs _) (σ 13) ((hR.way hB).keep mx rfl) (hR.layM.keep mx rfl)) mf_X6_step mv_X6_step lk_RL_87 rfl rfl rfl rfl rfl ⟨Nat.le_of_ble_eq_true rfl, Nat.le_of_ble_eq_true rfl⟩ (Nat.le_of_ble_eq_true rfl) (kI fun z666 σm666 hh => ?_)
      obtain ⟨mm, hm⟩ := hh
      obtain ⟨hR2, he⟩ := pr_step hR hB mx hx mm hm
      refine r_pop hX dL_law_669 rfl ?_
      refine r_goto hX dL_law_670 (tgt := 811) (by decide) ?_
      refine r_iinc hX (fun x => [some (.ref b), some (.ref (w.2.2 0)), some (.ref (w.2.2 27)), some (.int (iI x))]) dL_law_811 rfl rfl rfl (fun _ => rfl) (fun x811 e811 => ?_)
      refine r_goto hX dL_law_814 (tgt := 18) (by decide) ?_
      exact ih x811 σm666 (by omega) (by omega) hR2
    · refine r_tblIn hX 17 dL_law_33 c33 (by decide) rfl (tgt := 673) (by decide) ?_
      refine r_aload_n hX dL_law_673 rfl ?_
      refine r_aload_n hX dL_law_674 rfl ?_
      refine r_iload_n hX dL_law_675 rfl ?_
      refine r_iconst hX dL_law_676 ?_
      refine r_iadd hX dL_law_677 ?_
      refine hF.1 _ _ _ _ _ dL_law_678 (by omega) (by omega) ?_
      refine r_aload_n hX dL_law_679 rfl ?_
      refine r_iload_n hX dL_law_680 rfl ?_
      refine r_iconst hX dL_law_681 ?_
      refine r_iadd hX dL_law_682 ?_
      refine hF.1 _ _ _ _ _ dL_law_683 (by omega) (by omega) ?_
      refine r_callV hX dL_law_684 (k_B_stepped l w σ _ _ (hs _) (hs _)) mf_X5_stepped mv_X5_stepped lk_RL_88 rfl rfl rfl rfl rfl ⟨Nat.le_of_ble_eq_true rfl, Nat.le_of_ble_eq_true rfl⟩ (Nat.le_of_ble_eq_true rfl) (kL fun z684 σx684 hh => ?_)
      obtain ⟨rfl, hx⟩ := hh
      refine r_pop2 hX dL_law_687 rfl ?_
      refine r_aload_n hX dL_law_688 rfl ?_
      refine r_aload_n hX dL_law_689 rfl ?_
      refine r_iload_n hX dL_law_690 rfl ?_
      refine r_iconst hX dL_law_691 ?_
      refine r_iadd hX dL_law_692 ?_
      refine hF.1 _ _ _ _ _ dL_law_693 (by omega) (by omega) ?_
      refine r_aload_n hX dL_law_694 rfl ?_
      refine r_iload_n hX dL_law_695 rfl ?_
      refine r_iconst hX dL_law_696 ?_
      refine r_iadd hX dL_law_697 ?_
      refine hF.1 _ _ _ _ _ dL_law_698 (by omega) (by omega) ?_
      refine r_callV hX dL_law_699 (k_M_stepped l w σ _ _ (hs _) (hs _)) mf_X6_stepped mv_X6_stepped lk_RL_91 rfl rfl rfl rfl rfl ⟨Nat.le_of_ble_eq_true rfl, Nat.le_of_ble_eq_true rfl⟩ (Nat.le_of_ble_eq_true rfl) (kL fun z699 σm699 hh => ?_)
      obtain ⟨mm, hm⟩ := hh
      obtain ⟨hR2, he⟩ := pr_stepped hR hB hx mm hm
      refine r_pop2 hX dL_law_702 rfl ?_
      refine r_goto hX dL_law_703 (tgt := 811) (by decide) ?_
      refine r_iinc hX (fun x => [some (.ref b), some (.ref (w.2.2 0)), some (.ref (w.2.2 27)), some (.int (iI x))]) dL_law_811 rfl rfl rfl (fun _ => rfl) (fun x811 e811 => ?_)
      refine r_goto hX dL_law_814 (tgt := 18) (by decide) ?_
      exact ih x811 σm699 (by omega) (by omega) hR2
    · refine r_tblIn hX 18 dL_law_33 c33 (by decide) rfl (tgt := 706) (by decide) ?_
      refine r_aload_n hX dL_law_706 rfl ?_
      refine r_aload_n hX dL_law_707 rfl ?_
      refine r_iload_n hX dL_law_708 rfl ?_
      refine r_iconst hX dL_law_709 ?_
      refine r_iadd hX dL_law_710 ?_
      refine hF.1 _ _ _ _ _ dL_law_711 (by omega) (by omega) ?_
      refine r_aload_n hX dL_law_712 rfl ?_
      refine r_iload_n hX dL_law_713 rfl ?_
      refine r_iconst hX dL_law_714 ?_
      refine r_iadd hX dL_law_715 ?_
      refine hF.1 _ _ _ _ _ dL_law_716 (by omega) (by omega) ?_
      refine r_callV hX dL_law_717 (k_B_works l w σ _ _ (hs _) (hs _) hR.2.2.2.2.1 hR.2.2.2.2.2.1) mf_X5_works mv_X5_works lk_RL_92 rfl rfl rfl rfl rfl ⟨Nat.le_of_ble_eq_true rfl, Nat.le_of_ble_eq_true rfl⟩ (Nat.le_of_ble_eq_true rfl) (kI fun z717 σx717 hh => ?_)
      obtain ⟨rfl, hx⟩ := hh
      refine r_pop hX dL_law_720 rfl ?_
      refine r_aload_n hX dL_law_721 rfl ?_
      refine r_aload_n hX dL_law_722 rfl ?_
      refine r_iload_n hX dL_law_723 rfl ?_
      refine r_iconst hX dL_law_724 ?_
      refine r_iadd hX dL_law_725 ?_
      refine hF.1 _ _ _ _ _ dL_law_726 (by omega) (by omega) ?_
      refine r_aload_n hX dL_law_727 rfl ?_
      refine r_iload_n hX dL_law_728 rfl ?_
      refine r_iconst hX dL_law_729 ?_
      refine r_iadd hX dL_law_730 ?_
      refine hF.1 _ _ _ _ _ dL_law_731 (by omega) (by omega) ?_
      refine r_callV hX dL_law_732 (k_M_works l w σ _ _ (hs _) (hs _) (σ 13) ((hR.way hB)) (hR.layM)) mf_X6_works mv_X6_works lk_RL_95 rfl rfl rfl rfl rfl ⟨Nat.le_of_ble_eq_true rfl, Nat.le_of_ble_eq_true rfl⟩ (Nat.le_of_ble_eq_true rfl) (kI fun z732 σm732 hh => ?_)
      obtain ⟨mm, hm⟩ := hh
      obtain ⟨hR2, he⟩ := pr_works hR hB hx mm hm
      refine r_pop hX dL_law_735 rfl ?_
      refine r_goto hX dL_law_736 (tgt := 811) (by decide) ?_
      refine r_iinc hX (fun x => [some (.ref b), some (.ref (w.2.2 0)), some (.ref (w.2.2 27)), some (.int (iI x))]) dL_law_811 rfl rfl rfl (fun _ => rfl) (fun x811 e811 => ?_)
      refine r_goto hX dL_law_814 (tgt := 18) (by decide) ?_
      exact ih x811 σm732 (by omega) (by omega) hR2
    · refine r_tblIn hX 19 dL_law_33 c33 (by decide) rfl (tgt := 739) (by decide) ?_
      refine r_aload_n hX dL_law_739 rfl ?_
      refine r_aload_n hX dL_law_740 rfl ?_
      refine r_iload_n hX dL_law_741 rfl ?_
      refine r_iconst hX dL_law_742 ?_
      refine r_iadd hX dL_law_743 ?_
      refine hF.1 _ _ _ _ _ dL_law_744 (by omega) (by omega) ?_
      refine r_callV hX dL_law_745 (k_B_bound l w σ _ (hs _)) mf_X5_bound mv_X5_bound lk_RL_96 rfl rfl rfl rfl rfl ⟨Nat.le_of_ble_eq_true rfl, Nat.le_of_ble_eq_true rfl⟩ (Nat.le_of_ble_eq_true rfl) (kI fun z745 σx745 hh => ?_)
      obtain ⟨mx, hx⟩ := hh
      refine r_pop hX dL_law_748 rfl ?_
      refine r_aload_n hX dL_law_749 rfl ?_
      refine r_aload_n hX dL_law_750 rfl ?_
      refine r_iload_n hX dL_law_751 rfl ?_
      refine r_iconst hX dL_law_752 ?_
      refine r_iadd hX dL_law_753 ?_
      refine hF.1 _ _ _ _ _ dL_law_754 (by omega) (by omega) ?_
      refine r_callV hX dL_law_755 (k_M_bound l w σx745 _ (hs _)) mf_X6_bound mv_X6_bound lk_RL_99 rfl rfl rfl rfl rfl ⟨Nat.le_of_ble_eq_true rfl, Nat.le_of_ble_eq_true rfl⟩ (Nat.le_of_ble_eq_true rfl) (kI fun z755 σm755 hh => ?_)
      obtain ⟨mm, hm⟩ := hh
      obtain ⟨hR2, he⟩ := pr_bound hR hB mx hx mm hm
      refine r_pop hX dL_law_758 rfl ?_
      refine r_goto hX dL_law_759 (tgt := 811) (by decide) ?_
      refine r_iinc hX (fun x => [some (.ref b), some (.ref (w.2.2 0)), some (.ref (w.2.2 27)), some (.int (iI x))]) dL_law_811 rfl rfl rfl (fun _ => rfl) (fun x811 e811 => ?_)
      refine r_goto hX dL_law_814 (tgt := 18) (by decide) ?_
      exact ih x811 σm755 (by omega) (by omega) hR2
    · refine r_tblIn hX 20 dL_law_33 c33 (by decide) rfl (tgt := 762) (by decide) ?_
      refine r_aload_n hX dL_law_762 rfl ?_
      refine r_callV hX dL_law_763 (k_B_find l w σ) mf_X5_find mv_X5_find lk_RL_100 rfl rfl rfl rfl rfl ⟨Nat.le_of_ble_eq_true rfl, Nat.le_of_ble_eq_true rfl⟩ (Nat.le_of_ble_eq_true rfl) (kI fun z763 σx763 hh => ?_)
      obtain ⟨mx, hx⟩ := hh
      refine r_pop hX dL_law_766 rfl ?_
      refine r_aload_n hX dL_law_767 rfl ?_
      refine r_callV hX dL_law_768 (k_M_find l w σx763 (σ 13) ((hR.way hB).keep mx rfl)) mf_X6_find mv_X6_find lk_RL_103 rfl rfl rfl rfl rfl ⟨Nat.le_of_ble_eq_true rfl, Nat.le_of_ble_eq_true rfl⟩ (Nat.le_of_ble_eq_true rfl) (kI fun z768 σm768 hh => ?_)
      obtain ⟨mm, hm⟩ := hh
      obtain ⟨hR2, he⟩ := pr_find hR hB mx hx mm hm
      refine r_pop hX dL_law_771 rfl ?_
      refine r_goto hX dL_law_772 (tgt := 811) (by decide) ?_
      refine r_iinc hX (fun x => [some (.ref b), some (.ref (w.2.2 0)), some (.ref (w.2.2 27)), some (.int (iI x))]) dL_law_811 rfl rfl rfl (fun _ => rfl) (fun x811 e811 => ?_)
      refine r_goto hX dL_law_814 (tgt := 18) (by decide) ?_
      exact ih x811 σm768 (by omega) (by omega) hR2
    · refine r_tblIn hX 21 dL_law_33 c33 (by decide) rfl (tgt := 775) (by decide) ?_
      refine r_aload_n hX dL_law_775 rfl ?_
      refine r_callV hX dL_law_776 (k_B_tries l w σ) mf_X5_tries mv_X5_tries lk_RL_104 rfl rfl rfl rfl rfl ⟨Nat.le_of_ble_eq_true rfl, Nat.le_of_ble_eq_true rfl⟩ (Nat.le_of_ble_eq_true rfl) (kI fun z776 σx776 hh => ?_)
      obtain ⟨rfl, hx⟩ := hh
      refine r_pop hX dL_law_779 rfl ?_
      refine r_aload_n hX dL_law_780 rfl ?_
      refine r_callV hX dL_law_781 (k_M_tries l w σ) mf_X6_tries mv_X6_tries lk_RL_107 rfl rfl rfl rfl rfl ⟨Nat.le_of_ble_eq_true rfl, Nat.le_of_ble_eq_true rfl⟩ (Nat.le_of_ble_eq_true rfl) (kI fun z781 σm781 hh => ?_)
      obtain ⟨rfl, hm⟩ := hh
      refine r_pop hX dL_law_784 rfl ?_
      refine r_goto hX dL_law_785 (tgt := 811) (by decide) ?_
      refine r_iinc hX (fun x => [some (.ref b), some (.ref (w.2.2 0)), some (.ref (w.2.2 27)), some (.int (iI x))]) dL_law_811 rfl rfl rfl (fun _ => rfl) (fun x811 e811 => ?_)
      refine r_goto hX dL_law_814 (tgt := 18) (by decide) ?_
      exact ih x811 σ (by omega) (by omega) hR
    · refine r_tblIn hX 22 dL_law_33 c33 (by decide) rfl (tgt := 788) (by decide) ?_
      refine r_aload_n hX dL_law_788 rfl ?_
      refine r_aload_n hX dL_law_789 rfl ?_
      refine r_iload_n hX dL_law_790 rfl ?_
      refine r_iconst hX dL_law_791 ?_
      refine r_iadd hX dL_law_792 ?_
      refine hF.1 _ _ _ _ _ dL_law_793 (by omega) (by omega) ?_
      refine r_callV hX dL_law_794 (k_B_told l w σ _ (hs _)) mf_X5_told mv_X5_told lk_RL_108 rfl rfl rfl rfl rfl ⟨Nat.le_of_ble_eq_true rfl, Nat.le_of_ble_eq_true rfl⟩ (Nat.le_of_ble_eq_true rfl) (kI fun z794 σx794 hh => ?_)
      obtain ⟨rfl, hx⟩ := hh
      refine r_aload_n hX dL_law_797 rfl ?_
      refine r_aload_n hX dL_law_798 rfl ?_
      refine r_iload_n hX dL_law_799 rfl ?_
      refine r_iconst hX dL_law_800 ?_
      refine r_iadd hX dL_law_801 ?_
      refine hF.1 _ _ _ _ _ dL_law_802 (by omega) (by omega) ?_
      refine r_callV hX dL_law_803 (k_M_told l w σ _ (hs _)) mf_X6_told mv_X6_told lk_RL_111 rfl rfl rfl rfl rfl ⟨Nat.le_of_ble_eq_true rfl, Nat.le_of_ble_eq_true rfl⟩ (Nat.le_of_ble_eq_true rfl) (kI fun z803 σm803 hh => ?_)
      obtain ⟨rfl, hm⟩ := hh
      obtain ⟨hR2, he⟩ := pr_told hR hB hx hm
      refine r_icmpR_eq hX (tgt := 811) dL_law_806 (by decide) (fun _ => ?_) (fun q => absurd (congrArg iI he) q)
      refine r_iinc hX (fun x => [some (.ref b), some (.ref (w.2.2 0)), some (.ref (w.2.2 27)), some (.int (iI x))]) dL_law_811 rfl rfl rfl (fun _ => rfl) (fun x811 e811 => ?_)
      refine r_goto hX dL_law_814 (tgt := 18) (by decide) ?_
      exact ih x811 σ (by omega) (by omega) hR2
def adX (a0 a1 a2 a3 a4 a5 a6 a7 a8 a9 a10 a11 a12 a13 a14 a15 a16 a17 a18 a19 a20 a21 a22 a23 a24 a25 a26 a27 a28 a29 a30 a31 a32 a33 a34 a35 a36 a37 a38 a39 a40 a41 a42 a43 a44 : Nat) : Nat → Nat := fun i => match i with
  | 0 => a0
  | 1 => a1
  | 2 => a2
  | 3 => a3
  | 4 => a4
  | 5 => a5
  | 6 => a6
  | 7 => a7
  | 8 => a8
  | 9 => a9
  | 10 => a10
  | 11 => a11
  | 12 => a12
  | 13 => a13
  | 14 => a14
  | 15 => a15
  | 16 => a16
  | 17 => a17
  | 18 => a18
  | 19 => a19
  | 20 => a20
  | 21 => a21
  | 22 => a22
  | 23 => a23
  | 24 => a24
  | 25 => a25
  | 26 => a26
  | 27 => a27
  | 28 => a28
  | 29 => a29
  | 30 => a30
  | 31 => a31
  | 32 => a32
  | 33 => a33
  | 34 => a34
  | 35 => a35
  | 36 => a36
  | 37 => a37
  | 38 => a38
  | 39 => a39
  | 40 => a40
  | 41 => a41
  | 42 => a42
  | 43 => a43
  | _ => a44
def σS (σg σm : MM) : MM := fun r => if r = 11 ∨ r = 12 ∨ r = 13 then σg r else if r = 56 ∨ r = 57 then (fun _ => σg r 0) else if (28 ≤ r ∧ r ≤ 44) ∨ (61 ≤ r ∧ r ≤ 67) then σm r else fun _ => 0
def StF (σg σm : MM) : Prop := (FG σg ∧ Bd bdG σg) ∧ (FM σm ∧ Mod [35, 36] σM0 σm) ∧ Bd bdL σm
set_option maxRecDepth 20000 in
set_option maxHeartbeats 8000000 in
theorem law_pre {l : Launch} {w : WT} {b : Nat} {GI : GIT} (hX : CxI l w cL_law 4 RL room_1 false (fun _ => False) GI) (kk : ∀ (ad : Nat → Nat) (σg σm : MM), StF σg σm → GI 18 [some (.ref b), some (.ref (ad 0)), some (.ref (ad 27)), some (.int (iI 0))] [] (wd (w.1, w.2.1, ad) SX.2.1 (σS σg σm)) 45 2050) : GI 0 [some (.ref b), none, none, none] [] [] 0 0 := by
  refine i_new hX dL_law_0 (ci := 5) (fs := [.null, .null, .null, .null, .null, .null, .int (iI 0), .int (iI 0), .int (iI 0)]) rfl in_X5 tyX5 tyX5_ok cl_RL_7 nw_X5 ni_X5 (by decide +kernel) (Nat.le_of_ble_eq_true rfl) (Nat.le_of_ble_eq_true rfl) (fun qx => ?_)
  refine i_dup hX dL_law_3 ?_
  refine i_call hX dL_law_4 (c_X5_init l w qx) mf_X5_init mi_X5_init rfl lk_RL_9 rfl rfl [0] [] (wr := []) rfl rfl rfl (by decide) (by decide) (by decide) ⟨Nat.le_of_ble_eq_true rfl, Nat.le_of_ble_eq_true rfl⟩ (Nat.le_of_ble_eq_true rfl) ⟨Nat.le_of_ble_eq_true rfl, Nat.le_of_ble_eq_true rfl⟩ (fun w1 hw1 => ?_)
  obtain ⟨qx5, qx9_7, qx9_15, qx9_23, qx9_31, qx9_39, qx9_47, qx9_55, qx9_63, qx16, qx20_7, qx20_15, qx20_23, qx27, qx39_7, qx39_15, qx46, qx58_7, qx58_15, qx58_23, qx58_31, qx58_39, qx65, qx73_8, qx80, qx88_8, σg, rfl, fg⟩ := hw1
  refine i_astore_n hX dL_law_7 (Nat.le_of_ble_eq_true rfl) rfl rfl rfl ?_
  refine i_new hX dL_law_8 (ci := 6) (fs := [.null, .null, .null, .null, .null, .int (iI 0), .int (iI 0), .int (iI 0), .int (iI 0), .null, .null, .int (iI 0), .int (iI 0), .null, .null, .null, .null, .null, .null, .int (iI 0), .null, .null, .null, .null]) rfl in_X6 tyX6 tyX6_ok cl_RL_10 nw_X6 ni_X6 (by decide +kernel) (Nat.le_of_ble_eq_true rfl) (Nat.le_of_ble_eq_true rfl) (fun qm => ?_)
  refine i_dup hX dL_law_11 ?_
  refine i_call hX dL_law_12 (c_X6_init l w qm) mf_X6_init mi_X6_init rfl lk_RL_12 rfl rfl [27] [0, 1, 2, 3, 4, 5, 6, 7, 8, 9, 10, 11, 12, 13, 14, 15, 16, 17, 18, 19, 20, 21, 22, 23, 24, 25, 26] (wr := [(qx, .inr (5, [.ref qx5, .ref qx16, .ref qx27, .ref qx46, .ref qx65, .ref qx80, .int (iI 0), .int (iI 0), .int (iI 0)])), (qx5, .inr (2, [.ref qx9_7, .ref qx9_15, .ref qx9_23, .ref qx9_31, .ref qx9_39, .ref qx9_47, .ref qx9_55, .ref qx9_63, .int (iI 0), .int (iI 0), .int (iI 0)])), (qx9_7, zA w false 8), (qx9_15, zA w false 8), (qx9_23, zA w false 8), (qx9_31, zA w false 16), (qx9_39, zA w false 16), (qx9_47, zA w false 8), (qx9_55, zA w true 8), (qx9_63, zA w false 8), (qx16, .inr (0, [.ref qx20_7, .ref qx20_15, .ref qx20_23, .int (iI (σg 56 0)), .int (iI (σg 57 0))])), (qx20_7, .inl (w.2.1 true, 9, .inl (fun k => iI (σg 11 (k : Int))))), (qx20_15, .inl (w.2.1 true, 9, .inl (fun k => iI (σg 12 (k : Int))))), (qx20_23, .inl (w.2.1 false, 81, .inl (fun k => iI (σg 13 (k : Int))))), (qx27, .inr (1, [.ref qx5, .ref qx16, .ref qx39_7, .ref qx39_15, .int (iI 0)])), (qx39_7, zA w false 8), (qx39_15, zA w false 8), (qx46, .inr (3, [.ref qx5, .ref qx16, .ref qx58_7, .ref qx58_15, .ref qx58_23, .ref qx58_31, .ref qx58_39, .int (iI 0), .int (iI 0)])), (qx58_7, zA w false 8), (qx58_15, zA w false 8), (qx58_23, zA w false 8), (qx58_31, zA w false 16), (qx58_39, zA w false 64), (qx65, .inr (4, [.ref qx5, .ref qx73_8])), (qx73_8, zA w false 488), (qx80, .inr (4, [.ref qx5, .ref qx88_8])), (qx88_8, zA w false 488)]) rfl rfl rfl (by decide) (by decide) (by decide) ⟨Nat.le_of_ble_eq_true rfl, Nat.le_of_ble_eq_true rfl⟩ (Nat.le_of_ble_eq_true rfl) ⟨Nat.le_of_ble_eq_true rfl, Nat.le_of_ble_eq_true rfl⟩ (fun w1 hw1 => ?_)
  obtain ⟨qm7, qm15, qm23, qm31, qm39, qm47, qm56, qm74, qm82, qm90, qm98, qm106, qm114, qm122, qm130, qm138, qm146, σm, rfl, fm⟩ := hw1
  refine i_astore_n hX dL_law_15 (Nat.le_of_ble_eq_true rfl) rfl rfl rfl ?_
  refine i_iconst hX dL_law_16 ?_
  refine i_istore_n hX dL_law_17 (Nat.le_of_ble_eq_true rfl) rfl rfl rfl ?_
  have e : ([(qx, .inr (5, [.ref qx5, .ref qx16, .ref qx27, .ref qx46, .ref qx65, .ref qx80, .int (iI 0), .int (iI 0), .int (iI 0)])), (qx5, .inr (2, [.ref qx9_7, .ref qx9_15, .ref qx9_23, .ref qx9_31, .ref qx9_39, .ref qx9_47, .ref qx9_55, .ref qx9_63, .int (iI 0), .int (iI 0), .int (iI 0)])), (qx9_7, zA w false 8), (qx9_15, zA w false 8), (qx9_23, zA w false 8), (qx9_31, zA w false 16), (qx9_39, zA w false 16), (qx9_47, zA w false 8), (qx9_55, zA w true 8), (qx9_63, zA w false 8), (qx16, .inr (0, [.ref qx20_7, .ref qx20_15, .ref qx20_23, .int (iI (σg 56 0)), .int (iI (σg 57 0))])), (qx20_7, .inl (w.2.1 true, 9, .inl (fun k => iI (σg 11 (k : Int))))), (qx20_15, .inl (w.2.1 true, 9, .inl (fun k => iI (σg 12 (k : Int))))), (qx20_23, .inl (w.2.1 false, 81, .inl (fun k => iI (σg 13 (k : Int))))), (qx27, .inr (1, [.ref qx5, .ref qx16, .ref qx39_7, .ref qx39_15, .int (iI 0)])), (qx39_7, zA w false 8), (qx39_15, zA w false 8), (qx46, .inr (3, [.ref qx5, .ref qx16, .ref qx58_7, .ref qx58_15, .ref qx58_23, .ref qx58_31, .ref qx58_39, .int (iI 0), .int (iI 0)])), (qx58_7, zA w false 8), (qx58_15, zA w false 8), (qx58_23, zA w false 8), (qx58_31, zA w false 16), (qx58_39, zA w false 64), (qx65, .inr (4, [.ref qx5, .ref qx73_8])), (qx73_8, zA w false 488), (qx80, .inr (4, [.ref qx5, .ref qx88_8])), (qx88_8, zA w false 488), (qm, .inr (6, [.ref qm7, .ref qm15, .ref qm23, .ref qm31, .ref qm39, .int (iI (σm 61 0)), .int (iI (σm 62 0)), .int (iI (σm 63 0)), .int (iI (σm 64 0)), .ref qm47, .ref qm56, .int (iI (σm 65 0)), .int (iI (σm 66 0)), .ref qm74, .ref qm82, .ref qm90, .ref qm98, .ref qm106, .ref qm114, .int (iI (σm 67 0)), .ref qm122, .ref qm130, .ref qm138, .ref qm146])), (qm7, .inl (w.2.1 false, 8, .inl (fun k => iI (σm 28 (k : Int))))), (qm15, .inl (w.2.1 false, 16, .inl (fun k => iI (σm 29 (k : Int))))), (qm23, .inl (w.2.1 false, 16, .inl (fun k => iI (σm 30 (k : Int))))), (qm31, .inl (w.2.1 false, 8, .inl (fun k => iI (σm 31 (k : Int))))), (qm39, .inl (w.2.1 false, 8, .inl (fun k => iI (σm 32 (k : Int))))), (qm47, .inl (w.2.1 true, 8, .inl (fun k => iI (σm 33 (k : Int))))), (qm56, .inl (w.2.1 false, 488, .inl (fun k => iI (σm 34 (k : Int))))), (qm74, .inl (w.2.1 true, 9, .inl (fun k => iI (σm 35 (k : Int))))), (qm82, .inl (w.2.1 true, 9, .inl (fun k => iI (σm 36 (k : Int))))), (qm90, .inl (w.2.1 false, 9, .inl (fun k => iI (σm 37 (k : Int))))), (qm98, .inl (w.2.1 false, 8, .inl (fun k => iI (σm 38 (k : Int))))), (qm106, .inl (w.2.1 false, 8, .inl (fun k => iI (σm 39 (k : Int))))), (qm114, .inl (w.2.1 false, 8, .inl (fun k => iI (σm 40 (k : Int))))), (qm122, .inl (w.2.1 false, 8, .inl (fun k => iI (σm 41 (k : Int))))), (qm130, .inl (w.2.1 false, 8, .inl (fun k => iI (σm 42 (k : Int))))), (qm138, .inl (w.2.1 false, 8, .inl (fun k => iI (σm 43 (k : Int))))), (qm146, .inl (w.2.1 false, 81, .inl (fun k => iI (σm 44 (k : Int)))))] : va_W) = wd (w.1, w.2.1, adX qx qx5 qx9_7 qx9_15 qx9_23 qx9_31 qx9_39 qx9_47 qx9_55 qx9_63 qx16 qx20_7 qx20_15 qx20_23 qx27 qx39_7 qx39_15 qx46 qx58_7 qx58_15 qx58_23 qx58_31 qx58_39 qx65 qx73_8 qx80 qx88_8 qm qm7 qm15 qm23 qm31 qm39 qm47 qm56 qm74 qm82 qm90 qm98 qm106 qm114 qm122 qm130 qm138 qm146) SX.2.1 (σS σg σm) := rfl
  have k := kk (adX qx qx5 qx9_7 qx9_15 qx9_23 qx9_31 qx9_39 qx9_47 qx9_55 qx9_63 qx16 qx20_7 qx20_15 qx20_23 qx27 qx39_7 qx39_15 qx46 qx58_7 qx58_15 qx58_23 qx58_31 qx58_39 qx65 qx73_8 qx80 qx88_8 qm qm7 qm15 qm23 qm31 qm39 qm47 qm56 qm74 qm82 qm90 qm98 qm106 qm114 qm122 qm130 qm138 qm146) σg σm ⟨fg, fm⟩
  rw [← e] at k
  exact k
