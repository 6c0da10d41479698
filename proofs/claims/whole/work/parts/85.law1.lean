/-! The law's instructions. -/
theorem d_La_law_230 : decode b_La_law 230 = .ok (.iadd, 1) := by decide +kernel
theorem d_La_law_231 : decode b_La_law 231 = .ok (.iaload, 1) := by decide +kernel
theorem d_La_law_232 : decode b_La_law 232 = .ok (.aload_n 0, 1) := by decide +kernel
theorem d_La_law_233 : decode b_La_law 233 = .ok (.iload_n 3, 1) := by decide +kernel
theorem d_La_law_234 : decode b_La_law 234 = .ok (.iconst 4, 1) := by decide +kernel
theorem d_La_law_235 : decode b_La_law 235 = .ok (.iadd, 1) := by decide +kernel
theorem d_La_law_236 : decode b_La_law 236 = .ok (.iaload, 1) := by decide +kernel
theorem d_La_law_237 : decode b_La_law 237 = .ok (.invokevirtual 23, 3) := by decide +kernel
theorem d_La_law_240 : decode b_La_law 240 = .ok (.aload_n 2, 1) := by decide +kernel
theorem d_La_law_241 : decode b_La_law 241 = .ok (.aload_n 0, 1) := by decide +kernel
theorem d_La_law_242 : decode b_La_law 242 = .ok (.iload_n 3, 1) := by decide +kernel
theorem d_La_law_243 : decode b_La_law 243 = .ok (.iconst 1, 1) := by decide +kernel
theorem d_La_law_244 : decode b_La_law 244 = .ok (.iadd, 1) := by decide +kernel
theorem d_La_law_245 : decode b_La_law 245 = .ok (.iaload, 1) := by decide +kernel
theorem d_La_law_246 : decode b_La_law 246 = .ok (.aload_n 0, 1) := by decide +kernel
theorem d_La_law_247 : decode b_La_law 247 = .ok (.iload_n 3, 1) := by decide +kernel
theorem d_La_law_248 : decode b_La_law 248 = .ok (.iconst 2, 1) := by decide +kernel
theorem d_La_law_249 : decode b_La_law 249 = .ok (.iadd, 1) := by decide +kernel
theorem d_La_law_250 : decode b_La_law 250 = .ok (.iaload, 1) := by decide +kernel
theorem d_La_law_251 : decode b_La_law 251 = .ok (.aload_n 0, 1) := by decide +kernel
theorem d_La_law_252 : decode b_La_law 252 = .ok (.iload_n 3, 1) := by decide +kernel
theorem d_La_law_253 : decode b_La_law 253 = .ok (.iconst 3, 1) := by decide +kernel
theorem d_La_law_254 : decode b_La_law 254 = .ok (.iadd, 1) := by decide +kernel
theorem d_La_law_255 : decode b_La_law 255 = .ok (.iaload, 1) := by decide +kernel
theorem d_La_law_256 : decode b_La_law 256 = .ok (.aload_n 0, 1) := by decide +kernel
theorem d_La_law_257 : decode b_La_law 257 = .ok (.iload_n 3, 1) := by decide +kernel
theorem d_La_law_258 : decode b_La_law 258 = .ok (.iconst 4, 1) := by decide +kernel
theorem d_La_law_259 : decode b_La_law 259 = .ok (.iadd, 1) := by decide +kernel
theorem d_La_law_260 : decode b_La_law 260 = .ok (.iaload, 1) := by decide +kernel
theorem d_La_law_261 : decode b_La_law 261 = .ok (.invokevirtual 27, 3) := by decide +kernel
theorem d_La_law_264 : decode b_La_law 264 = .ok (.if_icmp .eq 400, 3) := by decide +kernel
theorem d_La_law_267 : decode b_La_law 267 = .ok (.iconst 0, 1) := by decide +kernel
theorem d_La_law_268 : decode b_La_law 268 = .ok (.ireturn, 1) := by decide +kernel
theorem d_La_law_269 : decode b_La_law 269 = .ok (.aload_n 1, 1) := by decide +kernel
theorem d_La_law_270 : decode b_La_law 270 = .ok (.aload_n 0, 1) := by decide +kernel
theorem d_La_law_271 : decode b_La_law 271 = .ok (.iload_n 3, 1) := by decide +kernel
theorem d_La_law_272 : decode b_La_law 272 = .ok (.iconst 1, 1) := by decide +kernel
theorem d_La_law_273 : decode b_La_law 273 = .ok (.iadd, 1) := by decide +kernel
theorem d_La_law_274 : decode b_La_law 274 = .ok (.iaload, 1) := by decide +kernel
theorem d_La_law_275 : decode b_La_law 275 = .ok (.aload_n 0, 1) := by decide +kernel
theorem d_La_law_276 : decode b_La_law 276 = .ok (.iload_n 3, 1) := by decide +kernel
theorem d_La_law_277 : decode b_La_law 277 = .ok (.iconst 2, 1) := by decide +kernel
theorem d_La_law_278 : decode b_La_law 278 = .ok (.iadd, 1) := by decide +kernel
theorem d_La_law_279 : decode b_La_law 279 = .ok (.iaload, 1) := by decide +kernel
theorem d_La_law_280 : decode b_La_law 280 = .ok (.aload_n 0, 1) := by decide +kernel
theorem d_La_law_281 : decode b_La_law 281 = .ok (.iload_n 3, 1) := by decide +kernel
theorem d_La_law_282 : decode b_La_law 282 = .ok (.iconst 3, 1) := by decide +kernel
theorem d_La_law_283 : decode b_La_law 283 = .ok (.iadd, 1) := by decide +kernel
theorem d_La_law_284 : decode b_La_law 284 = .ok (.iaload, 1) := by decide +kernel
theorem d_La_law_285 : decode b_La_law 285 = .ok (.aload_n 0, 1) := by decide +kernel
theorem d_La_law_286 : decode b_La_law 286 = .ok (.iload_n 3, 1) := by decide +kernel
theorem d_La_law_287 : decode b_La_law 287 = .ok (.iconst 4, 1) := by decide +kernel
theorem d_La_law_288 : decode b_La_law 288 = .ok (.iadd, 1) := by decide +kernel
theorem d_La_law_289 : decode b_La_law 289 = .ok (.iaload, 1) := by decide +kernel
theorem d_La_law_290 : decode b_La_law 290 = .ok (.invokevirtual 28, 3) := by decide +kernel
theorem d_La_law_293 : decode b_La_law 293 = .ok (.aload_n 2, 1) := by decide +kernel
theorem d_La_law_294 : decode b_La_law 294 = .ok (.aload_n 0, 1) := by decide +kernel
theorem d_La_law_295 : decode b_La_law 295 = .ok (.iload_n 3, 1) := by decide +kernel
theorem d_La_law_296 : decode b_La_law 296 = .ok (.iconst 1, 1) := by decide +kernel
theorem d_La_law_297 : decode b_La_law 297 = .ok (.iadd, 1) := by decide +kernel
theorem d_La_law_298 : decode b_La_law 298 = .ok (.iaload, 1) := by decide +kernel
theorem d_La_law_299 : decode b_La_law 299 = .ok (.aload_n 0, 1) := by decide +kernel
theorem d_La_law_300 : decode b_La_law 300 = .ok (.iload_n 3, 1) := by decide +kernel
theorem d_La_law_301 : decode b_La_law 301 = .ok (.iconst 2, 1) := by decide +kernel
theorem d_La_law_302 : decode b_La_law 302 = .ok (.iadd, 1) := by decide +kernel
theorem d_La_law_303 : decode b_La_law 303 = .ok (.iaload, 1) := by decide +kernel
theorem d_La_law_304 : decode b_La_law 304 = .ok (.aload_n 0, 1) := by decide +kernel
theorem d_La_law_305 : decode b_La_law 305 = .ok (.iload_n 3, 1) := by decide +kernel
theorem d_La_law_306 : decode b_La_law 306 = .ok (.iconst 3, 1) := by decide +kernel
theorem d_La_law_307 : decode b_La_law 307 = .ok (.iadd, 1) := by decide +kernel
theorem d_La_law_308 : decode b_La_law 308 = .ok (.iaload, 1) := by decide +kernel
theorem d_La_law_309 : decode b_La_law 309 = .ok (.aload_n 0, 1) := by decide +kernel
theorem d_La_law_310 : decode b_La_law 310 = .ok (.iload_n 3, 1) := by decide +kernel
theorem d_La_law_311 : decode b_La_law 311 = .ok (.iconst 4, 1) := by decide +kernel
theorem d_La_law_312 : decode b_La_law 312 = .ok (.iadd, 1) := by decide +kernel
theorem d_La_law_313 : decode b_La_law 313 = .ok (.iaload, 1) := by decide +kernel
theorem d_La_law_314 : decode b_La_law 314 = .ok (.invokevirtual 31, 3) := by decide +kernel
theorem d_La_law_317 : decode b_La_law 317 = .ok (.if_icmp .eq 347, 3) := by decide +kernel
theorem d_La_law_320 : decode b_La_law 320 = .ok (.iconst 0, 1) := by decide +kernel
theorem d_La_law_321 : decode b_La_law 321 = .ok (.ireturn, 1) := by decide +kernel
theorem d_La_law_322 : decode b_La_law 322 = .ok (.aload_n 1, 1) := by decide +kernel
theorem d_La_law_323 : decode b_La_law 323 = .ok (.aload_n 0, 1) := by decide +kernel
theorem d_La_law_324 : decode b_La_law 324 = .ok (.iload_n 3, 1) := by decide +kernel
theorem d_La_law_325 : decode b_La_law 325 = .ok (.iconst 1, 1) := by decide +kernel
theorem d_La_law_326 : decode b_La_law 326 = .ok (.iadd, 1) := by decide +kernel
theorem d_La_law_327 : decode b_La_law 327 = .ok (.iaload, 1) := by decide +kernel
theorem d_La_law_328 : decode b_La_law 328 = .ok (.aload_n 0, 1) := by decide +kernel
theorem d_La_law_329 : decode b_La_law 329 = .ok (.iload_n 3, 1) := by decide +kernel
theorem d_La_law_330 : decode b_La_law 330 = .ok (.iconst 2, 1) := by decide +kernel
theorem d_La_law_331 : decode b_La_law 331 = .ok (.iadd, 1) := by decide +kernel
theorem d_La_law_332 : decode b_La_law 332 = .ok (.iaload, 1) := by decide +kernel
theorem d_La_law_333 : decode b_La_law 333 = .ok (.invokevirtual 32, 3) := by decide +kernel
theorem d_La_law_336 : decode b_La_law 336 = .ok (.aload_n 2, 1) := by decide +kernel
theorem d_La_law_337 : decode b_La_law 337 = .ok (.aload_n 0, 1) := by decide +kernel
theorem d_La_law_338 : decode b_La_law 338 = .ok (.iload_n 3, 1) := by decide +kernel
theorem d_La_law_339 : decode b_La_law 339 = .ok (.iconst 1, 1) := by decide +kernel
theorem d_La_law_340 : decode b_La_law 340 = .ok (.iadd, 1) := by decide +kernel
theorem d_La_law_341 : decode b_La_law 341 = .ok (.iaload, 1) := by decide +kernel
theorem d_La_law_342 : decode b_La_law 342 = .ok (.aload_n 0, 1) := by decide +kernel
theorem d_La_law_343 : decode b_La_law 343 = .ok (.iload_n 3, 1) := by decide +kernel
theorem d_La_law_344 : decode b_La_law 344 = .ok (.iconst 2, 1) := by decide +kernel
theorem d_La_law_345 : decode b_La_law 345 = .ok (.iadd, 1) := by decide +kernel
theorem d_La_law_346 : decode b_La_law 346 = .ok (.iaload, 1) := by decide +kernel
theorem d_La_law_347 : decode b_La_law 347 = .ok (.invokevirtual 36, 3) := by decide +kernel
theorem d_La_law_350 : decode b_La_law 350 = .ok (.if_icmp .eq 314, 3) := by decide +kernel
theorem d_La_law_353 : decode b_La_law 353 = .ok (.iconst 0, 1) := by decide +kernel
theorem d_La_law_354 : decode b_La_law 354 = .ok (.ireturn, 1) := by decide +kernel
theorem d_La_law_355 : decode b_La_law 355 = .ok (.aload_n 1, 1) := by decide +kernel
theorem d_La_law_356 : decode b_La_law 356 = .ok (.aload_n 0, 1) := by decide +kernel
theorem d_La_law_357 : decode b_La_law 357 = .ok (.iload_n 3, 1) := by decide +kernel
theorem d_La_law_358 : decode b_La_law 358 = .ok (.iconst 1, 1) := by decide +kernel
theorem d_La_law_359 : decode b_La_law 359 = .ok (.iadd, 1) := by decide +kernel
theorem d_La_law_360 : decode b_La_law 360 = .ok (.iaload, 1) := by decide +kernel
theorem d_La_law_361 : decode b_La_law 361 = .ok (.invokevirtual 37, 3) := by decide +kernel
theorem d_La_law_364 : decode b_La_law 364 = .ok (.aload_n 2, 1) := by decide +kernel
theorem d_La_law_365 : decode b_La_law 365 = .ok (.aload_n 0, 1) := by decide +kernel
theorem d_La_law_366 : decode b_La_law 366 = .ok (.iload_n 3, 1) := by decide +kernel
theorem d_La_law_367 : decode b_La_law 367 = .ok (.iconst 1, 1) := by decide +kernel
theorem d_La_law_368 : decode b_La_law 368 = .ok (.iadd, 1) := by decide +kernel
theorem d_La_law_369 : decode b_La_law 369 = .ok (.iaload, 1) := by decide +kernel
