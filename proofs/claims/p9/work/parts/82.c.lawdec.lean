theorem dLb_0 : (decode cL_law 0 = .ok (.new 8, 3)) ∧ (decode cL_law 3 = .ok (.dup, 1)) ∧ (decode cL_law 4 = .ok (.invokespecial 159, 3)) ∧ (decode cL_law 7 = .ok (.astore_n 1, 1)) ∧ (decode cL_law 8 = .ok (.new 160, 3)) ∧ (decode cL_law 11 = .ok (.dup, 1)) ∧ (decode cL_law 12 = .ok (.invokespecial 162, 3)) ∧ (decode cL_law 15 = .ok (.astore_n 2, 1)) ∧ (decode cL_law 16 = .ok (.new 14, 3)) ∧ (decode cL_law 19 = .ok (.dup, 1)) ∧ (decode cL_law 20 = .ok (.invokespecial 163, 3)) ∧ (decode cL_law 23 = .ok (.astore_n 3, 1)) ∧ (decode cL_law 24 = .ok (.iconst 0, 1)) ∧ (decode cL_law 25 = .ok (.istore 4, 2)) ∧ (decode cL_law 27 = .ok (.iload 4, 2)) ∧ (decode cL_law 29 = .ok (.aload_n 0, 1)) := by decide +kernel
theorem dL_law_0 : decode cL_law 0 = .ok (.new 8, 3) := dLb_0.1
theorem dL_law_3 : decode cL_law 3 = .ok (.dup, 1) := dLb_0.2.1
theorem dL_law_4 : decode cL_law 4 = .ok (.invokespecial 159, 3) := dLb_0.2.2.1
theorem dL_law_7 : decode cL_law 7 = .ok (.astore_n 1, 1) := dLb_0.2.2.2.1
theorem dL_law_8 : decode cL_law 8 = .ok (.new 160, 3) := dLb_0.2.2.2.2.1
theorem dL_law_11 : decode cL_law 11 = .ok (.dup, 1) := dLb_0.2.2.2.2.2.1
theorem dL_law_12 : decode cL_law 12 = .ok (.invokespecial 162, 3) := dLb_0.2.2.2.2.2.2.1
theorem dL_law_15 : decode cL_law 15 = .ok (.astore_n 2, 1) := dLb_0.2.2.2.2.2.2.2.1
theorem dL_law_16 : decode cL_law 16 = .ok (.new 14, 3) := dLb_0.2.2.2.2.2.2.2.2.1
theorem dL_law_19 : decode cL_law 19 = .ok (.dup, 1) := dLb_0.2.2.2.2.2.2.2.2.2.1
theorem dL_law_20 : decode cL_law 20 = .ok (.invokespecial 163, 3) := dLb_0.2.2.2.2.2.2.2.2.2.2.1
theorem dL_law_23 : decode cL_law 23 = .ok (.astore_n 3, 1) := dLb_0.2.2.2.2.2.2.2.2.2.2.2.1
theorem dL_law_24 : decode cL_law 24 = .ok (.iconst 0, 1) := dLb_0.2.2.2.2.2.2.2.2.2.2.2.2.1
theorem dL_law_25 : decode cL_law 25 = .ok (.istore 4, 2) := dLb_0.2.2.2.2.2.2.2.2.2.2.2.2.2.1
theorem dL_law_27 : decode cL_law 27 = .ok (.iload 4, 2) := dLb_0.2.2.2.2.2.2.2.2.2.2.2.2.2.2.1
theorem dL_law_29 : decode cL_law 29 = .ok (.aload_n 0, 1) := dLb_0.2.2.2.2.2.2.2.2.2.2.2.2.2.2.2
theorem dLb_1 : (decode cL_law 30 = .ok (.arraylength, 1)) ∧ (decode cL_law 31 = .ok (.bipush 6, 2)) ∧ (decode cL_law 33 = .ok (.isub, 1)) ∧ (decode cL_law 34 = .ok (.if_icmp .gt 2063, 3)) ∧ (decode cL_law 37 = .ok (.aload_n 0, 1)) ∧ (decode cL_law 38 = .ok (.iload 4, 2)) ∧ (decode cL_law 40 = .ok (.iaload, 1)) ∧ (decode cL_law 41 = .ok (.bipush 63, 2)) ∧ (decode cL_law 43 = .ok (.iand, 1)) ∧ (decode cL_law 44 = .ok (.tableswitch 2047 0 44 #[196, 236, 288, 328, 392, 444, 484, 512, 576, 604, 632, 672, 712, 752, 792, 832, 872, 912, 952, 980, 1060, 1088, 1180, 1232, 1284, 1324, 1380, 1408, 1448, 1500, 1540, 1592, 1632, 1672, 1712, 1752, 1792, 1844, 1872, 1924, 1937, 1965, 1993, 2021, 2034], 196)) ∧ (decode cL_law 240 = .ok (.aload_n 1, 1)) ∧ (decode cL_law 241 = .ok (.aload_n 0, 1)) ∧ (decode cL_law 242 = .ok (.iload 4, 2)) ∧ (decode cL_law 244 = .ok (.iconst 1, 1)) ∧ (decode cL_law 245 = .ok (.iadd, 1)) ∧ (decode cL_law 246 = .ok (.iaload, 1)) := by decide +kernel
theorem dL_law_30 : decode cL_law 30 = .ok (.arraylength, 1) := dLb_1.1
theorem dL_law_31 : decode cL_law 31 = .ok (.bipush 6, 2) := dLb_1.2.1
theorem dL_law_33 : decode cL_law 33 = .ok (.isub, 1) := dLb_1.2.2.1
theorem dL_law_34 : decode cL_law 34 = .ok (.if_icmp .gt 2063, 3) := dLb_1.2.2.2.1
theorem dL_law_37 : decode cL_law 37 = .ok (.aload_n 0, 1) := dLb_1.2.2.2.2.1
theorem dL_law_38 : decode cL_law 38 = .ok (.iload 4, 2) := dLb_1.2.2.2.2.2.1
theorem dL_law_40 : decode cL_law 40 = .ok (.iaload, 1) := dLb_1.2.2.2.2.2.2.1
theorem dL_law_41 : decode cL_law 41 = .ok (.bipush 63, 2) := dLb_1.2.2.2.2.2.2.2.1
theorem dL_law_43 : decode cL_law 43 = .ok (.iand, 1) := dLb_1.2.2.2.2.2.2.2.2.1
theorem dL_law_44 : decode cL_law 44 = .ok (.tableswitch 2047 0 44 #[196, 236, 288, 328, 392, 444, 484, 512, 576, 604, 632, 672, 712, 752, 792, 832, 872, 912, 952, 980, 1060, 1088, 1180, 1232, 1284, 1324, 1380, 1408, 1448, 1500, 1540, 1592, 1632, 1672, 1712, 1752, 1792, 1844, 1872, 1924, 1937, 1965, 1993, 2021, 2034], 196) := dLb_1.2.2.2.2.2.2.2.2.2.1
theorem dL_law_240 : decode cL_law 240 = .ok (.aload_n 1, 1) := dLb_1.2.2.2.2.2.2.2.2.2.2.1
theorem dL_law_241 : decode cL_law 241 = .ok (.aload_n 0, 1) := dLb_1.2.2.2.2.2.2.2.2.2.2.2.1
theorem dL_law_242 : decode cL_law 242 = .ok (.iload 4, 2) := dLb_1.2.2.2.2.2.2.2.2.2.2.2.2.1
theorem dL_law_244 : decode cL_law 244 = .ok (.iconst 1, 1) := dLb_1.2.2.2.2.2.2.2.2.2.2.2.2.2.1
theorem dL_law_245 : decode cL_law 245 = .ok (.iadd, 1) := dLb_1.2.2.2.2.2.2.2.2.2.2.2.2.2.2.1
theorem dL_law_246 : decode cL_law 246 = .ok (.iaload, 1) := dLb_1.2.2.2.2.2.2.2.2.2.2.2.2.2.2.2
theorem dLb_2 : (decode cL_law 247 = .ok (.aload_n 0, 1)) ∧ (decode cL_law 248 = .ok (.iload 4, 2)) ∧ (decode cL_law 250 = .ok (.iconst 2, 1)) ∧ (decode cL_law 251 = .ok (.iadd, 1)) ∧ (decode cL_law 252 = .ok (.iaload, 1)) ∧ (decode cL_law 253 = .ok (.aload_n 3, 1)) ∧ (decode cL_law 254 = .ok (.invokestatic 164, 3)) ∧ (decode cL_law 257 = .ok (.istore 5, 2)) ∧ (decode cL_law 259 = .ok (.aload_n 2, 1)) ∧ (decode cL_law 260 = .ok (.aload_n 0, 1)) ∧ (decode cL_law 261 = .ok (.iload 4, 2)) ∧ (decode cL_law 263 = .ok (.iconst 1, 1)) ∧ (decode cL_law 264 = .ok (.iadd, 1)) ∧ (decode cL_law 265 = .ok (.iaload, 1)) ∧ (decode cL_law 266 = .ok (.aload_n 0, 1)) ∧ (decode cL_law 267 = .ok (.iload 4, 2)) := by decide +kernel
theorem dL_law_247 : decode cL_law 247 = .ok (.aload_n 0, 1) := dLb_2.1
theorem dL_law_248 : decode cL_law 248 = .ok (.iload 4, 2) := dLb_2.2.1
theorem dL_law_250 : decode cL_law 250 = .ok (.iconst 2, 1) := dLb_2.2.2.1
theorem dL_law_251 : decode cL_law 251 = .ok (.iadd, 1) := dLb_2.2.2.2.1
theorem dL_law_252 : decode cL_law 252 = .ok (.iaload, 1) := dLb_2.2.2.2.2.1
theorem dL_law_253 : decode cL_law 253 = .ok (.aload_n 3, 1) := dLb_2.2.2.2.2.2.1
theorem dL_law_254 : decode cL_law 254 = .ok (.invokestatic 164, 3) := dLb_2.2.2.2.2.2.2.1
theorem dL_law_257 : decode cL_law 257 = .ok (.istore 5, 2) := dLb_2.2.2.2.2.2.2.2.1
theorem dL_law_259 : decode cL_law 259 = .ok (.aload_n 2, 1) := dLb_2.2.2.2.2.2.2.2.2.1
theorem dL_law_260 : decode cL_law 260 = .ok (.aload_n 0, 1) := dLb_2.2.2.2.2.2.2.2.2.2.1
theorem dL_law_261 : decode cL_law 261 = .ok (.iload 4, 2) := dLb_2.2.2.2.2.2.2.2.2.2.2.1
theorem dL_law_263 : decode cL_law 263 = .ok (.iconst 1, 1) := dLb_2.2.2.2.2.2.2.2.2.2.2.2.1
theorem dL_law_264 : decode cL_law 264 = .ok (.iadd, 1) := dLb_2.2.2.2.2.2.2.2.2.2.2.2.2.1
theorem dL_law_265 : decode cL_law 265 = .ok (.iaload, 1) := dLb_2.2.2.2.2.2.2.2.2.2.2.2.2.2.1
theorem dL_law_266 : decode cL_law 266 = .ok (.aload_n 0, 1) := dLb_2.2.2.2.2.2.2.2.2.2.2.2.2.2.2.1
theorem dL_law_267 : decode cL_law 267 = .ok (.iload 4, 2) := dLb_2.2.2.2.2.2.2.2.2.2.2.2.2.2.2.2
theorem dLb_3 : (decode cL_law 269 = .ok (.iconst 2, 1)) ∧ (decode cL_law 270 = .ok (.iadd, 1)) ∧ (decode cL_law 271 = .ok (.iaload, 1)) ∧ (decode cL_law 272 = .ok (.invokevirtual 169, 3)) ∧ (decode cL_law 275 = .ok (.istore 6, 2)) ∧ (decode cL_law 277 = .ok (.goto 1814, 3)) ∧ (decode cL_law 280 = .ok (.aload_n 1, 1)) ∧ (decode cL_law 281 = .ok (.aload_n 0, 1)) ∧ (decode cL_law 282 = .ok (.iload 4, 2)) ∧ (decode cL_law 284 = .ok (.iconst 1, 1)) ∧ (decode cL_law 285 = .ok (.iadd, 1)) ∧ (decode cL_law 286 = .ok (.iaload, 1)) ∧ (decode cL_law 287 = .ok (.aload_n 0, 1)) ∧ (decode cL_law 288 = .ok (.iload 4, 2)) ∧ (decode cL_law 290 = .ok (.iconst 2, 1)) ∧ (decode cL_law 291 = .ok (.iadd, 1)) := by decide +kernel
theorem dL_law_269 : decode cL_law 269 = .ok (.iconst 2, 1) := dLb_3.1
theorem dL_law_270 : decode cL_law 270 = .ok (.iadd, 1) := dLb_3.2.1
theorem dL_law_271 : decode cL_law 271 = .ok (.iaload, 1) := dLb_3.2.2.1
theorem dL_law_272 : decode cL_law 272 = .ok (.invokevirtual 169, 3) := dLb_3.2.2.2.1
theorem dL_law_275 : decode cL_law 275 = .ok (.istore 6, 2) := dLb_3.2.2.2.2.1
theorem dL_law_277 : decode cL_law 277 = .ok (.goto 1814, 3) := dLb_3.2.2.2.2.2.1
theorem dL_law_280 : decode cL_law 280 = .ok (.aload_n 1, 1) := dLb_3.2.2.2.2.2.2.1
theorem dL_law_281 : decode cL_law 281 = .ok (.aload_n 0, 1) := dLb_3.2.2.2.2.2.2.2.1
theorem dL_law_282 : decode cL_law 282 = .ok (.iload 4, 2) := dLb_3.2.2.2.2.2.2.2.2.1
theorem dL_law_284 : decode cL_law 284 = .ok (.iconst 1, 1) := dLb_3.2.2.2.2.2.2.2.2.2.1
theorem dL_law_285 : decode cL_law 285 = .ok (.iadd, 1) := dLb_3.2.2.2.2.2.2.2.2.2.2.1
theorem dL_law_286 : decode cL_law 286 = .ok (.iaload, 1) := dLb_3.2.2.2.2.2.2.2.2.2.2.2.1
theorem dL_law_287 : decode cL_law 287 = .ok (.aload_n 0, 1) := dLb_3.2.2.2.2.2.2.2.2.2.2.2.2.1
theorem dL_law_288 : decode cL_law 288 = .ok (.iload 4, 2) := dLb_3.2.2.2.2.2.2.2.2.2.2.2.2.2.1
theorem dL_law_290 : decode cL_law 290 = .ok (.iconst 2, 1) := dLb_3.2.2.2.2.2.2.2.2.2.2.2.2.2.2.1
theorem dL_law_291 : decode cL_law 291 = .ok (.iadd, 1) := dLb_3.2.2.2.2.2.2.2.2.2.2.2.2.2.2.2
theorem dLb_4 : (decode cL_law 292 = .ok (.iaload, 1)) ∧ (decode cL_law 293 = .ok (.aload_n 0, 1)) ∧ (decode cL_law 294 = .ok (.iload 4, 2)) ∧ (decode cL_law 296 = .ok (.iconst 3, 1)) ∧ (decode cL_law 297 = .ok (.iadd, 1)) ∧ (decode cL_law 298 = .ok (.iaload, 1)) ∧ (decode cL_law 299 = .ok (.aload_n 3, 1)) ∧ (decode cL_law 300 = .ok (.invokestatic 170, 3)) ∧ (decode cL_law 303 = .ok (.istore 5, 2)) ∧ (decode cL_law 305 = .ok (.aload_n 2, 1)) ∧ (decode cL_law 306 = .ok (.aload_n 0, 1)) ∧ (decode cL_law 307 = .ok (.iload 4, 2)) ∧ (decode cL_law 309 = .ok (.iconst 1, 1)) ∧ (decode cL_law 310 = .ok (.iadd, 1)) ∧ (decode cL_law 311 = .ok (.iaload, 1)) ∧ (decode cL_law 312 = .ok (.aload_n 0, 1)) := by decide +kernel
theorem dL_law_292 : decode cL_law 292 = .ok (.iaload, 1) := dLb_4.1
theorem dL_law_293 : decode cL_law 293 = .ok (.aload_n 0, 1) := dLb_4.2.1
theorem dL_law_294 : decode cL_law 294 = .ok (.iload 4, 2) := dLb_4.2.2.1
theorem dL_law_296 : decode cL_law 296 = .ok (.iconst 3, 1) := dLb_4.2.2.2.1
theorem dL_law_297 : decode cL_law 297 = .ok (.iadd, 1) := dLb_4.2.2.2.2.1
theorem dL_law_298 : decode cL_law 298 = .ok (.iaload, 1) := dLb_4.2.2.2.2.2.1
theorem dL_law_299 : decode cL_law 299 = .ok (.aload_n 3, 1) := dLb_4.2.2.2.2.2.2.1
theorem dL_law_300 : decode cL_law 300 = .ok (.invokestatic 170, 3) := dLb_4.2.2.2.2.2.2.2.1
theorem dL_law_303 : decode cL_law 303 = .ok (.istore 5, 2) := dLb_4.2.2.2.2.2.2.2.2.1
theorem dL_law_305 : decode cL_law 305 = .ok (.aload_n 2, 1) := dLb_4.2.2.2.2.2.2.2.2.2.1
theorem dL_law_306 : decode cL_law 306 = .ok (.aload_n 0, 1) := dLb_4.2.2.2.2.2.2.2.2.2.2.1
theorem dL_law_307 : decode cL_law 307 = .ok (.iload 4, 2) := dLb_4.2.2.2.2.2.2.2.2.2.2.2.1
theorem dL_law_309 : decode cL_law 309 = .ok (.iconst 1, 1) := dLb_4.2.2.2.2.2.2.2.2.2.2.2.2.1
theorem dL_law_310 : decode cL_law 310 = .ok (.iadd, 1) := dLb_4.2.2.2.2.2.2.2.2.2.2.2.2.2.1
theorem dL_law_311 : decode cL_law 311 = .ok (.iaload, 1) := dLb_4.2.2.2.2.2.2.2.2.2.2.2.2.2.2.1
theorem dL_law_312 : decode cL_law 312 = .ok (.aload_n 0, 1) := dLb_4.2.2.2.2.2.2.2.2.2.2.2.2.2.2.2
theorem dLb_5 : (decode cL_law 313 = .ok (.iload 4, 2)) ∧ (decode cL_law 315 = .ok (.iconst 2, 1)) ∧ (decode cL_law 316 = .ok (.iadd, 1)) ∧ (decode cL_law 317 = .ok (.iaload, 1)) ∧ (decode cL_law 318 = .ok (.aload_n 0, 1)) ∧ (decode cL_law 319 = .ok (.iload 4, 2)) ∧ (decode cL_law 321 = .ok (.iconst 3, 1)) ∧ (decode cL_law 322 = .ok (.iadd, 1)) ∧ (decode cL_law 323 = .ok (.iaload, 1)) ∧ (decode cL_law 324 = .ok (.invokevirtual 173, 3)) ∧ (decode cL_law 327 = .ok (.istore 6, 2)) ∧ (decode cL_law 329 = .ok (.goto 1762, 3)) ∧ (decode cL_law 332 = .ok (.aload_n 1, 1)) ∧ (decode cL_law 333 = .ok (.aload_n 0, 1)) ∧ (decode cL_law 334 = .ok (.iload 4, 2)) ∧ (decode cL_law 336 = .ok (.iconst 1, 1)) := by decide +kernel
theorem dL_law_313 : decode cL_law 313 = .ok (.iload 4, 2) := dLb_5.1
theorem dL_law_315 : decode cL_law 315 = .ok (.iconst 2, 1) := dLb_5.2.1
theorem dL_law_316 : decode cL_law 316 = .ok (.iadd, 1) := dLb_5.2.2.1
theorem dL_law_317 : decode cL_law 317 = .ok (.iaload, 1) := dLb_5.2.2.2.1
theorem dL_law_318 : decode cL_law 318 = .ok (.aload_n 0, 1) := dLb_5.2.2.2.2.1
theorem dL_law_319 : decode cL_law 319 = .ok (.iload 4, 2) := dLb_5.2.2.2.2.2.1
theorem dL_law_321 : decode cL_law 321 = .ok (.iconst 3, 1) := dLb_5.2.2.2.2.2.2.1
theorem dL_law_322 : decode cL_law 322 = .ok (.iadd, 1) := dLb_5.2.2.2.2.2.2.2.1
theorem dL_law_323 : decode cL_law 323 = .ok (.iaload, 1) := dLb_5.2.2.2.2.2.2.2.2.1
theorem dL_law_324 : decode cL_law 324 = .ok (.invokevirtual 173, 3) := dLb_5.2.2.2.2.2.2.2.2.2.1
theorem dL_law_327 : decode cL_law 327 = .ok (.istore 6, 2) := dLb_5.2.2.2.2.2.2.2.2.2.2.1
theorem dL_law_329 : decode cL_law 329 = .ok (.goto 1762, 3) := dLb_5.2.2.2.2.2.2.2.2.2.2.2.1
theorem dL_law_332 : decode cL_law 332 = .ok (.aload_n 1, 1) := dLb_5.2.2.2.2.2.2.2.2.2.2.2.2.1
theorem dL_law_333 : decode cL_law 333 = .ok (.aload_n 0, 1) := dLb_5.2.2.2.2.2.2.2.2.2.2.2.2.2.1
theorem dL_law_334 : decode cL_law 334 = .ok (.iload 4, 2) := dLb_5.2.2.2.2.2.2.2.2.2.2.2.2.2.2.1
theorem dL_law_336 : decode cL_law 336 = .ok (.iconst 1, 1) := dLb_5.2.2.2.2.2.2.2.2.2.2.2.2.2.2.2
theorem dLb_6 : (decode cL_law 337 = .ok (.iadd, 1)) ∧ (decode cL_law 338 = .ok (.iaload, 1)) ∧ (decode cL_law 339 = .ok (.aload_n 0, 1)) ∧ (decode cL_law 340 = .ok (.iload 4, 2)) ∧ (decode cL_law 342 = .ok (.iconst 2, 1)) ∧ (decode cL_law 343 = .ok (.iadd, 1)) ∧ (decode cL_law 344 = .ok (.iaload, 1)) ∧ (decode cL_law 345 = .ok (.aload_n 3, 1)) ∧ (decode cL_law 346 = .ok (.invokestatic 174, 3)) ∧ (decode cL_law 349 = .ok (.istore 5, 2)) ∧ (decode cL_law 351 = .ok (.aload_n 2, 1)) ∧ (decode cL_law 352 = .ok (.aload_n 0, 1)) ∧ (decode cL_law 353 = .ok (.iload 4, 2)) ∧ (decode cL_law 355 = .ok (.iconst 1, 1)) ∧ (decode cL_law 356 = .ok (.iadd, 1)) ∧ (decode cL_law 357 = .ok (.iaload, 1)) := by decide +kernel
theorem dL_law_337 : decode cL_law 337 = .ok (.iadd, 1) := dLb_6.1
theorem dL_law_338 : decode cL_law 338 = .ok (.iaload, 1) := dLb_6.2.1
theorem dL_law_339 : decode cL_law 339 = .ok (.aload_n 0, 1) := dLb_6.2.2.1
theorem dL_law_340 : decode cL_law 340 = .ok (.iload 4, 2) := dLb_6.2.2.2.1
theorem dL_law_342 : decode cL_law 342 = .ok (.iconst 2, 1) := dLb_6.2.2.2.2.1
theorem dL_law_343 : decode cL_law 343 = .ok (.iadd, 1) := dLb_6.2.2.2.2.2.1
theorem dL_law_344 : decode cL_law 344 = .ok (.iaload, 1) := dLb_6.2.2.2.2.2.2.1
theorem dL_law_345 : decode cL_law 345 = .ok (.aload_n 3, 1) := dLb_6.2.2.2.2.2.2.2.1
theorem dL_law_346 : decode cL_law 346 = .ok (.invokestatic 174, 3) := dLb_6.2.2.2.2.2.2.2.2.1
theorem dL_law_349 : decode cL_law 349 = .ok (.istore 5, 2) := dLb_6.2.2.2.2.2.2.2.2.2.1
theorem dL_law_351 : decode cL_law 351 = .ok (.aload_n 2, 1) := dLb_6.2.2.2.2.2.2.2.2.2.2.1
theorem dL_law_352 : decode cL_law 352 = .ok (.aload_n 0, 1) := dLb_6.2.2.2.2.2.2.2.2.2.2.2.1
theorem dL_law_353 : decode cL_law 353 = .ok (.iload 4, 2) := dLb_6.2.2.2.2.2.2.2.2.2.2.2.2.1
theorem dL_law_355 : decode cL_law 355 = .ok (.iconst 1, 1) := dLb_6.2.2.2.2.2.2.2.2.2.2.2.2.2.1
theorem dL_law_356 : decode cL_law 356 = .ok (.iadd, 1) := dLb_6.2.2.2.2.2.2.2.2.2.2.2.2.2.2.1
theorem dL_law_357 : decode cL_law 357 = .ok (.iaload, 1) := dLb_6.2.2.2.2.2.2.2.2.2.2.2.2.2.2.2
theorem dLb_7 : (decode cL_law 358 = .ok (.aload_n 0, 1)) ∧ (decode cL_law 359 = .ok (.iload 4, 2)) ∧ (decode cL_law 361 = .ok (.iconst 2, 1)) ∧ (decode cL_law 362 = .ok (.iadd, 1)) ∧ (decode cL_law 363 = .ok (.iaload, 1)) ∧ (decode cL_law 364 = .ok (.invokevirtual 176, 3)) ∧ (decode cL_law 367 = .ok (.istore 6, 2)) ∧ (decode cL_law 369 = .ok (.goto 1722, 3)) ∧ (decode cL_law 372 = .ok (.aload_n 1, 1)) ∧ (decode cL_law 373 = .ok (.aload_n 0, 1)) ∧ (decode cL_law 374 = .ok (.iload 4, 2)) ∧ (decode cL_law 376 = .ok (.iconst 1, 1)) ∧ (decode cL_law 377 = .ok (.iadd, 1)) ∧ (decode cL_law 378 = .ok (.iaload, 1)) ∧ (decode cL_law 379 = .ok (.aload_n 0, 1)) ∧ (decode cL_law 380 = .ok (.iload 4, 2)) := by decide +kernel
theorem dL_law_358 : decode cL_law 358 = .ok (.aload_n 0, 1) := dLb_7.1
theorem dL_law_359 : decode cL_law 359 = .ok (.iload 4, 2) := dLb_7.2.1
theorem dL_law_361 : decode cL_law 361 = .ok (.iconst 2, 1) := dLb_7.2.2.1
theorem dL_law_362 : decode cL_law 362 = .ok (.iadd, 1) := dLb_7.2.2.2.1
theorem dL_law_363 : decode cL_law 363 = .ok (.iaload, 1) := dLb_7.2.2.2.2.1
theorem dL_law_364 : decode cL_law 364 = .ok (.invokevirtual 176, 3) := dLb_7.2.2.2.2.2.1
theorem dL_law_367 : decode cL_law 367 = .ok (.istore 6, 2) := dLb_7.2.2.2.2.2.2.1
theorem dL_law_369 : decode cL_law 369 = .ok (.goto 1722, 3) := dLb_7.2.2.2.2.2.2.2.1
theorem dL_law_372 : decode cL_law 372 = .ok (.aload_n 1, 1) := dLb_7.2.2.2.2.2.2.2.2.1
theorem dL_law_373 : decode cL_law 373 = .ok (.aload_n 0, 1) := dLb_7.2.2.2.2.2.2.2.2.2.1
theorem dL_law_374 : decode cL_law 374 = .ok (.iload 4, 2) := dLb_7.2.2.2.2.2.2.2.2.2.2.1
theorem dL_law_376 : decode cL_law 376 = .ok (.iconst 1, 1) := dLb_7.2.2.2.2.2.2.2.2.2.2.2.1
theorem dL_law_377 : decode cL_law 377 = .ok (.iadd, 1) := dLb_7.2.2.2.2.2.2.2.2.2.2.2.2.1
theorem dL_law_378 : decode cL_law 378 = .ok (.iaload, 1) := dLb_7.2.2.2.2.2.2.2.2.2.2.2.2.2.1
theorem dL_law_379 : decode cL_law 379 = .ok (.aload_n 0, 1) := dLb_7.2.2.2.2.2.2.2.2.2.2.2.2.2.2.1
theorem dL_law_380 : decode cL_law 380 = .ok (.iload 4, 2) := dLb_7.2.2.2.2.2.2.2.2.2.2.2.2.2.2.2
theorem dLb_8 : (decode cL_law 382 = .ok (.iconst 2, 1)) ∧ (decode cL_law 383 = .ok (.iadd, 1)) ∧ (decode cL_law 384 = .ok (.iaload, 1)) ∧ (decode cL_law 385 = .ok (.aload_n 0, 1)) ∧ (decode cL_law 386 = .ok (.iload 4, 2)) ∧ (decode cL_law 388 = .ok (.iconst 3, 1)) ∧ (decode cL_law 389 = .ok (.iadd, 1)) ∧ (decode cL_law 390 = .ok (.iaload, 1)) ∧ (decode cL_law 391 = .ok (.aload_n 0, 1)) ∧ (decode cL_law 392 = .ok (.iload 4, 2)) ∧ (decode cL_law 394 = .ok (.iconst 4, 1)) ∧ (decode cL_law 395 = .ok (.iadd, 1)) ∧ (decode cL_law 396 = .ok (.iaload, 1)) ∧ (decode cL_law 397 = .ok (.aload_n 3, 1)) ∧ (decode cL_law 398 = .ok (.invokestatic 177, 3)) ∧ (decode cL_law 401 = .ok (.istore 5, 2)) := by decide +kernel
theorem dL_law_382 : decode cL_law 382 = .ok (.iconst 2, 1) := dLb_8.1
theorem dL_law_383 : decode cL_law 383 = .ok (.iadd, 1) := dLb_8.2.1
theorem dL_law_384 : decode cL_law 384 = .ok (.iaload, 1) := dLb_8.2.2.1
theorem dL_law_385 : decode cL_law 385 = .ok (.aload_n 0, 1) := dLb_8.2.2.2.1
theorem dL_law_386 : decode cL_law 386 = .ok (.iload 4, 2) := dLb_8.2.2.2.2.1
theorem dL_law_388 : decode cL_law 388 = .ok (.iconst 3, 1) := dLb_8.2.2.2.2.2.1
theorem dL_law_389 : decode cL_law 389 = .ok (.iadd, 1) := dLb_8.2.2.2.2.2.2.1
theorem dL_law_390 : decode cL_law 390 = .ok (.iaload, 1) := dLb_8.2.2.2.2.2.2.2.1
theorem dL_law_391 : decode cL_law 391 = .ok (.aload_n 0, 1) := dLb_8.2.2.2.2.2.2.2.2.1
theorem dL_law_392 : decode cL_law 392 = .ok (.iload 4, 2) := dLb_8.2.2.2.2.2.2.2.2.2.1
theorem dL_law_394 : decode cL_law 394 = .ok (.iconst 4, 1) := dLb_8.2.2.2.2.2.2.2.2.2.2.1
theorem dL_law_395 : decode cL_law 395 = .ok (.iadd, 1) := dLb_8.2.2.2.2.2.2.2.2.2.2.2.1
theorem dL_law_396 : decode cL_law 396 = .ok (.iaload, 1) := dLb_8.2.2.2.2.2.2.2.2.2.2.2.2.1
theorem dL_law_397 : decode cL_law 397 = .ok (.aload_n 3, 1) := dLb_8.2.2.2.2.2.2.2.2.2.2.2.2.2.1
theorem dL_law_398 : decode cL_law 398 = .ok (.invokestatic 177, 3) := dLb_8.2.2.2.2.2.2.2.2.2.2.2.2.2.2.1
theorem dL_law_401 : decode cL_law 401 = .ok (.istore 5, 2) := dLb_8.2.2.2.2.2.2.2.2.2.2.2.2.2.2.2
theorem dLb_9 : (decode cL_law 403 = .ok (.aload_n 2, 1)) ∧ (decode cL_law 404 = .ok (.aload_n 0, 1)) ∧ (decode cL_law 405 = .ok (.iload 4, 2)) ∧ (decode cL_law 407 = .ok (.iconst 1, 1)) ∧ (decode cL_law 408 = .ok (.iadd, 1)) ∧ (decode cL_law 409 = .ok (.iaload, 1)) ∧ (decode cL_law 410 = .ok (.aload_n 0, 1)) ∧ (decode cL_law 411 = .ok (.iload 4, 2)) ∧ (decode cL_law 413 = .ok (.iconst 2, 1)) ∧ (decode cL_law 414 = .ok (.iadd, 1)) ∧ (decode cL_law 415 = .ok (.iaload, 1)) ∧ (decode cL_law 416 = .ok (.aload_n 0, 1)) ∧ (decode cL_law 417 = .ok (.iload 4, 2)) ∧ (decode cL_law 419 = .ok (.iconst 3, 1)) ∧ (decode cL_law 420 = .ok (.iadd, 1)) ∧ (decode cL_law 421 = .ok (.iaload, 1)) := by decide +kernel
theorem dL_law_403 : decode cL_law 403 = .ok (.aload_n 2, 1) := dLb_9.1
theorem dL_law_404 : decode cL_law 404 = .ok (.aload_n 0, 1) := dLb_9.2.1
theorem dL_law_405 : decode cL_law 405 = .ok (.iload 4, 2) := dLb_9.2.2.1
theorem dL_law_407 : decode cL_law 407 = .ok (.iconst 1, 1) := dLb_9.2.2.2.1
theorem dL_law_408 : decode cL_law 408 = .ok (.iadd, 1) := dLb_9.2.2.2.2.1
theorem dL_law_409 : decode cL_law 409 = .ok (.iaload, 1) := dLb_9.2.2.2.2.2.1
theorem dL_law_410 : decode cL_law 410 = .ok (.aload_n 0, 1) := dLb_9.2.2.2.2.2.2.1
theorem dL_law_411 : decode cL_law 411 = .ok (.iload 4, 2) := dLb_9.2.2.2.2.2.2.2.1
theorem dL_law_413 : decode cL_law 413 = .ok (.iconst 2, 1) := dLb_9.2.2.2.2.2.2.2.2.1
theorem dL_law_414 : decode cL_law 414 = .ok (.iadd, 1) := dLb_9.2.2.2.2.2.2.2.2.2.1
theorem dL_law_415 : decode cL_law 415 = .ok (.iaload, 1) := dLb_9.2.2.2.2.2.2.2.2.2.2.1
theorem dL_law_416 : decode cL_law 416 = .ok (.aload_n 0, 1) := dLb_9.2.2.2.2.2.2.2.2.2.2.2.1
theorem dL_law_417 : decode cL_law 417 = .ok (.iload 4, 2) := dLb_9.2.2.2.2.2.2.2.2.2.2.2.2.1
theorem dL_law_419 : decode cL_law 419 = .ok (.iconst 3, 1) := dLb_9.2.2.2.2.2.2.2.2.2.2.2.2.2.1
theorem dL_law_420 : decode cL_law 420 = .ok (.iadd, 1) := dLb_9.2.2.2.2.2.2.2.2.2.2.2.2.2.2.1
theorem dL_law_421 : decode cL_law 421 = .ok (.iaload, 1) := dLb_9.2.2.2.2.2.2.2.2.2.2.2.2.2.2.2
theorem dLb_10 : (decode cL_law 422 = .ok (.aload_n 0, 1)) ∧ (decode cL_law 423 = .ok (.iload 4, 2)) ∧ (decode cL_law 425 = .ok (.iconst 4, 1)) ∧ (decode cL_law 426 = .ok (.iadd, 1)) ∧ (decode cL_law 427 = .ok (.iaload, 1)) ∧ (decode cL_law 428 = .ok (.invokevirtual 180, 3)) ∧ (decode cL_law 431 = .ok (.istore 6, 2)) ∧ (decode cL_law 433 = .ok (.goto 1658, 3)) ∧ (decode cL_law 436 = .ok (.aload_n 1, 1)) ∧ (decode cL_law 437 = .ok (.aload_n 0, 1)) ∧ (decode cL_law 438 = .ok (.iload 4, 2)) ∧ (decode cL_law 440 = .ok (.iconst 1, 1)) ∧ (decode cL_law 441 = .ok (.iadd, 1)) ∧ (decode cL_law 442 = .ok (.iaload, 1)) ∧ (decode cL_law 443 = .ok (.aload_n 0, 1)) ∧ (decode cL_law 444 = .ok (.iload 4, 2)) := by decide +kernel
theorem dL_law_422 : decode cL_law 422 = .ok (.aload_n 0, 1) := dLb_10.1
theorem dL_law_423 : decode cL_law 423 = .ok (.iload 4, 2) := dLb_10.2.1
theorem dL_law_425 : decode cL_law 425 = .ok (.iconst 4, 1) := dLb_10.2.2.1
theorem dL_law_426 : decode cL_law 426 = .ok (.iadd, 1) := dLb_10.2.2.2.1
theorem dL_law_427 : decode cL_law 427 = .ok (.iaload, 1) := dLb_10.2.2.2.2.1
theorem dL_law_428 : decode cL_law 428 = .ok (.invokevirtual 180, 3) := dLb_10.2.2.2.2.2.1
theorem dL_law_431 : decode cL_law 431 = .ok (.istore 6, 2) := dLb_10.2.2.2.2.2.2.1
theorem dL_law_433 : decode cL_law 433 = .ok (.goto 1658, 3) := dLb_10.2.2.2.2.2.2.2.1
theorem dL_law_436 : decode cL_law 436 = .ok (.aload_n 1, 1) := dLb_10.2.2.2.2.2.2.2.2.1
theorem dL_law_437 : decode cL_law 437 = .ok (.aload_n 0, 1) := dLb_10.2.2.2.2.2.2.2.2.2.1
theorem dL_law_438 : decode cL_law 438 = .ok (.iload 4, 2) := dLb_10.2.2.2.2.2.2.2.2.2.2.1
theorem dL_law_440 : decode cL_law 440 = .ok (.iconst 1, 1) := dLb_10.2.2.2.2.2.2.2.2.2.2.2.1
theorem dL_law_441 : decode cL_law 441 = .ok (.iadd, 1) := dLb_10.2.2.2.2.2.2.2.2.2.2.2.2.1
theorem dL_law_442 : decode cL_law 442 = .ok (.iaload, 1) := dLb_10.2.2.2.2.2.2.2.2.2.2.2.2.2.1
theorem dL_law_443 : decode cL_law 443 = .ok (.aload_n 0, 1) := dLb_10.2.2.2.2.2.2.2.2.2.2.2.2.2.2.1
theorem dL_law_444 : decode cL_law 444 = .ok (.iload 4, 2) := dLb_10.2.2.2.2.2.2.2.2.2.2.2.2.2.2.2
theorem dLb_11 : (decode cL_law 446 = .ok (.iconst 2, 1)) ∧ (decode cL_law 447 = .ok (.iadd, 1)) ∧ (decode cL_law 448 = .ok (.iaload, 1)) ∧ (decode cL_law 449 = .ok (.aload_n 0, 1)) ∧ (decode cL_law 450 = .ok (.iload 4, 2)) ∧ (decode cL_law 452 = .ok (.iconst 3, 1)) ∧ (decode cL_law 453 = .ok (.iadd, 1)) ∧ (decode cL_law 454 = .ok (.iaload, 1)) ∧ (decode cL_law 455 = .ok (.aload_n 3, 1)) ∧ (decode cL_law 456 = .ok (.invokestatic 181, 3)) ∧ (decode cL_law 459 = .ok (.istore 5, 2)) ∧ (decode cL_law 461 = .ok (.aload_n 2, 1)) ∧ (decode cL_law 462 = .ok (.aload_n 0, 1)) ∧ (decode cL_law 463 = .ok (.iload 4, 2)) ∧ (decode cL_law 465 = .ok (.iconst 1, 1)) ∧ (decode cL_law 466 = .ok (.iadd, 1)) := by decide +kernel
theorem dL_law_446 : decode cL_law 446 = .ok (.iconst 2, 1) := dLb_11.1
theorem dL_law_447 : decode cL_law 447 = .ok (.iadd, 1) := dLb_11.2.1
theorem dL_law_448 : decode cL_law 448 = .ok (.iaload, 1) := dLb_11.2.2.1
theorem dL_law_449 : decode cL_law 449 = .ok (.aload_n 0, 1) := dLb_11.2.2.2.1
theorem dL_law_450 : decode cL_law 450 = .ok (.iload 4, 2) := dLb_11.2.2.2.2.1
theorem dL_law_452 : decode cL_law 452 = .ok (.iconst 3, 1) := dLb_11.2.2.2.2.2.1
theorem dL_law_453 : decode cL_law 453 = .ok (.iadd, 1) := dLb_11.2.2.2.2.2.2.1
theorem dL_law_454 : decode cL_law 454 = .ok (.iaload, 1) := dLb_11.2.2.2.2.2.2.2.1
theorem dL_law_455 : decode cL_law 455 = .ok (.aload_n 3, 1) := dLb_11.2.2.2.2.2.2.2.2.1
theorem dL_law_456 : decode cL_law 456 = .ok (.invokestatic 181, 3) := dLb_11.2.2.2.2.2.2.2.2.2.1
theorem dL_law_459 : decode cL_law 459 = .ok (.istore 5, 2) := dLb_11.2.2.2.2.2.2.2.2.2.2.1
theorem dL_law_461 : decode cL_law 461 = .ok (.aload_n 2, 1) := dLb_11.2.2.2.2.2.2.2.2.2.2.2.1
theorem dL_law_462 : decode cL_law 462 = .ok (.aload_n 0, 1) := dLb_11.2.2.2.2.2.2.2.2.2.2.2.2.1
theorem dL_law_463 : decode cL_law 463 = .ok (.iload 4, 2) := dLb_11.2.2.2.2.2.2.2.2.2.2.2.2.2.1
theorem dL_law_465 : decode cL_law 465 = .ok (.iconst 1, 1) := dLb_11.2.2.2.2.2.2.2.2.2.2.2.2.2.2.1
theorem dL_law_466 : decode cL_law 466 = .ok (.iadd, 1) := dLb_11.2.2.2.2.2.2.2.2.2.2.2.2.2.2.2
theorem dLb_12 : (decode cL_law 467 = .ok (.iaload, 1)) ∧ (decode cL_law 468 = .ok (.aload_n 0, 1)) ∧ (decode cL_law 469 = .ok (.iload 4, 2)) ∧ (decode cL_law 471 = .ok (.iconst 2, 1)) ∧ (decode cL_law 472 = .ok (.iadd, 1)) ∧ (decode cL_law 473 = .ok (.iaload, 1)) ∧ (decode cL_law 474 = .ok (.aload_n 0, 1)) ∧ (decode cL_law 475 = .ok (.iload 4, 2)) ∧ (decode cL_law 477 = .ok (.iconst 3, 1)) ∧ (decode cL_law 478 = .ok (.iadd, 1)) ∧ (decode cL_law 479 = .ok (.iaload, 1)) ∧ (decode cL_law 480 = .ok (.invokevirtual 183, 3)) ∧ (decode cL_law 483 = .ok (.istore 6, 2)) ∧ (decode cL_law 485 = .ok (.goto 1606, 3)) ∧ (decode cL_law 488 = .ok (.aload_n 1, 1)) ∧ (decode cL_law 489 = .ok (.aload_n 0, 1)) := by decide +kernel
theorem dL_law_467 : decode cL_law 467 = .ok (.iaload, 1) := dLb_12.1
theorem dL_law_468 : decode cL_law 468 = .ok (.aload_n 0, 1) := dLb_12.2.1
theorem dL_law_469 : decode cL_law 469 = .ok (.iload 4, 2) := dLb_12.2.2.1
theorem dL_law_471 : decode cL_law 471 = .ok (.iconst 2, 1) := dLb_12.2.2.2.1
theorem dL_law_472 : decode cL_law 472 = .ok (.iadd, 1) := dLb_12.2.2.2.2.1
theorem dL_law_473 : decode cL_law 473 = .ok (.iaload, 1) := dLb_12.2.2.2.2.2.1
theorem dL_law_474 : decode cL_law 474 = .ok (.aload_n 0, 1) := dLb_12.2.2.2.2.2.2.1
theorem dL_law_475 : decode cL_law 475 = .ok (.iload 4, 2) := dLb_12.2.2.2.2.2.2.2.1
theorem dL_law_477 : decode cL_law 477 = .ok (.iconst 3, 1) := dLb_12.2.2.2.2.2.2.2.2.1
theorem dL_law_478 : decode cL_law 478 = .ok (.iadd, 1) := dLb_12.2.2.2.2.2.2.2.2.2.1
theorem dL_law_479 : decode cL_law 479 = .ok (.iaload, 1) := dLb_12.2.2.2.2.2.2.2.2.2.2.1
theorem dL_law_480 : decode cL_law 480 = .ok (.invokevirtual 183, 3) := dLb_12.2.2.2.2.2.2.2.2.2.2.2.1
theorem dL_law_483 : decode cL_law 483 = .ok (.istore 6, 2) := dLb_12.2.2.2.2.2.2.2.2.2.2.2.2.1
theorem dL_law_485 : decode cL_law 485 = .ok (.goto 1606, 3) := dLb_12.2.2.2.2.2.2.2.2.2.2.2.2.2.1
theorem dL_law_488 : decode cL_law 488 = .ok (.aload_n 1, 1) := dLb_12.2.2.2.2.2.2.2.2.2.2.2.2.2.2.1
theorem dL_law_489 : decode cL_law 489 = .ok (.aload_n 0, 1) := dLb_12.2.2.2.2.2.2.2.2.2.2.2.2.2.2.2
theorem dLb_13 : (decode cL_law 490 = .ok (.iload 4, 2)) ∧ (decode cL_law 492 = .ok (.iconst 1, 1)) ∧ (decode cL_law 493 = .ok (.iadd, 1)) ∧ (decode cL_law 494 = .ok (.iaload, 1)) ∧ (decode cL_law 495 = .ok (.aload_n 0, 1)) ∧ (decode cL_law 496 = .ok (.iload 4, 2)) ∧ (decode cL_law 498 = .ok (.iconst 2, 1)) ∧ (decode cL_law 499 = .ok (.iadd, 1)) ∧ (decode cL_law 500 = .ok (.iaload, 1)) ∧ (decode cL_law 501 = .ok (.aload_n 3, 1)) ∧ (decode cL_law 502 = .ok (.invokestatic 184, 3)) ∧ (decode cL_law 505 = .ok (.istore 5, 2)) ∧ (decode cL_law 507 = .ok (.aload_n 2, 1)) ∧ (decode cL_law 508 = .ok (.aload_n 0, 1)) ∧ (decode cL_law 509 = .ok (.iload 4, 2)) ∧ (decode cL_law 511 = .ok (.iconst 1, 1)) := by decide +kernel
theorem dL_law_490 : decode cL_law 490 = .ok (.iload 4, 2) := dLb_13.1
theorem dL_law_492 : decode cL_law 492 = .ok (.iconst 1, 1) := dLb_13.2.1
theorem dL_law_493 : decode cL_law 493 = .ok (.iadd, 1) := dLb_13.2.2.1
theorem dL_law_494 : decode cL_law 494 = .ok (.iaload, 1) := dLb_13.2.2.2.1
theorem dL_law_495 : decode cL_law 495 = .ok (.aload_n 0, 1) := dLb_13.2.2.2.2.1
theorem dL_law_496 : decode cL_law 496 = .ok (.iload 4, 2) := dLb_13.2.2.2.2.2.1
theorem dL_law_498 : decode cL_law 498 = .ok (.iconst 2, 1) := dLb_13.2.2.2.2.2.2.1
theorem dL_law_499 : decode cL_law 499 = .ok (.iadd, 1) := dLb_13.2.2.2.2.2.2.2.1
theorem dL_law_500 : decode cL_law 500 = .ok (.iaload, 1) := dLb_13.2.2.2.2.2.2.2.2.1
theorem dL_law_501 : decode cL_law 501 = .ok (.aload_n 3, 1) := dLb_13.2.2.2.2.2.2.2.2.2.1
theorem dL_law_502 : decode cL_law 502 = .ok (.invokestatic 184, 3) := dLb_13.2.2.2.2.2.2.2.2.2.2.1
theorem dL_law_505 : decode cL_law 505 = .ok (.istore 5, 2) := dLb_13.2.2.2.2.2.2.2.2.2.2.2.1
theorem dL_law_507 : decode cL_law 507 = .ok (.aload_n 2, 1) := dLb_13.2.2.2.2.2.2.2.2.2.2.2.2.1
theorem dL_law_508 : decode cL_law 508 = .ok (.aload_n 0, 1) := dLb_13.2.2.2.2.2.2.2.2.2.2.2.2.2.1
theorem dL_law_509 : decode cL_law 509 = .ok (.iload 4, 2) := dLb_13.2.2.2.2.2.2.2.2.2.2.2.2.2.2.1
theorem dL_law_511 : decode cL_law 511 = .ok (.iconst 1, 1) := dLb_13.2.2.2.2.2.2.2.2.2.2.2.2.2.2.2
theorem dLb_14 : (decode cL_law 512 = .ok (.iadd, 1)) ∧ (decode cL_law 513 = .ok (.iaload, 1)) ∧ (decode cL_law 514 = .ok (.aload_n 0, 1)) ∧ (decode cL_law 515 = .ok (.iload 4, 2)) ∧ (decode cL_law 517 = .ok (.iconst 2, 1)) ∧ (decode cL_law 518 = .ok (.iadd, 1)) ∧ (decode cL_law 519 = .ok (.iaload, 1)) ∧ (decode cL_law 520 = .ok (.invokevirtual 186, 3)) ∧ (decode cL_law 523 = .ok (.istore 6, 2)) ∧ (decode cL_law 525 = .ok (.goto 1566, 3)) ∧ (decode cL_law 528 = .ok (.aload_n 1, 1)) ∧ (decode cL_law 529 = .ok (.aload_n 0, 1)) ∧ (decode cL_law 530 = .ok (.iload 4, 2)) ∧ (decode cL_law 532 = .ok (.iconst 1, 1)) ∧ (decode cL_law 533 = .ok (.iadd, 1)) ∧ (decode cL_law 534 = .ok (.iaload, 1)) := by decide +kernel
theorem dL_law_512 : decode cL_law 512 = .ok (.iadd, 1) := dLb_14.1
theorem dL_law_513 : decode cL_law 513 = .ok (.iaload, 1) := dLb_14.2.1
theorem dL_law_514 : decode cL_law 514 = .ok (.aload_n 0, 1) := dLb_14.2.2.1
theorem dL_law_515 : decode cL_law 515 = .ok (.iload 4, 2) := dLb_14.2.2.2.1
theorem dL_law_517 : decode cL_law 517 = .ok (.iconst 2, 1) := dLb_14.2.2.2.2.1
theorem dL_law_518 : decode cL_law 518 = .ok (.iadd, 1) := dLb_14.2.2.2.2.2.1
theorem dL_law_519 : decode cL_law 519 = .ok (.iaload, 1) := dLb_14.2.2.2.2.2.2.1
theorem dL_law_520 : decode cL_law 520 = .ok (.invokevirtual 186, 3) := dLb_14.2.2.2.2.2.2.2.1
theorem dL_law_523 : decode cL_law 523 = .ok (.istore 6, 2) := dLb_14.2.2.2.2.2.2.2.2.1
theorem dL_law_525 : decode cL_law 525 = .ok (.goto 1566, 3) := dLb_14.2.2.2.2.2.2.2.2.2.1
theorem dL_law_528 : decode cL_law 528 = .ok (.aload_n 1, 1) := dLb_14.2.2.2.2.2.2.2.2.2.2.1
theorem dL_law_529 : decode cL_law 529 = .ok (.aload_n 0, 1) := dLb_14.2.2.2.2.2.2.2.2.2.2.2.1
theorem dL_law_530 : decode cL_law 530 = .ok (.iload 4, 2) := dLb_14.2.2.2.2.2.2.2.2.2.2.2.2.1
theorem dL_law_532 : decode cL_law 532 = .ok (.iconst 1, 1) := dLb_14.2.2.2.2.2.2.2.2.2.2.2.2.2.1
theorem dL_law_533 : decode cL_law 533 = .ok (.iadd, 1) := dLb_14.2.2.2.2.2.2.2.2.2.2.2.2.2.2.1
theorem dL_law_534 : decode cL_law 534 = .ok (.iaload, 1) := dLb_14.2.2.2.2.2.2.2.2.2.2.2.2.2.2.2
theorem dLb_15 : (decode cL_law 535 = .ok (.aload_n 3, 1)) ∧ (decode cL_law 536 = .ok (.invokestatic 187, 3)) ∧ (decode cL_law 539 = .ok (.istore 5, 2)) ∧ (decode cL_law 541 = .ok (.aload_n 2, 1)) ∧ (decode cL_law 542 = .ok (.aload_n 0, 1)) ∧ (decode cL_law 543 = .ok (.iload 4, 2)) ∧ (decode cL_law 545 = .ok (.iconst 1, 1)) ∧ (decode cL_law 546 = .ok (.iadd, 1)) ∧ (decode cL_law 547 = .ok (.iaload, 1)) ∧ (decode cL_law 548 = .ok (.invokevirtual 190, 3)) ∧ (decode cL_law 551 = .ok (.istore 6, 2)) ∧ (decode cL_law 553 = .ok (.goto 1538, 3)) ∧ (decode cL_law 556 = .ok (.aload_n 1, 1)) ∧ (decode cL_law 557 = .ok (.aload_n 0, 1)) ∧ (decode cL_law 558 = .ok (.iload 4, 2)) ∧ (decode cL_law 560 = .ok (.iconst 1, 1)) := by decide +kernel
theorem dL_law_535 : decode cL_law 535 = .ok (.aload_n 3, 1) := dLb_15.1
theorem dL_law_536 : decode cL_law 536 = .ok (.invokestatic 187, 3) := dLb_15.2.1
theorem dL_law_539 : decode cL_law 539 = .ok (.istore 5, 2) := dLb_15.2.2.1
theorem dL_law_541 : decode cL_law 541 = .ok (.aload_n 2, 1) := dLb_15.2.2.2.1
theorem dL_law_542 : decode cL_law 542 = .ok (.aload_n 0, 1) := dLb_15.2.2.2.2.1
theorem dL_law_543 : decode cL_law 543 = .ok (.iload 4, 2) := dLb_15.2.2.2.2.2.1
theorem dL_law_545 : decode cL_law 545 = .ok (.iconst 1, 1) := dLb_15.2.2.2.2.2.2.1
theorem dL_law_546 : decode cL_law 546 = .ok (.iadd, 1) := dLb_15.2.2.2.2.2.2.2.1
theorem dL_law_547 : decode cL_law 547 = .ok (.iaload, 1) := dLb_15.2.2.2.2.2.2.2.2.1
theorem dL_law_548 : decode cL_law 548 = .ok (.invokevirtual 190, 3) := dLb_15.2.2.2.2.2.2.2.2.2.1
theorem dL_law_551 : decode cL_law 551 = .ok (.istore 6, 2) := dLb_15.2.2.2.2.2.2.2.2.2.2.1
theorem dL_law_553 : decode cL_law 553 = .ok (.goto 1538, 3) := dLb_15.2.2.2.2.2.2.2.2.2.2.2.1
theorem dL_law_556 : decode cL_law 556 = .ok (.aload_n 1, 1) := dLb_15.2.2.2.2.2.2.2.2.2.2.2.2.1
theorem dL_law_557 : decode cL_law 557 = .ok (.aload_n 0, 1) := dLb_15.2.2.2.2.2.2.2.2.2.2.2.2.2.1
theorem dL_law_558 : decode cL_law 558 = .ok (.iload 4, 2) := dLb_15.2.2.2.2.2.2.2.2.2.2.2.2.2.2.1
theorem dL_law_560 : decode cL_law 560 = .ok (.iconst 1, 1) := dLb_15.2.2.2.2.2.2.2.2.2.2.2.2.2.2.2
theorem dLb_16 : (decode cL_law 561 = .ok (.iadd, 1)) ∧ (decode cL_law 562 = .ok (.iaload, 1)) ∧ (decode cL_law 563 = .ok (.aload_n 3, 1)) ∧ (decode cL_law 564 = .ok (.invokestatic 191, 3)) ∧ (decode cL_law 567 = .ok (.istore 5, 2)) ∧ (decode cL_law 569 = .ok (.aload_n 2, 1)) ∧ (decode cL_law 570 = .ok (.aload_n 0, 1)) ∧ (decode cL_law 571 = .ok (.iload 4, 2)) ∧ (decode cL_law 573 = .ok (.iconst 1, 1)) ∧ (decode cL_law 574 = .ok (.iadd, 1)) ∧ (decode cL_law 575 = .ok (.iaload, 1)) ∧ (decode cL_law 576 = .ok (.invokevirtual 193, 3)) ∧ (decode cL_law 579 = .ok (.istore 6, 2)) ∧ (decode cL_law 581 = .ok (.aload_n 2, 1)) ∧ (decode cL_law 582 = .ok (.invokevirtual 194, 3)) ∧ (decode cL_law 585 = .ok (.iload 5, 2)) := by decide +kernel
theorem dL_law_561 : decode cL_law 561 = .ok (.iadd, 1) := dLb_16.1
theorem dL_law_562 : decode cL_law 562 = .ok (.iaload, 1) := dLb_16.2.1
theorem dL_law_563 : decode cL_law 563 = .ok (.aload_n 3, 1) := dLb_16.2.2.1
theorem dL_law_564 : decode cL_law 564 = .ok (.invokestatic 191, 3) := dLb_16.2.2.2.1
theorem dL_law_567 : decode cL_law 567 = .ok (.istore 5, 2) := dLb_16.2.2.2.2.1
theorem dL_law_569 : decode cL_law 569 = .ok (.aload_n 2, 1) := dLb_16.2.2.2.2.2.1
theorem dL_law_570 : decode cL_law 570 = .ok (.aload_n 0, 1) := dLb_16.2.2.2.2.2.2.1
theorem dL_law_571 : decode cL_law 571 = .ok (.iload 4, 2) := dLb_16.2.2.2.2.2.2.2.1
theorem dL_law_573 : decode cL_law 573 = .ok (.iconst 1, 1) := dLb_16.2.2.2.2.2.2.2.2.1
theorem dL_law_574 : decode cL_law 574 = .ok (.iadd, 1) := dLb_16.2.2.2.2.2.2.2.2.2.1
theorem dL_law_575 : decode cL_law 575 = .ok (.iaload, 1) := dLb_16.2.2.2.2.2.2.2.2.2.2.1
theorem dL_law_576 : decode cL_law 576 = .ok (.invokevirtual 193, 3) := dLb_16.2.2.2.2.2.2.2.2.2.2.2.1
theorem dL_law_579 : decode cL_law 579 = .ok (.istore 6, 2) := dLb_16.2.2.2.2.2.2.2.2.2.2.2.2.1
theorem dL_law_581 : decode cL_law 581 = .ok (.aload_n 2, 1) := dLb_16.2.2.2.2.2.2.2.2.2.2.2.2.2.1
theorem dL_law_582 : decode cL_law 582 = .ok (.invokevirtual 194, 3) := dLb_16.2.2.2.2.2.2.2.2.2.2.2.2.2.2.1
theorem dL_law_585 : decode cL_law 585 = .ok (.iload 5, 2) := dLb_16.2.2.2.2.2.2.2.2.2.2.2.2.2.2.2
theorem dLb_17 : (decode cL_law 587 = .ok (.if_icmp .eq 5, 3)) ∧ (decode cL_law 590 = .ok (.iconst 0, 1)) ∧ (decode cL_law 591 = .ok (.ireturn, 1)) ∧ (decode cL_law 592 = .ok (.iload 5, 2)) ∧ (decode cL_law 594 = .ok (.ifCond .ne 23, 3)) ∧ (decode cL_law 597 = .ok (.aload_n 3, 1)) ∧ (decode cL_law 598 = .ok (.getfield 13, 3)) ∧ (decode cL_law 601 = .ok (.iload 6, 2)) ∧ (decode cL_law 603 = .ok (.ifCond .eq 7, 3)) ∧ (decode cL_law 606 = .ok (.lconst 1, 1)) ∧ (decode cL_law 607 = .ok (.goto 4, 3)) ∧ (decode cL_law 610 = .ok (.lconst 0, 1)) ∧ (decode cL_law 611 = .ok (.lcmp, 1)) ∧ (decode cL_law 612 = .ok (.ifCond .eq 5, 3)) ∧ (decode cL_law 615 = .ok (.iconst 0, 1)) ∧ (decode cL_law 616 = .ok (.ireturn, 1)) := by decide +kernel
theorem dL_law_587 : decode cL_law 587 = .ok (.if_icmp .eq 5, 3) := dLb_17.1
theorem dL_law_590 : decode cL_law 590 = .ok (.iconst 0, 1) := dLb_17.2.1
theorem dL_law_591 : decode cL_law 591 = .ok (.ireturn, 1) := dLb_17.2.2.1
theorem dL_law_592 : decode cL_law 592 = .ok (.iload 5, 2) := dLb_17.2.2.2.1
theorem dL_law_594 : decode cL_law 594 = .ok (.ifCond .ne 23, 3) := dLb_17.2.2.2.2.1
theorem dL_law_597 : decode cL_law 597 = .ok (.aload_n 3, 1) := dLb_17.2.2.2.2.2.1
theorem dL_law_598 : decode cL_law 598 = .ok (.getfield 13, 3) := dLb_17.2.2.2.2.2.2.1
theorem dL_law_601 : decode cL_law 601 = .ok (.iload 6, 2) := dLb_17.2.2.2.2.2.2.2.1
theorem dL_law_603 : decode cL_law 603 = .ok (.ifCond .eq 7, 3) := dLb_17.2.2.2.2.2.2.2.2.1
theorem dL_law_606 : decode cL_law 606 = .ok (.lconst 1, 1) := dLb_17.2.2.2.2.2.2.2.2.2.1
theorem dL_law_607 : decode cL_law 607 = .ok (.goto 4, 3) := dLb_17.2.2.2.2.2.2.2.2.2.2.1
theorem dL_law_610 : decode cL_law 610 = .ok (.lconst 0, 1) := dLb_17.2.2.2.2.2.2.2.2.2.2.2.1
theorem dL_law_611 : decode cL_law 611 = .ok (.lcmp, 1) := dLb_17.2.2.2.2.2.2.2.2.2.2.2.2.1
theorem dL_law_612 : decode cL_law 612 = .ok (.ifCond .eq 5, 3) := dLb_17.2.2.2.2.2.2.2.2.2.2.2.2.2.1
theorem dL_law_615 : decode cL_law 615 = .ok (.iconst 0, 1) := dLb_17.2.2.2.2.2.2.2.2.2.2.2.2.2.2.1
theorem dL_law_616 : decode cL_law 616 = .ok (.ireturn, 1) := dLb_17.2.2.2.2.2.2.2.2.2.2.2.2.2.2.2
theorem dLb_18 : (decode cL_law 617 = .ok (.goto 1474, 3)) ∧ (decode cL_law 620 = .ok (.aload_n 1, 1)) ∧ (decode cL_law 621 = .ok (.aload_n 0, 1)) ∧ (decode cL_law 622 = .ok (.iload 4, 2)) ∧ (decode cL_law 624 = .ok (.iconst 1, 1)) ∧ (decode cL_law 625 = .ok (.iadd, 1)) ∧ (decode cL_law 626 = .ok (.iaload, 1)) ∧ (decode cL_law 627 = .ok (.aload_n 3, 1)) ∧ (decode cL_law 628 = .ok (.invokestatic 198, 3)) ∧ (decode cL_law 631 = .ok (.istore 5, 2)) ∧ (decode cL_law 633 = .ok (.aload_n 2, 1)) ∧ (decode cL_law 634 = .ok (.aload_n 0, 1)) ∧ (decode cL_law 635 = .ok (.iload 4, 2)) ∧ (decode cL_law 637 = .ok (.iconst 1, 1)) ∧ (decode cL_law 638 = .ok (.iadd, 1)) ∧ (decode cL_law 639 = .ok (.iaload, 1)) := by decide +kernel
theorem dL_law_617 : decode cL_law 617 = .ok (.goto 1474, 3) := dLb_18.1
theorem dL_law_620 : decode cL_law 620 = .ok (.aload_n 1, 1) := dLb_18.2.1
theorem dL_law_621 : decode cL_law 621 = .ok (.aload_n 0, 1) := dLb_18.2.2.1
theorem dL_law_622 : decode cL_law 622 = .ok (.iload 4, 2) := dLb_18.2.2.2.1
theorem dL_law_624 : decode cL_law 624 = .ok (.iconst 1, 1) := dLb_18.2.2.2.2.1
theorem dL_law_625 : decode cL_law 625 = .ok (.iadd, 1) := dLb_18.2.2.2.2.2.1
theorem dL_law_626 : decode cL_law 626 = .ok (.iaload, 1) := dLb_18.2.2.2.2.2.2.1
theorem dL_law_627 : decode cL_law 627 = .ok (.aload_n 3, 1) := dLb_18.2.2.2.2.2.2.2.1
theorem dL_law_628 : decode cL_law 628 = .ok (.invokestatic 198, 3) := dLb_18.2.2.2.2.2.2.2.2.1
theorem dL_law_631 : decode cL_law 631 = .ok (.istore 5, 2) := dLb_18.2.2.2.2.2.2.2.2.2.1
theorem dL_law_633 : decode cL_law 633 = .ok (.aload_n 2, 1) := dLb_18.2.2.2.2.2.2.2.2.2.2.1
theorem dL_law_634 : decode cL_law 634 = .ok (.aload_n 0, 1) := dLb_18.2.2.2.2.2.2.2.2.2.2.2.1
theorem dL_law_635 : decode cL_law 635 = .ok (.iload 4, 2) := dLb_18.2.2.2.2.2.2.2.2.2.2.2.2.1
theorem dL_law_637 : decode cL_law 637 = .ok (.iconst 1, 1) := dLb_18.2.2.2.2.2.2.2.2.2.2.2.2.2.1
theorem dL_law_638 : decode cL_law 638 = .ok (.iadd, 1) := dLb_18.2.2.2.2.2.2.2.2.2.2.2.2.2.2.1
theorem dL_law_639 : decode cL_law 639 = .ok (.iaload, 1) := dLb_18.2.2.2.2.2.2.2.2.2.2.2.2.2.2.2
theorem dLb_19 : (decode cL_law 640 = .ok (.invokevirtual 200, 3)) ∧ (decode cL_law 643 = .ok (.astore 6, 2)) ∧ (decode cL_law 645 = .ok (.goto 1446, 3)) ∧ (decode cL_law 648 = .ok (.aload_n 1, 1)) ∧ (decode cL_law 649 = .ok (.aload_n 0, 1)) ∧ (decode cL_law 650 = .ok (.iload 4, 2)) ∧ (decode cL_law 652 = .ok (.iconst 1, 1)) ∧ (decode cL_law 653 = .ok (.iadd, 1)) ∧ (decode cL_law 654 = .ok (.iaload, 1)) ∧ (decode cL_law 655 = .ok (.aload_n 3, 1)) ∧ (decode cL_law 656 = .ok (.invokestatic 201, 3)) ∧ (decode cL_law 659 = .ok (.istore 5, 2)) ∧ (decode cL_law 661 = .ok (.aload_n 2, 1)) ∧ (decode cL_law 662 = .ok (.aload_n 0, 1)) ∧ (decode cL_law 663 = .ok (.iload 4, 2)) ∧ (decode cL_law 665 = .ok (.iconst 1, 1)) := by decide +kernel
theorem dL_law_640 : decode cL_law 640 = .ok (.invokevirtual 200, 3) := dLb_19.1
theorem dL_law_643 : decode cL_law 643 = .ok (.astore 6, 2) := dLb_19.2.1
theorem dL_law_645 : decode cL_law 645 = .ok (.goto 1446, 3) := dLb_19.2.2.1
theorem dL_law_648 : decode cL_law 648 = .ok (.aload_n 1, 1) := dLb_19.2.2.2.1
theorem dL_law_649 : decode cL_law 649 = .ok (.aload_n 0, 1) := dLb_19.2.2.2.2.1
theorem dL_law_650 : decode cL_law 650 = .ok (.iload 4, 2) := dLb_19.2.2.2.2.2.1
theorem dL_law_652 : decode cL_law 652 = .ok (.iconst 1, 1) := dLb_19.2.2.2.2.2.2.1
theorem dL_law_653 : decode cL_law 653 = .ok (.iadd, 1) := dLb_19.2.2.2.2.2.2.2.1
theorem dL_law_654 : decode cL_law 654 = .ok (.iaload, 1) := dLb_19.2.2.2.2.2.2.2.2.1
theorem dL_law_655 : decode cL_law 655 = .ok (.aload_n 3, 1) := dLb_19.2.2.2.2.2.2.2.2.2.1
theorem dL_law_656 : decode cL_law 656 = .ok (.invokestatic 201, 3) := dLb_19.2.2.2.2.2.2.2.2.2.2.1
theorem dL_law_659 : decode cL_law 659 = .ok (.istore 5, 2) := dLb_19.2.2.2.2.2.2.2.2.2.2.2.1
theorem dL_law_661 : decode cL_law 661 = .ok (.aload_n 2, 1) := dLb_19.2.2.2.2.2.2.2.2.2.2.2.2.1
theorem dL_law_662 : decode cL_law 662 = .ok (.aload_n 0, 1) := dLb_19.2.2.2.2.2.2.2.2.2.2.2.2.2.1
theorem dL_law_663 : decode cL_law 663 = .ok (.iload 4, 2) := dLb_19.2.2.2.2.2.2.2.2.2.2.2.2.2.2.1
theorem dL_law_665 : decode cL_law 665 = .ok (.iconst 1, 1) := dLb_19.2.2.2.2.2.2.2.2.2.2.2.2.2.2.2
theorem dLb_20 : (decode cL_law 666 = .ok (.iadd, 1)) ∧ (decode cL_law 667 = .ok (.iaload, 1)) ∧ (decode cL_law 668 = .ok (.invokevirtual 203, 3)) ∧ (decode cL_law 671 = .ok (.astore 6, 2)) ∧ (decode cL_law 673 = .ok (.goto 1418, 3)) ∧ (decode cL_law 676 = .ok (.aload_n 1, 1)) ∧ (decode cL_law 677 = .ok (.aload_n 0, 1)) ∧ (decode cL_law 678 = .ok (.iload 4, 2)) ∧ (decode cL_law 680 = .ok (.iconst 1, 1)) ∧ (decode cL_law 681 = .ok (.iadd, 1)) ∧ (decode cL_law 682 = .ok (.iaload, 1)) ∧ (decode cL_law 683 = .ok (.aload_n 0, 1)) ∧ (decode cL_law 684 = .ok (.iload 4, 2)) ∧ (decode cL_law 686 = .ok (.iconst 2, 1)) ∧ (decode cL_law 687 = .ok (.iadd, 1)) ∧ (decode cL_law 688 = .ok (.iaload, 1)) := by decide +kernel
theorem dL_law_666 : decode cL_law 666 = .ok (.iadd, 1) := dLb_20.1
theorem dL_law_667 : decode cL_law 667 = .ok (.iaload, 1) := dLb_20.2.1
theorem dL_law_668 : decode cL_law 668 = .ok (.invokevirtual 203, 3) := dLb_20.2.2.1
theorem dL_law_671 : decode cL_law 671 = .ok (.astore 6, 2) := dLb_20.2.2.2.1
theorem dL_law_673 : decode cL_law 673 = .ok (.goto 1418, 3) := dLb_20.2.2.2.2.1
theorem dL_law_676 : decode cL_law 676 = .ok (.aload_n 1, 1) := dLb_20.2.2.2.2.2.1
theorem dL_law_677 : decode cL_law 677 = .ok (.aload_n 0, 1) := dLb_20.2.2.2.2.2.2.1
theorem dL_law_678 : decode cL_law 678 = .ok (.iload 4, 2) := dLb_20.2.2.2.2.2.2.2.1
theorem dL_law_680 : decode cL_law 680 = .ok (.iconst 1, 1) := dLb_20.2.2.2.2.2.2.2.2.1
theorem dL_law_681 : decode cL_law 681 = .ok (.iadd, 1) := dLb_20.2.2.2.2.2.2.2.2.2.1
theorem dL_law_682 : decode cL_law 682 = .ok (.iaload, 1) := dLb_20.2.2.2.2.2.2.2.2.2.2.1
theorem dL_law_683 : decode cL_law 683 = .ok (.aload_n 0, 1) := dLb_20.2.2.2.2.2.2.2.2.2.2.2.1
theorem dL_law_684 : decode cL_law 684 = .ok (.iload 4, 2) := dLb_20.2.2.2.2.2.2.2.2.2.2.2.2.1
theorem dL_law_686 : decode cL_law 686 = .ok (.iconst 2, 1) := dLb_20.2.2.2.2.2.2.2.2.2.2.2.2.2.1
theorem dL_law_687 : decode cL_law 687 = .ok (.iadd, 1) := dLb_20.2.2.2.2.2.2.2.2.2.2.2.2.2.2.1
theorem dL_law_688 : decode cL_law 688 = .ok (.iaload, 1) := dLb_20.2.2.2.2.2.2.2.2.2.2.2.2.2.2.2
theorem dLb_21 : (decode cL_law 689 = .ok (.aload_n 3, 1)) ∧ (decode cL_law 690 = .ok (.invokestatic 204, 3)) ∧ (decode cL_law 693 = .ok (.istore 5, 2)) ∧ (decode cL_law 695 = .ok (.aload_n 2, 1)) ∧ (decode cL_law 696 = .ok (.aload_n 0, 1)) ∧ (decode cL_law 697 = .ok (.iload 4, 2)) ∧ (decode cL_law 699 = .ok (.iconst 1, 1)) ∧ (decode cL_law 700 = .ok (.iadd, 1)) ∧ (decode cL_law 701 = .ok (.iaload, 1)) ∧ (decode cL_law 702 = .ok (.aload_n 0, 1)) ∧ (decode cL_law 703 = .ok (.iload 4, 2)) ∧ (decode cL_law 705 = .ok (.iconst 2, 1)) ∧ (decode cL_law 706 = .ok (.iadd, 1)) ∧ (decode cL_law 707 = .ok (.iaload, 1)) ∧ (decode cL_law 708 = .ok (.invokevirtual 206, 3)) ∧ (decode cL_law 711 = .ok (.istore 6, 2)) := by decide +kernel
theorem dL_law_689 : decode cL_law 689 = .ok (.aload_n 3, 1) := dLb_21.1
theorem dL_law_690 : decode cL_law 690 = .ok (.invokestatic 204, 3) := dLb_21.2.1
theorem dL_law_693 : decode cL_law 693 = .ok (.istore 5, 2) := dLb_21.2.2.1
theorem dL_law_695 : decode cL_law 695 = .ok (.aload_n 2, 1) := dLb_21.2.2.2.1
theorem dL_law_696 : decode cL_law 696 = .ok (.aload_n 0, 1) := dLb_21.2.2.2.2.1
theorem dL_law_697 : decode cL_law 697 = .ok (.iload 4, 2) := dLb_21.2.2.2.2.2.1
theorem dL_law_699 : decode cL_law 699 = .ok (.iconst 1, 1) := dLb_21.2.2.2.2.2.2.1
theorem dL_law_700 : decode cL_law 700 = .ok (.iadd, 1) := dLb_21.2.2.2.2.2.2.2.1
theorem dL_law_701 : decode cL_law 701 = .ok (.iaload, 1) := dLb_21.2.2.2.2.2.2.2.2.1
theorem dL_law_702 : decode cL_law 702 = .ok (.aload_n 0, 1) := dLb_21.2.2.2.2.2.2.2.2.2.1
theorem dL_law_703 : decode cL_law 703 = .ok (.iload 4, 2) := dLb_21.2.2.2.2.2.2.2.2.2.2.1
theorem dL_law_705 : decode cL_law 705 = .ok (.iconst 2, 1) := dLb_21.2.2.2.2.2.2.2.2.2.2.2.1
theorem dL_law_706 : decode cL_law 706 = .ok (.iadd, 1) := dLb_21.2.2.2.2.2.2.2.2.2.2.2.2.1
theorem dL_law_707 : decode cL_law 707 = .ok (.iaload, 1) := dLb_21.2.2.2.2.2.2.2.2.2.2.2.2.2.1
theorem dL_law_708 : decode cL_law 708 = .ok (.invokevirtual 206, 3) := dLb_21.2.2.2.2.2.2.2.2.2.2.2.2.2.2.1
theorem dL_law_711 : decode cL_law 711 = .ok (.istore 6, 2) := dLb_21.2.2.2.2.2.2.2.2.2.2.2.2.2.2.2
theorem dLb_22 : (decode cL_law 713 = .ok (.goto 1378, 3)) ∧ (decode cL_law 716 = .ok (.aload_n 1, 1)) ∧ (decode cL_law 717 = .ok (.aload_n 0, 1)) ∧ (decode cL_law 718 = .ok (.iload 4, 2)) ∧ (decode cL_law 720 = .ok (.iconst 1, 1)) ∧ (decode cL_law 721 = .ok (.iadd, 1)) ∧ (decode cL_law 722 = .ok (.iaload, 1)) ∧ (decode cL_law 723 = .ok (.aload_n 0, 1)) ∧ (decode cL_law 724 = .ok (.iload 4, 2)) ∧ (decode cL_law 726 = .ok (.iconst 2, 1)) ∧ (decode cL_law 727 = .ok (.iadd, 1)) ∧ (decode cL_law 728 = .ok (.iaload, 1)) ∧ (decode cL_law 729 = .ok (.aload_n 3, 1)) ∧ (decode cL_law 730 = .ok (.invokestatic 207, 3)) ∧ (decode cL_law 733 = .ok (.istore 5, 2)) ∧ (decode cL_law 735 = .ok (.aload_n 2, 1)) := by decide +kernel
theorem dL_law_713 : decode cL_law 713 = .ok (.goto 1378, 3) := dLb_22.1
theorem dL_law_716 : decode cL_law 716 = .ok (.aload_n 1, 1) := dLb_22.2.1
theorem dL_law_717 : decode cL_law 717 = .ok (.aload_n 0, 1) := dLb_22.2.2.1
theorem dL_law_718 : decode cL_law 718 = .ok (.iload 4, 2) := dLb_22.2.2.2.1
theorem dL_law_720 : decode cL_law 720 = .ok (.iconst 1, 1) := dLb_22.2.2.2.2.1
theorem dL_law_721 : decode cL_law 721 = .ok (.iadd, 1) := dLb_22.2.2.2.2.2.1
theorem dL_law_722 : decode cL_law 722 = .ok (.iaload, 1) := dLb_22.2.2.2.2.2.2.1
theorem dL_law_723 : decode cL_law 723 = .ok (.aload_n 0, 1) := dLb_22.2.2.2.2.2.2.2.1
theorem dL_law_724 : decode cL_law 724 = .ok (.iload 4, 2) := dLb_22.2.2.2.2.2.2.2.2.1
theorem dL_law_726 : decode cL_law 726 = .ok (.iconst 2, 1) := dLb_22.2.2.2.2.2.2.2.2.2.1
theorem dL_law_727 : decode cL_law 727 = .ok (.iadd, 1) := dLb_22.2.2.2.2.2.2.2.2.2.2.1
theorem dL_law_728 : decode cL_law 728 = .ok (.iaload, 1) := dLb_22.2.2.2.2.2.2.2.2.2.2.2.1
theorem dL_law_729 : decode cL_law 729 = .ok (.aload_n 3, 1) := dLb_22.2.2.2.2.2.2.2.2.2.2.2.2.1
theorem dL_law_730 : decode cL_law 730 = .ok (.invokestatic 207, 3) := dLb_22.2.2.2.2.2.2.2.2.2.2.2.2.2.1
theorem dL_law_733 : decode cL_law 733 = .ok (.istore 5, 2) := dLb_22.2.2.2.2.2.2.2.2.2.2.2.2.2.2.1
theorem dL_law_735 : decode cL_law 735 = .ok (.aload_n 2, 1) := dLb_22.2.2.2.2.2.2.2.2.2.2.2.2.2.2.2
theorem dLb_23 : (decode cL_law 736 = .ok (.aload_n 0, 1)) ∧ (decode cL_law 737 = .ok (.iload 4, 2)) ∧ (decode cL_law 739 = .ok (.iconst 1, 1)) ∧ (decode cL_law 740 = .ok (.iadd, 1)) ∧ (decode cL_law 741 = .ok (.iaload, 1)) ∧ (decode cL_law 742 = .ok (.aload_n 0, 1)) ∧ (decode cL_law 743 = .ok (.iload 4, 2)) ∧ (decode cL_law 745 = .ok (.iconst 2, 1)) ∧ (decode cL_law 746 = .ok (.iadd, 1)) ∧ (decode cL_law 747 = .ok (.iaload, 1)) ∧ (decode cL_law 748 = .ok (.invokevirtual 209, 3)) ∧ (decode cL_law 751 = .ok (.istore 6, 2)) ∧ (decode cL_law 753 = .ok (.goto 1338, 3)) ∧ (decode cL_law 756 = .ok (.aload_n 1, 1)) ∧ (decode cL_law 757 = .ok (.aload_n 0, 1)) ∧ (decode cL_law 758 = .ok (.iload 4, 2)) := by decide +kernel
theorem dL_law_736 : decode cL_law 736 = .ok (.aload_n 0, 1) := dLb_23.1
theorem dL_law_737 : decode cL_law 737 = .ok (.iload 4, 2) := dLb_23.2.1
theorem dL_law_739 : decode cL_law 739 = .ok (.iconst 1, 1) := dLb_23.2.2.1
theorem dL_law_740 : decode cL_law 740 = .ok (.iadd, 1) := dLb_23.2.2.2.1
theorem dL_law_741 : decode cL_law 741 = .ok (.iaload, 1) := dLb_23.2.2.2.2.1
theorem dL_law_742 : decode cL_law 742 = .ok (.aload_n 0, 1) := dLb_23.2.2.2.2.2.1
theorem dL_law_743 : decode cL_law 743 = .ok (.iload 4, 2) := dLb_23.2.2.2.2.2.2.1
theorem dL_law_745 : decode cL_law 745 = .ok (.iconst 2, 1) := dLb_23.2.2.2.2.2.2.2.1
theorem dL_law_746 : decode cL_law 746 = .ok (.iadd, 1) := dLb_23.2.2.2.2.2.2.2.2.1
theorem dL_law_747 : decode cL_law 747 = .ok (.iaload, 1) := dLb_23.2.2.2.2.2.2.2.2.2.1
theorem dL_law_748 : decode cL_law 748 = .ok (.invokevirtual 209, 3) := dLb_23.2.2.2.2.2.2.2.2.2.2.1
theorem dL_law_751 : decode cL_law 751 = .ok (.istore 6, 2) := dLb_23.2.2.2.2.2.2.2.2.2.2.2.1
theorem dL_law_753 : decode cL_law 753 = .ok (.goto 1338, 3) := dLb_23.2.2.2.2.2.2.2.2.2.2.2.2.1
theorem dL_law_756 : decode cL_law 756 = .ok (.aload_n 1, 1) := dLb_23.2.2.2.2.2.2.2.2.2.2.2.2.2.1
theorem dL_law_757 : decode cL_law 757 = .ok (.aload_n 0, 1) := dLb_23.2.2.2.2.2.2.2.2.2.2.2.2.2.2.1
theorem dL_law_758 : decode cL_law 758 = .ok (.iload 4, 2) := dLb_23.2.2.2.2.2.2.2.2.2.2.2.2.2.2.2
theorem dLb_24 : (decode cL_law 760 = .ok (.iconst 1, 1)) ∧ (decode cL_law 761 = .ok (.iadd, 1)) ∧ (decode cL_law 762 = .ok (.iaload, 1)) ∧ (decode cL_law 763 = .ok (.aload_n 0, 1)) ∧ (decode cL_law 764 = .ok (.iload 4, 2)) ∧ (decode cL_law 766 = .ok (.iconst 2, 1)) ∧ (decode cL_law 767 = .ok (.iadd, 1)) ∧ (decode cL_law 768 = .ok (.iaload, 1)) ∧ (decode cL_law 769 = .ok (.aload_n 3, 1)) ∧ (decode cL_law 770 = .ok (.invokestatic 210, 3)) ∧ (decode cL_law 773 = .ok (.istore 5, 2)) ∧ (decode cL_law 775 = .ok (.aload_n 2, 1)) ∧ (decode cL_law 776 = .ok (.aload_n 0, 1)) ∧ (decode cL_law 777 = .ok (.iload 4, 2)) ∧ (decode cL_law 779 = .ok (.iconst 1, 1)) ∧ (decode cL_law 780 = .ok (.iadd, 1)) := by decide +kernel
theorem dL_law_760 : decode cL_law 760 = .ok (.iconst 1, 1) := dLb_24.1
theorem dL_law_761 : decode cL_law 761 = .ok (.iadd, 1) := dLb_24.2.1
theorem dL_law_762 : decode cL_law 762 = .ok (.iaload, 1) := dLb_24.2.2.1
theorem dL_law_763 : decode cL_law 763 = .ok (.aload_n 0, 1) := dLb_24.2.2.2.1
theorem dL_law_764 : decode cL_law 764 = .ok (.iload 4, 2) := dLb_24.2.2.2.2.1
theorem dL_law_766 : decode cL_law 766 = .ok (.iconst 2, 1) := dLb_24.2.2.2.2.2.1
theorem dL_law_767 : decode cL_law 767 = .ok (.iadd, 1) := dLb_24.2.2.2.2.2.2.1
theorem dL_law_768 : decode cL_law 768 = .ok (.iaload, 1) := dLb_24.2.2.2.2.2.2.2.1
theorem dL_law_769 : decode cL_law 769 = .ok (.aload_n 3, 1) := dLb_24.2.2.2.2.2.2.2.2.1
theorem dL_law_770 : decode cL_law 770 = .ok (.invokestatic 210, 3) := dLb_24.2.2.2.2.2.2.2.2.2.1
theorem dL_law_773 : decode cL_law 773 = .ok (.istore 5, 2) := dLb_24.2.2.2.2.2.2.2.2.2.2.1
theorem dL_law_775 : decode cL_law 775 = .ok (.aload_n 2, 1) := dLb_24.2.2.2.2.2.2.2.2.2.2.2.1
theorem dL_law_776 : decode cL_law 776 = .ok (.aload_n 0, 1) := dLb_24.2.2.2.2.2.2.2.2.2.2.2.2.1
theorem dL_law_777 : decode cL_law 777 = .ok (.iload 4, 2) := dLb_24.2.2.2.2.2.2.2.2.2.2.2.2.2.1
theorem dL_law_779 : decode cL_law 779 = .ok (.iconst 1, 1) := dLb_24.2.2.2.2.2.2.2.2.2.2.2.2.2.2.1
theorem dL_law_780 : decode cL_law 780 = .ok (.iadd, 1) := dLb_24.2.2.2.2.2.2.2.2.2.2.2.2.2.2.2
theorem dLb_25 : (decode cL_law 781 = .ok (.iaload, 1)) ∧ (decode cL_law 782 = .ok (.aload_n 0, 1)) ∧ (decode cL_law 783 = .ok (.iload 4, 2)) ∧ (decode cL_law 785 = .ok (.iconst 2, 1)) ∧ (decode cL_law 786 = .ok (.iadd, 1)) ∧ (decode cL_law 787 = .ok (.iaload, 1)) ∧ (decode cL_law 788 = .ok (.invokevirtual 212, 3)) ∧ (decode cL_law 791 = .ok (.istore 6, 2)) ∧ (decode cL_law 793 = .ok (.goto 1298, 3)) ∧ (decode cL_law 796 = .ok (.aload_n 1, 1)) ∧ (decode cL_law 797 = .ok (.aload_n 0, 1)) ∧ (decode cL_law 798 = .ok (.iload 4, 2)) ∧ (decode cL_law 800 = .ok (.iconst 1, 1)) ∧ (decode cL_law 801 = .ok (.iadd, 1)) ∧ (decode cL_law 802 = .ok (.iaload, 1)) ∧ (decode cL_law 803 = .ok (.aload_n 0, 1)) := by decide +kernel
theorem dL_law_781 : decode cL_law 781 = .ok (.iaload, 1) := dLb_25.1
theorem dL_law_782 : decode cL_law 782 = .ok (.aload_n 0, 1) := dLb_25.2.1
theorem dL_law_783 : decode cL_law 783 = .ok (.iload 4, 2) := dLb_25.2.2.1
theorem dL_law_785 : decode cL_law 785 = .ok (.iconst 2, 1) := dLb_25.2.2.2.1
theorem dL_law_786 : decode cL_law 786 = .ok (.iadd, 1) := dLb_25.2.2.2.2.1
theorem dL_law_787 : decode cL_law 787 = .ok (.iaload, 1) := dLb_25.2.2.2.2.2.1
theorem dL_law_788 : decode cL_law 788 = .ok (.invokevirtual 212, 3) := dLb_25.2.2.2.2.2.2.1
theorem dL_law_791 : decode cL_law 791 = .ok (.istore 6, 2) := dLb_25.2.2.2.2.2.2.2.1
theorem dL_law_793 : decode cL_law 793 = .ok (.goto 1298, 3) := dLb_25.2.2.2.2.2.2.2.2.1
theorem dL_law_796 : decode cL_law 796 = .ok (.aload_n 1, 1) := dLb_25.2.2.2.2.2.2.2.2.2.1
theorem dL_law_797 : decode cL_law 797 = .ok (.aload_n 0, 1) := dLb_25.2.2.2.2.2.2.2.2.2.2.1
theorem dL_law_798 : decode cL_law 798 = .ok (.iload 4, 2) := dLb_25.2.2.2.2.2.2.2.2.2.2.2.1
theorem dL_law_800 : decode cL_law 800 = .ok (.iconst 1, 1) := dLb_25.2.2.2.2.2.2.2.2.2.2.2.2.1
theorem dL_law_801 : decode cL_law 801 = .ok (.iadd, 1) := dLb_25.2.2.2.2.2.2.2.2.2.2.2.2.2.1
theorem dL_law_802 : decode cL_law 802 = .ok (.iaload, 1) := dLb_25.2.2.2.2.2.2.2.2.2.2.2.2.2.2.1
theorem dL_law_803 : decode cL_law 803 = .ok (.aload_n 0, 1) := dLb_25.2.2.2.2.2.2.2.2.2.2.2.2.2.2.2
theorem dLb_26 : (decode cL_law 804 = .ok (.iload 4, 2)) ∧ (decode cL_law 806 = .ok (.iconst 2, 1)) ∧ (decode cL_law 807 = .ok (.iadd, 1)) ∧ (decode cL_law 808 = .ok (.iaload, 1)) ∧ (decode cL_law 809 = .ok (.aload_n 3, 1)) ∧ (decode cL_law 810 = .ok (.invokestatic 213, 3)) ∧ (decode cL_law 813 = .ok (.istore 5, 2)) ∧ (decode cL_law 815 = .ok (.aload_n 2, 1)) ∧ (decode cL_law 816 = .ok (.aload_n 0, 1)) ∧ (decode cL_law 817 = .ok (.iload 4, 2)) ∧ (decode cL_law 819 = .ok (.iconst 1, 1)) ∧ (decode cL_law 820 = .ok (.iadd, 1)) ∧ (decode cL_law 821 = .ok (.iaload, 1)) ∧ (decode cL_law 822 = .ok (.aload_n 0, 1)) ∧ (decode cL_law 823 = .ok (.iload 4, 2)) ∧ (decode cL_law 825 = .ok (.iconst 2, 1)) := by decide +kernel
theorem dL_law_804 : decode cL_law 804 = .ok (.iload 4, 2) := dLb_26.1
theorem dL_law_806 : decode cL_law 806 = .ok (.iconst 2, 1) := dLb_26.2.1
theorem dL_law_807 : decode cL_law 807 = .ok (.iadd, 1) := dLb_26.2.2.1
theorem dL_law_808 : decode cL_law 808 = .ok (.iaload, 1) := dLb_26.2.2.2.1
theorem dL_law_809 : decode cL_law 809 = .ok (.aload_n 3, 1) := dLb_26.2.2.2.2.1
theorem dL_law_810 : decode cL_law 810 = .ok (.invokestatic 213, 3) := dLb_26.2.2.2.2.2.1
theorem dL_law_813 : decode cL_law 813 = .ok (.istore 5, 2) := dLb_26.2.2.2.2.2.2.1
theorem dL_law_815 : decode cL_law 815 = .ok (.aload_n 2, 1) := dLb_26.2.2.2.2.2.2.2.1
theorem dL_law_816 : decode cL_law 816 = .ok (.aload_n 0, 1) := dLb_26.2.2.2.2.2.2.2.2.1
theorem dL_law_817 : decode cL_law 817 = .ok (.iload 4, 2) := dLb_26.2.2.2.2.2.2.2.2.2.1
theorem dL_law_819 : decode cL_law 819 = .ok (.iconst 1, 1) := dLb_26.2.2.2.2.2.2.2.2.2.2.1
theorem dL_law_820 : decode cL_law 820 = .ok (.iadd, 1) := dLb_26.2.2.2.2.2.2.2.2.2.2.2.1
theorem dL_law_821 : decode cL_law 821 = .ok (.iaload, 1) := dLb_26.2.2.2.2.2.2.2.2.2.2.2.2.1
theorem dL_law_822 : decode cL_law 822 = .ok (.aload_n 0, 1) := dLb_26.2.2.2.2.2.2.2.2.2.2.2.2.2.1
theorem dL_law_823 : decode cL_law 823 = .ok (.iload 4, 2) := dLb_26.2.2.2.2.2.2.2.2.2.2.2.2.2.2.1
theorem dL_law_825 : decode cL_law 825 = .ok (.iconst 2, 1) := dLb_26.2.2.2.2.2.2.2.2.2.2.2.2.2.2.2
theorem dLb_27 : (decode cL_law 826 = .ok (.iadd, 1)) ∧ (decode cL_law 827 = .ok (.iaload, 1)) ∧ (decode cL_law 828 = .ok (.invokevirtual 215, 3)) ∧ (decode cL_law 831 = .ok (.istore 6, 2)) ∧ (decode cL_law 833 = .ok (.goto 1258, 3)) ∧ (decode cL_law 836 = .ok (.aload_n 1, 1)) ∧ (decode cL_law 837 = .ok (.aload_n 0, 1)) ∧ (decode cL_law 838 = .ok (.iload 4, 2)) ∧ (decode cL_law 840 = .ok (.iconst 1, 1)) ∧ (decode cL_law 841 = .ok (.iadd, 1)) ∧ (decode cL_law 842 = .ok (.iaload, 1)) ∧ (decode cL_law 843 = .ok (.aload_n 0, 1)) ∧ (decode cL_law 844 = .ok (.iload 4, 2)) ∧ (decode cL_law 846 = .ok (.iconst 2, 1)) ∧ (decode cL_law 847 = .ok (.iadd, 1)) ∧ (decode cL_law 848 = .ok (.iaload, 1)) := by decide +kernel
theorem dL_law_826 : decode cL_law 826 = .ok (.iadd, 1) := dLb_27.1
theorem dL_law_827 : decode cL_law 827 = .ok (.iaload, 1) := dLb_27.2.1
theorem dL_law_828 : decode cL_law 828 = .ok (.invokevirtual 215, 3) := dLb_27.2.2.1
theorem dL_law_831 : decode cL_law 831 = .ok (.istore 6, 2) := dLb_27.2.2.2.1
theorem dL_law_833 : decode cL_law 833 = .ok (.goto 1258, 3) := dLb_27.2.2.2.2.1
theorem dL_law_836 : decode cL_law 836 = .ok (.aload_n 1, 1) := dLb_27.2.2.2.2.2.1
theorem dL_law_837 : decode cL_law 837 = .ok (.aload_n 0, 1) := dLb_27.2.2.2.2.2.2.1
theorem dL_law_838 : decode cL_law 838 = .ok (.iload 4, 2) := dLb_27.2.2.2.2.2.2.2.1
theorem dL_law_840 : decode cL_law 840 = .ok (.iconst 1, 1) := dLb_27.2.2.2.2.2.2.2.2.1
theorem dL_law_841 : decode cL_law 841 = .ok (.iadd, 1) := dLb_27.2.2.2.2.2.2.2.2.2.1
theorem dL_law_842 : decode cL_law 842 = .ok (.iaload, 1) := dLb_27.2.2.2.2.2.2.2.2.2.2.1
theorem dL_law_843 : decode cL_law 843 = .ok (.aload_n 0, 1) := dLb_27.2.2.2.2.2.2.2.2.2.2.2.1
theorem dL_law_844 : decode cL_law 844 = .ok (.iload 4, 2) := dLb_27.2.2.2.2.2.2.2.2.2.2.2.2.1
theorem dL_law_846 : decode cL_law 846 = .ok (.iconst 2, 1) := dLb_27.2.2.2.2.2.2.2.2.2.2.2.2.2.1
theorem dL_law_847 : decode cL_law 847 = .ok (.iadd, 1) := dLb_27.2.2.2.2.2.2.2.2.2.2.2.2.2.2.1
theorem dL_law_848 : decode cL_law 848 = .ok (.iaload, 1) := dLb_27.2.2.2.2.2.2.2.2.2.2.2.2.2.2.2
theorem dLb_28 : (decode cL_law 849 = .ok (.aload_n 3, 1)) ∧ (decode cL_law 850 = .ok (.invokestatic 216, 3)) ∧ (decode cL_law 853 = .ok (.istore 5, 2)) ∧ (decode cL_law 855 = .ok (.aload_n 2, 1)) ∧ (decode cL_law 856 = .ok (.aload_n 0, 1)) ∧ (decode cL_law 857 = .ok (.iload 4, 2)) ∧ (decode cL_law 859 = .ok (.iconst 1, 1)) ∧ (decode cL_law 860 = .ok (.iadd, 1)) ∧ (decode cL_law 861 = .ok (.iaload, 1)) ∧ (decode cL_law 862 = .ok (.aload_n 0, 1)) ∧ (decode cL_law 863 = .ok (.iload 4, 2)) ∧ (decode cL_law 865 = .ok (.iconst 2, 1)) ∧ (decode cL_law 866 = .ok (.iadd, 1)) ∧ (decode cL_law 867 = .ok (.iaload, 1)) ∧ (decode cL_law 868 = .ok (.invokevirtual 218, 3)) ∧ (decode cL_law 871 = .ok (.istore 6, 2)) := by decide +kernel
theorem dL_law_849 : decode cL_law 849 = .ok (.aload_n 3, 1) := dLb_28.1
theorem dL_law_850 : decode cL_law 850 = .ok (.invokestatic 216, 3) := dLb_28.2.1
theorem dL_law_853 : decode cL_law 853 = .ok (.istore 5, 2) := dLb_28.2.2.1
theorem dL_law_855 : decode cL_law 855 = .ok (.aload_n 2, 1) := dLb_28.2.2.2.1
theorem dL_law_856 : decode cL_law 856 = .ok (.aload_n 0, 1) := dLb_28.2.2.2.2.1
theorem dL_law_857 : decode cL_law 857 = .ok (.iload 4, 2) := dLb_28.2.2.2.2.2.1
theorem dL_law_859 : decode cL_law 859 = .ok (.iconst 1, 1) := dLb_28.2.2.2.2.2.2.1
theorem dL_law_860 : decode cL_law 860 = .ok (.iadd, 1) := dLb_28.2.2.2.2.2.2.2.1
theorem dL_law_861 : decode cL_law 861 = .ok (.iaload, 1) := dLb_28.2.2.2.2.2.2.2.2.1
theorem dL_law_862 : decode cL_law 862 = .ok (.aload_n 0, 1) := dLb_28.2.2.2.2.2.2.2.2.2.1
theorem dL_law_863 : decode cL_law 863 = .ok (.iload 4, 2) := dLb_28.2.2.2.2.2.2.2.2.2.2.1
theorem dL_law_865 : decode cL_law 865 = .ok (.iconst 2, 1) := dLb_28.2.2.2.2.2.2.2.2.2.2.2.1
theorem dL_law_866 : decode cL_law 866 = .ok (.iadd, 1) := dLb_28.2.2.2.2.2.2.2.2.2.2.2.2.1
theorem dL_law_867 : decode cL_law 867 = .ok (.iaload, 1) := dLb_28.2.2.2.2.2.2.2.2.2.2.2.2.2.1
theorem dL_law_868 : decode cL_law 868 = .ok (.invokevirtual 218, 3) := dLb_28.2.2.2.2.2.2.2.2.2.2.2.2.2.2.1
theorem dL_law_871 : decode cL_law 871 = .ok (.istore 6, 2) := dLb_28.2.2.2.2.2.2.2.2.2.2.2.2.2.2.2
theorem dLb_29 : (decode cL_law 873 = .ok (.goto 1218, 3)) ∧ (decode cL_law 876 = .ok (.aload_n 1, 1)) ∧ (decode cL_law 877 = .ok (.aload_n 0, 1)) ∧ (decode cL_law 878 = .ok (.iload 4, 2)) ∧ (decode cL_law 880 = .ok (.iconst 1, 1)) ∧ (decode cL_law 881 = .ok (.iadd, 1)) ∧ (decode cL_law 882 = .ok (.iaload, 1)) ∧ (decode cL_law 883 = .ok (.aload_n 0, 1)) ∧ (decode cL_law 884 = .ok (.iload 4, 2)) ∧ (decode cL_law 886 = .ok (.iconst 2, 1)) ∧ (decode cL_law 887 = .ok (.iadd, 1)) ∧ (decode cL_law 888 = .ok (.iaload, 1)) ∧ (decode cL_law 889 = .ok (.aload_n 3, 1)) ∧ (decode cL_law 890 = .ok (.invokestatic 219, 3)) ∧ (decode cL_law 893 = .ok (.istore 5, 2)) ∧ (decode cL_law 895 = .ok (.aload_n 2, 1)) := by decide +kernel
theorem dL_law_873 : decode cL_law 873 = .ok (.goto 1218, 3) := dLb_29.1
theorem dL_law_876 : decode cL_law 876 = .ok (.aload_n 1, 1) := dLb_29.2.1
theorem dL_law_877 : decode cL_law 877 = .ok (.aload_n 0, 1) := dLb_29.2.2.1
theorem dL_law_878 : decode cL_law 878 = .ok (.iload 4, 2) := dLb_29.2.2.2.1
theorem dL_law_880 : decode cL_law 880 = .ok (.iconst 1, 1) := dLb_29.2.2.2.2.1
theorem dL_law_881 : decode cL_law 881 = .ok (.iadd, 1) := dLb_29.2.2.2.2.2.1
theorem dL_law_882 : decode cL_law 882 = .ok (.iaload, 1) := dLb_29.2.2.2.2.2.2.1
theorem dL_law_883 : decode cL_law 883 = .ok (.aload_n 0, 1) := dLb_29.2.2.2.2.2.2.2.1
theorem dL_law_884 : decode cL_law 884 = .ok (.iload 4, 2) := dLb_29.2.2.2.2.2.2.2.2.1
theorem dL_law_886 : decode cL_law 886 = .ok (.iconst 2, 1) := dLb_29.2.2.2.2.2.2.2.2.2.1
theorem dL_law_887 : decode cL_law 887 = .ok (.iadd, 1) := dLb_29.2.2.2.2.2.2.2.2.2.2.1
theorem dL_law_888 : decode cL_law 888 = .ok (.iaload, 1) := dLb_29.2.2.2.2.2.2.2.2.2.2.2.1
theorem dL_law_889 : decode cL_law 889 = .ok (.aload_n 3, 1) := dLb_29.2.2.2.2.2.2.2.2.2.2.2.2.1
theorem dL_law_890 : decode cL_law 890 = .ok (.invokestatic 219, 3) := dLb_29.2.2.2.2.2.2.2.2.2.2.2.2.2.1
theorem dL_law_893 : decode cL_law 893 = .ok (.istore 5, 2) := dLb_29.2.2.2.2.2.2.2.2.2.2.2.2.2.2.1
theorem dL_law_895 : decode cL_law 895 = .ok (.aload_n 2, 1) := dLb_29.2.2.2.2.2.2.2.2.2.2.2.2.2.2.2
theorem dLb_30 : (decode cL_law 896 = .ok (.aload_n 0, 1)) ∧ (decode cL_law 897 = .ok (.iload 4, 2)) ∧ (decode cL_law 899 = .ok (.iconst 1, 1)) ∧ (decode cL_law 900 = .ok (.iadd, 1)) ∧ (decode cL_law 901 = .ok (.iaload, 1)) ∧ (decode cL_law 902 = .ok (.aload_n 0, 1)) ∧ (decode cL_law 903 = .ok (.iload 4, 2)) ∧ (decode cL_law 905 = .ok (.iconst 2, 1)) ∧ (decode cL_law 906 = .ok (.iadd, 1)) ∧ (decode cL_law 907 = .ok (.iaload, 1)) ∧ (decode cL_law 908 = .ok (.invokevirtual 221, 3)) ∧ (decode cL_law 911 = .ok (.istore 6, 2)) ∧ (decode cL_law 913 = .ok (.goto 1178, 3)) ∧ (decode cL_law 916 = .ok (.aload_n 1, 1)) ∧ (decode cL_law 917 = .ok (.aload_n 0, 1)) ∧ (decode cL_law 918 = .ok (.iload 4, 2)) := by decide +kernel
theorem dL_law_896 : decode cL_law 896 = .ok (.aload_n 0, 1) := dLb_30.1
theorem dL_law_897 : decode cL_law 897 = .ok (.iload 4, 2) := dLb_30.2.1
theorem dL_law_899 : decode cL_law 899 = .ok (.iconst 1, 1) := dLb_30.2.2.1
theorem dL_law_900 : decode cL_law 900 = .ok (.iadd, 1) := dLb_30.2.2.2.1
theorem dL_law_901 : decode cL_law 901 = .ok (.iaload, 1) := dLb_30.2.2.2.2.1
theorem dL_law_902 : decode cL_law 902 = .ok (.aload_n 0, 1) := dLb_30.2.2.2.2.2.1
theorem dL_law_903 : decode cL_law 903 = .ok (.iload 4, 2) := dLb_30.2.2.2.2.2.2.1
theorem dL_law_905 : decode cL_law 905 = .ok (.iconst 2, 1) := dLb_30.2.2.2.2.2.2.2.1
theorem dL_law_906 : decode cL_law 906 = .ok (.iadd, 1) := dLb_30.2.2.2.2.2.2.2.2.1
theorem dL_law_907 : decode cL_law 907 = .ok (.iaload, 1) := dLb_30.2.2.2.2.2.2.2.2.2.1
theorem dL_law_908 : decode cL_law 908 = .ok (.invokevirtual 221, 3) := dLb_30.2.2.2.2.2.2.2.2.2.2.1
theorem dL_law_911 : decode cL_law 911 = .ok (.istore 6, 2) := dLb_30.2.2.2.2.2.2.2.2.2.2.2.1
theorem dL_law_913 : decode cL_law 913 = .ok (.goto 1178, 3) := dLb_30.2.2.2.2.2.2.2.2.2.2.2.2.1
theorem dL_law_916 : decode cL_law 916 = .ok (.aload_n 1, 1) := dLb_30.2.2.2.2.2.2.2.2.2.2.2.2.2.1
theorem dL_law_917 : decode cL_law 917 = .ok (.aload_n 0, 1) := dLb_30.2.2.2.2.2.2.2.2.2.2.2.2.2.2.1
theorem dL_law_918 : decode cL_law 918 = .ok (.iload 4, 2) := dLb_30.2.2.2.2.2.2.2.2.2.2.2.2.2.2.2
theorem dLb_31 : (decode cL_law 920 = .ok (.iconst 1, 1)) ∧ (decode cL_law 921 = .ok (.iadd, 1)) ∧ (decode cL_law 922 = .ok (.iaload, 1)) ∧ (decode cL_law 923 = .ok (.aload_n 0, 1)) ∧ (decode cL_law 924 = .ok (.iload 4, 2)) ∧ (decode cL_law 926 = .ok (.iconst 2, 1)) ∧ (decode cL_law 927 = .ok (.iadd, 1)) ∧ (decode cL_law 928 = .ok (.iaload, 1)) ∧ (decode cL_law 929 = .ok (.aload_n 3, 1)) ∧ (decode cL_law 930 = .ok (.invokestatic 222, 3)) ∧ (decode cL_law 933 = .ok (.istore 5, 2)) ∧ (decode cL_law 935 = .ok (.aload_n 2, 1)) ∧ (decode cL_law 936 = .ok (.aload_n 0, 1)) ∧ (decode cL_law 937 = .ok (.iload 4, 2)) ∧ (decode cL_law 939 = .ok (.iconst 1, 1)) ∧ (decode cL_law 940 = .ok (.iadd, 1)) := by decide +kernel
theorem dL_law_920 : decode cL_law 920 = .ok (.iconst 1, 1) := dLb_31.1
theorem dL_law_921 : decode cL_law 921 = .ok (.iadd, 1) := dLb_31.2.1
theorem dL_law_922 : decode cL_law 922 = .ok (.iaload, 1) := dLb_31.2.2.1
theorem dL_law_923 : decode cL_law 923 = .ok (.aload_n 0, 1) := dLb_31.2.2.2.1
theorem dL_law_924 : decode cL_law 924 = .ok (.iload 4, 2) := dLb_31.2.2.2.2.1
theorem dL_law_926 : decode cL_law 926 = .ok (.iconst 2, 1) := dLb_31.2.2.2.2.2.1
theorem dL_law_927 : decode cL_law 927 = .ok (.iadd, 1) := dLb_31.2.2.2.2.2.2.1
theorem dL_law_928 : decode cL_law 928 = .ok (.iaload, 1) := dLb_31.2.2.2.2.2.2.2.1
theorem dL_law_929 : decode cL_law 929 = .ok (.aload_n 3, 1) := dLb_31.2.2.2.2.2.2.2.2.1
theorem dL_law_930 : decode cL_law 930 = .ok (.invokestatic 222, 3) := dLb_31.2.2.2.2.2.2.2.2.2.1
theorem dL_law_933 : decode cL_law 933 = .ok (.istore 5, 2) := dLb_31.2.2.2.2.2.2.2.2.2.2.1
theorem dL_law_935 : decode cL_law 935 = .ok (.aload_n 2, 1) := dLb_31.2.2.2.2.2.2.2.2.2.2.2.1
theorem dL_law_936 : decode cL_law 936 = .ok (.aload_n 0, 1) := dLb_31.2.2.2.2.2.2.2.2.2.2.2.2.1
theorem dL_law_937 : decode cL_law 937 = .ok (.iload 4, 2) := dLb_31.2.2.2.2.2.2.2.2.2.2.2.2.2.1
theorem dL_law_939 : decode cL_law 939 = .ok (.iconst 1, 1) := dLb_31.2.2.2.2.2.2.2.2.2.2.2.2.2.2.1
theorem dL_law_940 : decode cL_law 940 = .ok (.iadd, 1) := dLb_31.2.2.2.2.2.2.2.2.2.2.2.2.2.2.2
theorem dLb_32 : (decode cL_law 941 = .ok (.iaload, 1)) ∧ (decode cL_law 942 = .ok (.aload_n 0, 1)) ∧ (decode cL_law 943 = .ok (.iload 4, 2)) ∧ (decode cL_law 945 = .ok (.iconst 2, 1)) ∧ (decode cL_law 946 = .ok (.iadd, 1)) ∧ (decode cL_law 947 = .ok (.iaload, 1)) ∧ (decode cL_law 948 = .ok (.invokevirtual 224, 3)) ∧ (decode cL_law 951 = .ok (.istore 6, 2)) ∧ (decode cL_law 953 = .ok (.goto 1138, 3)) ∧ (decode cL_law 956 = .ok (.aload_n 1, 1)) ∧ (decode cL_law 957 = .ok (.aload_n 0, 1)) ∧ (decode cL_law 958 = .ok (.iload 4, 2)) ∧ (decode cL_law 960 = .ok (.iconst 1, 1)) ∧ (decode cL_law 961 = .ok (.iadd, 1)) ∧ (decode cL_law 962 = .ok (.iaload, 1)) ∧ (decode cL_law 963 = .ok (.aload_n 0, 1)) := by decide +kernel
theorem dL_law_941 : decode cL_law 941 = .ok (.iaload, 1) := dLb_32.1
theorem dL_law_942 : decode cL_law 942 = .ok (.aload_n 0, 1) := dLb_32.2.1
theorem dL_law_943 : decode cL_law 943 = .ok (.iload 4, 2) := dLb_32.2.2.1
theorem dL_law_945 : decode cL_law 945 = .ok (.iconst 2, 1) := dLb_32.2.2.2.1
theorem dL_law_946 : decode cL_law 946 = .ok (.iadd, 1) := dLb_32.2.2.2.2.1
theorem dL_law_947 : decode cL_law 947 = .ok (.iaload, 1) := dLb_32.2.2.2.2.2.1
theorem dL_law_948 : decode cL_law 948 = .ok (.invokevirtual 224, 3) := dLb_32.2.2.2.2.2.2.1
theorem dL_law_951 : decode cL_law 951 = .ok (.istore 6, 2) := dLb_32.2.2.2.2.2.2.2.1
theorem dL_law_953 : decode cL_law 953 = .ok (.goto 1138, 3) := dLb_32.2.2.2.2.2.2.2.2.1
theorem dL_law_956 : decode cL_law 956 = .ok (.aload_n 1, 1) := dLb_32.2.2.2.2.2.2.2.2.2.1
theorem dL_law_957 : decode cL_law 957 = .ok (.aload_n 0, 1) := dLb_32.2.2.2.2.2.2.2.2.2.2.1
theorem dL_law_958 : decode cL_law 958 = .ok (.iload 4, 2) := dLb_32.2.2.2.2.2.2.2.2.2.2.2.1
theorem dL_law_960 : decode cL_law 960 = .ok (.iconst 1, 1) := dLb_32.2.2.2.2.2.2.2.2.2.2.2.2.1
theorem dL_law_961 : decode cL_law 961 = .ok (.iadd, 1) := dLb_32.2.2.2.2.2.2.2.2.2.2.2.2.2.1
theorem dL_law_962 : decode cL_law 962 = .ok (.iaload, 1) := dLb_32.2.2.2.2.2.2.2.2.2.2.2.2.2.2.1
theorem dL_law_963 : decode cL_law 963 = .ok (.aload_n 0, 1) := dLb_32.2.2.2.2.2.2.2.2.2.2.2.2.2.2.2
theorem dLb_33 : (decode cL_law 964 = .ok (.iload 4, 2)) ∧ (decode cL_law 966 = .ok (.iconst 2, 1)) ∧ (decode cL_law 967 = .ok (.iadd, 1)) ∧ (decode cL_law 968 = .ok (.iaload, 1)) ∧ (decode cL_law 969 = .ok (.aload_n 3, 1)) ∧ (decode cL_law 970 = .ok (.invokestatic 225, 3)) ∧ (decode cL_law 973 = .ok (.istore 5, 2)) ∧ (decode cL_law 975 = .ok (.aload_n 2, 1)) ∧ (decode cL_law 976 = .ok (.aload_n 0, 1)) ∧ (decode cL_law 977 = .ok (.iload 4, 2)) ∧ (decode cL_law 979 = .ok (.iconst 1, 1)) ∧ (decode cL_law 980 = .ok (.iadd, 1)) ∧ (decode cL_law 981 = .ok (.iaload, 1)) ∧ (decode cL_law 982 = .ok (.aload_n 0, 1)) ∧ (decode cL_law 983 = .ok (.iload 4, 2)) ∧ (decode cL_law 985 = .ok (.iconst 2, 1)) := by decide +kernel
theorem dL_law_964 : decode cL_law 964 = .ok (.iload 4, 2) := dLb_33.1
theorem dL_law_966 : decode cL_law 966 = .ok (.iconst 2, 1) := dLb_33.2.1
theorem dL_law_967 : decode cL_law 967 = .ok (.iadd, 1) := dLb_33.2.2.1
theorem dL_law_968 : decode cL_law 968 = .ok (.iaload, 1) := dLb_33.2.2.2.1
theorem dL_law_969 : decode cL_law 969 = .ok (.aload_n 3, 1) := dLb_33.2.2.2.2.1
theorem dL_law_970 : decode cL_law 970 = .ok (.invokestatic 225, 3) := dLb_33.2.2.2.2.2.1
theorem dL_law_973 : decode cL_law 973 = .ok (.istore 5, 2) := dLb_33.2.2.2.2.2.2.1
theorem dL_law_975 : decode cL_law 975 = .ok (.aload_n 2, 1) := dLb_33.2.2.2.2.2.2.2.1
theorem dL_law_976 : decode cL_law 976 = .ok (.aload_n 0, 1) := dLb_33.2.2.2.2.2.2.2.2.1
theorem dL_law_977 : decode cL_law 977 = .ok (.iload 4, 2) := dLb_33.2.2.2.2.2.2.2.2.2.1
theorem dL_law_979 : decode cL_law 979 = .ok (.iconst 1, 1) := dLb_33.2.2.2.2.2.2.2.2.2.2.1
theorem dL_law_980 : decode cL_law 980 = .ok (.iadd, 1) := dLb_33.2.2.2.2.2.2.2.2.2.2.2.1
theorem dL_law_981 : decode cL_law 981 = .ok (.iaload, 1) := dLb_33.2.2.2.2.2.2.2.2.2.2.2.2.1
theorem dL_law_982 : decode cL_law 982 = .ok (.aload_n 0, 1) := dLb_33.2.2.2.2.2.2.2.2.2.2.2.2.2.1
theorem dL_law_983 : decode cL_law 983 = .ok (.iload 4, 2) := dLb_33.2.2.2.2.2.2.2.2.2.2.2.2.2.2.1
theorem dL_law_985 : decode cL_law 985 = .ok (.iconst 2, 1) := dLb_33.2.2.2.2.2.2.2.2.2.2.2.2.2.2.2
theorem dLb_34 : (decode cL_law 986 = .ok (.iadd, 1)) ∧ (decode cL_law 987 = .ok (.iaload, 1)) ∧ (decode cL_law 988 = .ok (.invokevirtual 227, 3)) ∧ (decode cL_law 991 = .ok (.istore 6, 2)) ∧ (decode cL_law 993 = .ok (.goto 1098, 3)) ∧ (decode cL_law 996 = .ok (.aload_n 1, 1)) ∧ (decode cL_law 997 = .ok (.aload_n 0, 1)) ∧ (decode cL_law 998 = .ok (.iload 4, 2)) ∧ (decode cL_law 1000 = .ok (.iconst 1, 1)) ∧ (decode cL_law 1001 = .ok (.iadd, 1)) ∧ (decode cL_law 1002 = .ok (.iaload, 1)) ∧ (decode cL_law 1003 = .ok (.aload_n 3, 1)) ∧ (decode cL_law 1004 = .ok (.invokestatic 228, 3)) ∧ (decode cL_law 1007 = .ok (.istore 5, 2)) ∧ (decode cL_law 1009 = .ok (.aload_n 2, 1)) ∧ (decode cL_law 1010 = .ok (.aload_n 0, 1)) := by decide +kernel
theorem dL_law_986 : decode cL_law 986 = .ok (.iadd, 1) := dLb_34.1
theorem dL_law_987 : decode cL_law 987 = .ok (.iaload, 1) := dLb_34.2.1
theorem dL_law_988 : decode cL_law 988 = .ok (.invokevirtual 227, 3) := dLb_34.2.2.1
theorem dL_law_991 : decode cL_law 991 = .ok (.istore 6, 2) := dLb_34.2.2.2.1
theorem dL_law_993 : decode cL_law 993 = .ok (.goto 1098, 3) := dLb_34.2.2.2.2.1
theorem dL_law_996 : decode cL_law 996 = .ok (.aload_n 1, 1) := dLb_34.2.2.2.2.2.1
theorem dL_law_997 : decode cL_law 997 = .ok (.aload_n 0, 1) := dLb_34.2.2.2.2.2.2.1
theorem dL_law_998 : decode cL_law 998 = .ok (.iload 4, 2) := dLb_34.2.2.2.2.2.2.2.1
theorem dL_law_1000 : decode cL_law 1000 = .ok (.iconst 1, 1) := dLb_34.2.2.2.2.2.2.2.2.1
theorem dL_law_1001 : decode cL_law 1001 = .ok (.iadd, 1) := dLb_34.2.2.2.2.2.2.2.2.2.1
theorem dL_law_1002 : decode cL_law 1002 = .ok (.iaload, 1) := dLb_34.2.2.2.2.2.2.2.2.2.2.1
theorem dL_law_1003 : decode cL_law 1003 = .ok (.aload_n 3, 1) := dLb_34.2.2.2.2.2.2.2.2.2.2.2.1
theorem dL_law_1004 : decode cL_law 1004 = .ok (.invokestatic 228, 3) := dLb_34.2.2.2.2.2.2.2.2.2.2.2.2.1
theorem dL_law_1007 : decode cL_law 1007 = .ok (.istore 5, 2) := dLb_34.2.2.2.2.2.2.2.2.2.2.2.2.2.1
theorem dL_law_1009 : decode cL_law 1009 = .ok (.aload_n 2, 1) := dLb_34.2.2.2.2.2.2.2.2.2.2.2.2.2.2.1
theorem dL_law_1010 : decode cL_law 1010 = .ok (.aload_n 0, 1) := dLb_34.2.2.2.2.2.2.2.2.2.2.2.2.2.2.2
theorem dLb_35 : (decode cL_law 1011 = .ok (.iload 4, 2)) ∧ (decode cL_law 1013 = .ok (.iconst 1, 1)) ∧ (decode cL_law 1014 = .ok (.iadd, 1)) ∧ (decode cL_law 1015 = .ok (.iaload, 1)) ∧ (decode cL_law 1016 = .ok (.invokevirtual 230, 3)) ∧ (decode cL_law 1019 = .ok (.istore 6, 2)) ∧ (decode cL_law 1021 = .ok (.goto 1070, 3)) ∧ (decode cL_law 1024 = .ok (.aload_n 1, 1)) ∧ (decode cL_law 1025 = .ok (.aload_n 0, 1)) ∧ (decode cL_law 1026 = .ok (.iload 4, 2)) ∧ (decode cL_law 1028 = .ok (.iconst 1, 1)) ∧ (decode cL_law 1029 = .ok (.iadd, 1)) ∧ (decode cL_law 1030 = .ok (.iaload, 1)) ∧ (decode cL_law 1031 = .ok (.aload_n 0, 1)) ∧ (decode cL_law 1032 = .ok (.iload 4, 2)) ∧ (decode cL_law 1034 = .ok (.iconst 2, 1)) := by decide +kernel
theorem dL_law_1011 : decode cL_law 1011 = .ok (.iload 4, 2) := dLb_35.1
theorem dL_law_1013 : decode cL_law 1013 = .ok (.iconst 1, 1) := dLb_35.2.1
theorem dL_law_1014 : decode cL_law 1014 = .ok (.iadd, 1) := dLb_35.2.2.1
theorem dL_law_1015 : decode cL_law 1015 = .ok (.iaload, 1) := dLb_35.2.2.2.1
theorem dL_law_1016 : decode cL_law 1016 = .ok (.invokevirtual 230, 3) := dLb_35.2.2.2.2.1
theorem dL_law_1019 : decode cL_law 1019 = .ok (.istore 6, 2) := dLb_35.2.2.2.2.2.1
theorem dL_law_1021 : decode cL_law 1021 = .ok (.goto 1070, 3) := dLb_35.2.2.2.2.2.2.1
theorem dL_law_1024 : decode cL_law 1024 = .ok (.aload_n 1, 1) := dLb_35.2.2.2.2.2.2.2.1
theorem dL_law_1025 : decode cL_law 1025 = .ok (.aload_n 0, 1) := dLb_35.2.2.2.2.2.2.2.2.1
theorem dL_law_1026 : decode cL_law 1026 = .ok (.iload 4, 2) := dLb_35.2.2.2.2.2.2.2.2.2.1
theorem dL_law_1028 : decode cL_law 1028 = .ok (.iconst 1, 1) := dLb_35.2.2.2.2.2.2.2.2.2.2.1
theorem dL_law_1029 : decode cL_law 1029 = .ok (.iadd, 1) := dLb_35.2.2.2.2.2.2.2.2.2.2.2.1
theorem dL_law_1030 : decode cL_law 1030 = .ok (.iaload, 1) := dLb_35.2.2.2.2.2.2.2.2.2.2.2.2.1
theorem dL_law_1031 : decode cL_law 1031 = .ok (.aload_n 0, 1) := dLb_35.2.2.2.2.2.2.2.2.2.2.2.2.2.1
theorem dL_law_1032 : decode cL_law 1032 = .ok (.iload 4, 2) := dLb_35.2.2.2.2.2.2.2.2.2.2.2.2.2.2.1
theorem dL_law_1034 : decode cL_law 1034 = .ok (.iconst 2, 1) := dLb_35.2.2.2.2.2.2.2.2.2.2.2.2.2.2.2
theorem dLb_36 : (decode cL_law 1035 = .ok (.iadd, 1)) ∧ (decode cL_law 1036 = .ok (.iaload, 1)) ∧ (decode cL_law 1037 = .ok (.aload_n 0, 1)) ∧ (decode cL_law 1038 = .ok (.iload 4, 2)) ∧ (decode cL_law 1040 = .ok (.iconst 3, 1)) ∧ (decode cL_law 1041 = .ok (.iadd, 1)) ∧ (decode cL_law 1042 = .ok (.iaload, 1)) ∧ (decode cL_law 1043 = .ok (.aload_n 0, 1)) ∧ (decode cL_law 1044 = .ok (.iload 4, 2)) ∧ (decode cL_law 1046 = .ok (.iconst 4, 1)) ∧ (decode cL_law 1047 = .ok (.iadd, 1)) ∧ (decode cL_law 1048 = .ok (.iaload, 1)) ∧ (decode cL_law 1049 = .ok (.ifCond .eq 7, 3)) ∧ (decode cL_law 1052 = .ok (.iconst 1, 1)) ∧ (decode cL_law 1053 = .ok (.goto 4, 3)) ∧ (decode cL_law 1056 = .ok (.iconst 0, 1)) := by decide +kernel
theorem dL_law_1035 : decode cL_law 1035 = .ok (.iadd, 1) := dLb_36.1
theorem dL_law_1036 : decode cL_law 1036 = .ok (.iaload, 1) := dLb_36.2.1
theorem dL_law_1037 : decode cL_law 1037 = .ok (.aload_n 0, 1) := dLb_36.2.2.1
theorem dL_law_1038 : decode cL_law 1038 = .ok (.iload 4, 2) := dLb_36.2.2.2.1
theorem dL_law_1040 : decode cL_law 1040 = .ok (.iconst 3, 1) := dLb_36.2.2.2.2.1
theorem dL_law_1041 : decode cL_law 1041 = .ok (.iadd, 1) := dLb_36.2.2.2.2.2.1
theorem dL_law_1042 : decode cL_law 1042 = .ok (.iaload, 1) := dLb_36.2.2.2.2.2.2.1
theorem dL_law_1043 : decode cL_law 1043 = .ok (.aload_n 0, 1) := dLb_36.2.2.2.2.2.2.2.1
theorem dL_law_1044 : decode cL_law 1044 = .ok (.iload 4, 2) := dLb_36.2.2.2.2.2.2.2.2.1
theorem dL_law_1046 : decode cL_law 1046 = .ok (.iconst 4, 1) := dLb_36.2.2.2.2.2.2.2.2.2.1
theorem dL_law_1047 : decode cL_law 1047 = .ok (.iadd, 1) := dLb_36.2.2.2.2.2.2.2.2.2.2.1
theorem dL_law_1048 : decode cL_law 1048 = .ok (.iaload, 1) := dLb_36.2.2.2.2.2.2.2.2.2.2.2.1
theorem dL_law_1049 : decode cL_law 1049 = .ok (.ifCond .eq 7, 3) := dLb_36.2.2.2.2.2.2.2.2.2.2.2.2.1
theorem dL_law_1052 : decode cL_law 1052 = .ok (.iconst 1, 1) := dLb_36.2.2.2.2.2.2.2.2.2.2.2.2.2.1
theorem dL_law_1053 : decode cL_law 1053 = .ok (.goto 4, 3) := dLb_36.2.2.2.2.2.2.2.2.2.2.2.2.2.2.1
theorem dL_law_1056 : decode cL_law 1056 = .ok (.iconst 0, 1) := dLb_36.2.2.2.2.2.2.2.2.2.2.2.2.2.2.2
theorem dLb_37 : (decode cL_law 1057 = .ok (.aload_n 3, 1)) ∧ (decode cL_law 1058 = .ok (.invokestatic 231, 3)) ∧ (decode cL_law 1061 = .ok (.istore 5, 2)) ∧ (decode cL_law 1063 = .ok (.aload_n 2, 1)) ∧ (decode cL_law 1064 = .ok (.aload_n 0, 1)) ∧ (decode cL_law 1065 = .ok (.iload 4, 2)) ∧ (decode cL_law 1067 = .ok (.iconst 1, 1)) ∧ (decode cL_law 1068 = .ok (.iadd, 1)) ∧ (decode cL_law 1069 = .ok (.iaload, 1)) ∧ (decode cL_law 1070 = .ok (.aload_n 0, 1)) ∧ (decode cL_law 1071 = .ok (.iload 4, 2)) ∧ (decode cL_law 1073 = .ok (.iconst 2, 1)) ∧ (decode cL_law 1074 = .ok (.iadd, 1)) ∧ (decode cL_law 1075 = .ok (.iaload, 1)) ∧ (decode cL_law 1076 = .ok (.aload_n 0, 1)) ∧ (decode cL_law 1077 = .ok (.iload 4, 2)) := by decide +kernel
theorem dL_law_1057 : decode cL_law 1057 = .ok (.aload_n 3, 1) := dLb_37.1
theorem dL_law_1058 : decode cL_law 1058 = .ok (.invokestatic 231, 3) := dLb_37.2.1
theorem dL_law_1061 : decode cL_law 1061 = .ok (.istore 5, 2) := dLb_37.2.2.1
theorem dL_law_1063 : decode cL_law 1063 = .ok (.aload_n 2, 1) := dLb_37.2.2.2.1
theorem dL_law_1064 : decode cL_law 1064 = .ok (.aload_n 0, 1) := dLb_37.2.2.2.2.1
theorem dL_law_1065 : decode cL_law 1065 = .ok (.iload 4, 2) := dLb_37.2.2.2.2.2.1
theorem dL_law_1067 : decode cL_law 1067 = .ok (.iconst 1, 1) := dLb_37.2.2.2.2.2.2.1
theorem dL_law_1068 : decode cL_law 1068 = .ok (.iadd, 1) := dLb_37.2.2.2.2.2.2.2.1
theorem dL_law_1069 : decode cL_law 1069 = .ok (.iaload, 1) := dLb_37.2.2.2.2.2.2.2.2.1
theorem dL_law_1070 : decode cL_law 1070 = .ok (.aload_n 0, 1) := dLb_37.2.2.2.2.2.2.2.2.2.1
theorem dL_law_1071 : decode cL_law 1071 = .ok (.iload 4, 2) := dLb_37.2.2.2.2.2.2.2.2.2.2.1
theorem dL_law_1073 : decode cL_law 1073 = .ok (.iconst 2, 1) := dLb_37.2.2.2.2.2.2.2.2.2.2.2.1
theorem dL_law_1074 : decode cL_law 1074 = .ok (.iadd, 1) := dLb_37.2.2.2.2.2.2.2.2.2.2.2.2.1
theorem dL_law_1075 : decode cL_law 1075 = .ok (.iaload, 1) := dLb_37.2.2.2.2.2.2.2.2.2.2.2.2.2.1
theorem dL_law_1076 : decode cL_law 1076 = .ok (.aload_n 0, 1) := dLb_37.2.2.2.2.2.2.2.2.2.2.2.2.2.2.1
theorem dL_law_1077 : decode cL_law 1077 = .ok (.iload 4, 2) := dLb_37.2.2.2.2.2.2.2.2.2.2.2.2.2.2.2
theorem dLb_38 : (decode cL_law 1079 = .ok (.iconst 3, 1)) ∧ (decode cL_law 1080 = .ok (.iadd, 1)) ∧ (decode cL_law 1081 = .ok (.iaload, 1)) ∧ (decode cL_law 1082 = .ok (.aload_n 0, 1)) ∧ (decode cL_law 1083 = .ok (.iload 4, 2)) ∧ (decode cL_law 1085 = .ok (.iconst 4, 1)) ∧ (decode cL_law 1086 = .ok (.iadd, 1)) ∧ (decode cL_law 1087 = .ok (.iaload, 1)) ∧ (decode cL_law 1088 = .ok (.ifCond .eq 7, 3)) ∧ (decode cL_law 1091 = .ok (.iconst 1, 1)) ∧ (decode cL_law 1092 = .ok (.goto 4, 3)) ∧ (decode cL_law 1095 = .ok (.iconst 0, 1)) ∧ (decode cL_law 1096 = .ok (.invokevirtual 234, 3)) ∧ (decode cL_law 1099 = .ok (.astore 6, 2)) ∧ (decode cL_law 1101 = .ok (.goto 990, 3)) ∧ (decode cL_law 1104 = .ok (.aload_n 1, 1)) := by decide +kernel
theorem dL_law_1079 : decode cL_law 1079 = .ok (.iconst 3, 1) := dLb_38.1
theorem dL_law_1080 : decode cL_law 1080 = .ok (.iadd, 1) := dLb_38.2.1
theorem dL_law_1081 : decode cL_law 1081 = .ok (.iaload, 1) := dLb_38.2.2.1
theorem dL_law_1082 : decode cL_law 1082 = .ok (.aload_n 0, 1) := dLb_38.2.2.2.1
theorem dL_law_1083 : decode cL_law 1083 = .ok (.iload 4, 2) := dLb_38.2.2.2.2.1
theorem dL_law_1085 : decode cL_law 1085 = .ok (.iconst 4, 1) := dLb_38.2.2.2.2.2.1
theorem dL_law_1086 : decode cL_law 1086 = .ok (.iadd, 1) := dLb_38.2.2.2.2.2.2.1
theorem dL_law_1087 : decode cL_law 1087 = .ok (.iaload, 1) := dLb_38.2.2.2.2.2.2.2.1
theorem dL_law_1088 : decode cL_law 1088 = .ok (.ifCond .eq 7, 3) := dLb_38.2.2.2.2.2.2.2.2.1
theorem dL_law_1091 : decode cL_law 1091 = .ok (.iconst 1, 1) := dLb_38.2.2.2.2.2.2.2.2.2.1
theorem dL_law_1092 : decode cL_law 1092 = .ok (.goto 4, 3) := dLb_38.2.2.2.2.2.2.2.2.2.2.1
theorem dL_law_1095 : decode cL_law 1095 = .ok (.iconst 0, 1) := dLb_38.2.2.2.2.2.2.2.2.2.2.2.1
theorem dL_law_1096 : decode cL_law 1096 = .ok (.invokevirtual 234, 3) := dLb_38.2.2.2.2.2.2.2.2.2.2.2.2.1
theorem dL_law_1099 : decode cL_law 1099 = .ok (.astore 6, 2) := dLb_38.2.2.2.2.2.2.2.2.2.2.2.2.2.1
theorem dL_law_1101 : decode cL_law 1101 = .ok (.goto 990, 3) := dLb_38.2.2.2.2.2.2.2.2.2.2.2.2.2.2.1
theorem dL_law_1104 : decode cL_law 1104 = .ok (.aload_n 1, 1) := dLb_38.2.2.2.2.2.2.2.2.2.2.2.2.2.2.2
theorem dLb_39 : (decode cL_law 1105 = .ok (.aload_n 0, 1)) ∧ (decode cL_law 1106 = .ok (.iload 4, 2)) ∧ (decode cL_law 1108 = .ok (.iconst 1, 1)) ∧ (decode cL_law 1109 = .ok (.iadd, 1)) ∧ (decode cL_law 1110 = .ok (.iaload, 1)) ∧ (decode cL_law 1111 = .ok (.aload_n 3, 1)) ∧ (decode cL_law 1112 = .ok (.invokestatic 235, 3)) ∧ (decode cL_law 1115 = .ok (.istore 5, 2)) ∧ (decode cL_law 1117 = .ok (.aload_n 2, 1)) ∧ (decode cL_law 1118 = .ok (.aload_n 0, 1)) ∧ (decode cL_law 1119 = .ok (.iload 4, 2)) ∧ (decode cL_law 1121 = .ok (.iconst 1, 1)) ∧ (decode cL_law 1122 = .ok (.iadd, 1)) ∧ (decode cL_law 1123 = .ok (.iaload, 1)) ∧ (decode cL_law 1124 = .ok (.invokevirtual 237, 3)) ∧ (decode cL_law 1127 = .ok (.istore 6, 2)) := by decide +kernel
theorem dL_law_1105 : decode cL_law 1105 = .ok (.aload_n 0, 1) := dLb_39.1
theorem dL_law_1106 : decode cL_law 1106 = .ok (.iload 4, 2) := dLb_39.2.1
theorem dL_law_1108 : decode cL_law 1108 = .ok (.iconst 1, 1) := dLb_39.2.2.1
theorem dL_law_1109 : decode cL_law 1109 = .ok (.iadd, 1) := dLb_39.2.2.2.1
theorem dL_law_1110 : decode cL_law 1110 = .ok (.iaload, 1) := dLb_39.2.2.2.2.1
theorem dL_law_1111 : decode cL_law 1111 = .ok (.aload_n 3, 1) := dLb_39.2.2.2.2.2.1
theorem dL_law_1112 : decode cL_law 1112 = .ok (.invokestatic 235, 3) := dLb_39.2.2.2.2.2.2.1
theorem dL_law_1115 : decode cL_law 1115 = .ok (.istore 5, 2) := dLb_39.2.2.2.2.2.2.2.1
theorem dL_law_1117 : decode cL_law 1117 = .ok (.aload_n 2, 1) := dLb_39.2.2.2.2.2.2.2.2.1
theorem dL_law_1118 : decode cL_law 1118 = .ok (.aload_n 0, 1) := dLb_39.2.2.2.2.2.2.2.2.2.1
theorem dL_law_1119 : decode cL_law 1119 = .ok (.iload 4, 2) := dLb_39.2.2.2.2.2.2.2.2.2.2.1
theorem dL_law_1121 : decode cL_law 1121 = .ok (.iconst 1, 1) := dLb_39.2.2.2.2.2.2.2.2.2.2.2.1
theorem dL_law_1122 : decode cL_law 1122 = .ok (.iadd, 1) := dLb_39.2.2.2.2.2.2.2.2.2.2.2.2.1
theorem dL_law_1123 : decode cL_law 1123 = .ok (.iaload, 1) := dLb_39.2.2.2.2.2.2.2.2.2.2.2.2.2.1
theorem dL_law_1124 : decode cL_law 1124 = .ok (.invokevirtual 237, 3) := dLb_39.2.2.2.2.2.2.2.2.2.2.2.2.2.2.1
theorem dL_law_1127 : decode cL_law 1127 = .ok (.istore 6, 2) := dLb_39.2.2.2.2.2.2.2.2.2.2.2.2.2.2.2
theorem dLb_40 : (decode cL_law 1129 = .ok (.goto 962, 3)) ∧ (decode cL_law 1132 = .ok (.aload_n 1, 1)) ∧ (decode cL_law 1133 = .ok (.aload_n 0, 1)) ∧ (decode cL_law 1134 = .ok (.iload 4, 2)) ∧ (decode cL_law 1136 = .ok (.iconst 1, 1)) ∧ (decode cL_law 1137 = .ok (.iadd, 1)) ∧ (decode cL_law 1138 = .ok (.iaload, 1)) ∧ (decode cL_law 1139 = .ok (.aload_n 0, 1)) ∧ (decode cL_law 1140 = .ok (.iload 4, 2)) ∧ (decode cL_law 1142 = .ok (.iconst 2, 1)) ∧ (decode cL_law 1143 = .ok (.iadd, 1)) ∧ (decode cL_law 1144 = .ok (.iaload, 1)) ∧ (decode cL_law 1145 = .ok (.aload_n 0, 1)) ∧ (decode cL_law 1146 = .ok (.iload 4, 2)) ∧ (decode cL_law 1148 = .ok (.iconst 3, 1)) ∧ (decode cL_law 1149 = .ok (.iadd, 1)) := by decide +kernel
theorem dL_law_1129 : decode cL_law 1129 = .ok (.goto 962, 3) := dLb_40.1
theorem dL_law_1132 : decode cL_law 1132 = .ok (.aload_n 1, 1) := dLb_40.2.1
theorem dL_law_1133 : decode cL_law 1133 = .ok (.aload_n 0, 1) := dLb_40.2.2.1
theorem dL_law_1134 : decode cL_law 1134 = .ok (.iload 4, 2) := dLb_40.2.2.2.1
theorem dL_law_1136 : decode cL_law 1136 = .ok (.iconst 1, 1) := dLb_40.2.2.2.2.1
theorem dL_law_1137 : decode cL_law 1137 = .ok (.iadd, 1) := dLb_40.2.2.2.2.2.1
theorem dL_law_1138 : decode cL_law 1138 = .ok (.iaload, 1) := dLb_40.2.2.2.2.2.2.1
theorem dL_law_1139 : decode cL_law 1139 = .ok (.aload_n 0, 1) := dLb_40.2.2.2.2.2.2.2.1
theorem dL_law_1140 : decode cL_law 1140 = .ok (.iload 4, 2) := dLb_40.2.2.2.2.2.2.2.2.1
theorem dL_law_1142 : decode cL_law 1142 = .ok (.iconst 2, 1) := dLb_40.2.2.2.2.2.2.2.2.2.1
theorem dL_law_1143 : decode cL_law 1143 = .ok (.iadd, 1) := dLb_40.2.2.2.2.2.2.2.2.2.2.1
theorem dL_law_1144 : decode cL_law 1144 = .ok (.iaload, 1) := dLb_40.2.2.2.2.2.2.2.2.2.2.2.1
theorem dL_law_1145 : decode cL_law 1145 = .ok (.aload_n 0, 1) := dLb_40.2.2.2.2.2.2.2.2.2.2.2.2.1
theorem dL_law_1146 : decode cL_law 1146 = .ok (.iload 4, 2) := dLb_40.2.2.2.2.2.2.2.2.2.2.2.2.2.1
theorem dL_law_1148 : decode cL_law 1148 = .ok (.iconst 3, 1) := dLb_40.2.2.2.2.2.2.2.2.2.2.2.2.2.2.1
theorem dL_law_1149 : decode cL_law 1149 = .ok (.iadd, 1) := dLb_40.2.2.2.2.2.2.2.2.2.2.2.2.2.2.2
theorem dLb_41 : (decode cL_law 1150 = .ok (.iaload, 1)) ∧ (decode cL_law 1151 = .ok (.aload_n 0, 1)) ∧ (decode cL_law 1152 = .ok (.iload 4, 2)) ∧ (decode cL_law 1154 = .ok (.iconst 4, 1)) ∧ (decode cL_law 1155 = .ok (.iadd, 1)) ∧ (decode cL_law 1156 = .ok (.iaload, 1)) ∧ (decode cL_law 1157 = .ok (.aload_n 0, 1)) ∧ (decode cL_law 1158 = .ok (.iload 4, 2)) ∧ (decode cL_law 1160 = .ok (.iconst 5, 1)) ∧ (decode cL_law 1161 = .ok (.iadd, 1)) ∧ (decode cL_law 1162 = .ok (.iaload, 1)) ∧ (decode cL_law 1163 = .ok (.ifCond .eq 7, 3)) ∧ (decode cL_law 1166 = .ok (.iconst 1, 1)) ∧ (decode cL_law 1167 = .ok (.goto 4, 3)) ∧ (decode cL_law 1170 = .ok (.iconst 0, 1)) ∧ (decode cL_law 1171 = .ok (.aload_n 3, 1)) := by decide +kernel
theorem dL_law_1150 : decode cL_law 1150 = .ok (.iaload, 1) := dLb_41.1
theorem dL_law_1151 : decode cL_law 1151 = .ok (.aload_n 0, 1) := dLb_41.2.1
theorem dL_law_1152 : decode cL_law 1152 = .ok (.iload 4, 2) := dLb_41.2.2.1
theorem dL_law_1154 : decode cL_law 1154 = .ok (.iconst 4, 1) := dLb_41.2.2.2.1
theorem dL_law_1155 : decode cL_law 1155 = .ok (.iadd, 1) := dLb_41.2.2.2.2.1
theorem dL_law_1156 : decode cL_law 1156 = .ok (.iaload, 1) := dLb_41.2.2.2.2.2.1
theorem dL_law_1157 : decode cL_law 1157 = .ok (.aload_n 0, 1) := dLb_41.2.2.2.2.2.2.1
theorem dL_law_1158 : decode cL_law 1158 = .ok (.iload 4, 2) := dLb_41.2.2.2.2.2.2.2.1
theorem dL_law_1160 : decode cL_law 1160 = .ok (.iconst 5, 1) := dLb_41.2.2.2.2.2.2.2.2.1
theorem dL_law_1161 : decode cL_law 1161 = .ok (.iadd, 1) := dLb_41.2.2.2.2.2.2.2.2.2.1
theorem dL_law_1162 : decode cL_law 1162 = .ok (.iaload, 1) := dLb_41.2.2.2.2.2.2.2.2.2.2.1
theorem dL_law_1163 : decode cL_law 1163 = .ok (.ifCond .eq 7, 3) := dLb_41.2.2.2.2.2.2.2.2.2.2.2.1
theorem dL_law_1166 : decode cL_law 1166 = .ok (.iconst 1, 1) := dLb_41.2.2.2.2.2.2.2.2.2.2.2.2.1
theorem dL_law_1167 : decode cL_law 1167 = .ok (.goto 4, 3) := dLb_41.2.2.2.2.2.2.2.2.2.2.2.2.2.1
theorem dL_law_1170 : decode cL_law 1170 = .ok (.iconst 0, 1) := dLb_41.2.2.2.2.2.2.2.2.2.2.2.2.2.2.1
theorem dL_law_1171 : decode cL_law 1171 = .ok (.aload_n 3, 1) := dLb_41.2.2.2.2.2.2.2.2.2.2.2.2.2.2.2
theorem dLb_42 : (decode cL_law 1172 = .ok (.invokestatic 238, 3)) ∧ (decode cL_law 1175 = .ok (.istore 5, 2)) ∧ (decode cL_law 1177 = .ok (.aload_n 2, 1)) ∧ (decode cL_law 1178 = .ok (.aload_n 0, 1)) ∧ (decode cL_law 1179 = .ok (.iload 4, 2)) ∧ (decode cL_law 1181 = .ok (.iconst 1, 1)) ∧ (decode cL_law 1182 = .ok (.iadd, 1)) ∧ (decode cL_law 1183 = .ok (.iaload, 1)) ∧ (decode cL_law 1184 = .ok (.aload_n 0, 1)) ∧ (decode cL_law 1185 = .ok (.iload 4, 2)) ∧ (decode cL_law 1187 = .ok (.iconst 2, 1)) ∧ (decode cL_law 1188 = .ok (.iadd, 1)) ∧ (decode cL_law 1189 = .ok (.iaload, 1)) ∧ (decode cL_law 1190 = .ok (.aload_n 0, 1)) ∧ (decode cL_law 1191 = .ok (.iload 4, 2)) ∧ (decode cL_law 1193 = .ok (.iconst 3, 1)) := by decide +kernel
theorem dL_law_1172 : decode cL_law 1172 = .ok (.invokestatic 238, 3) := dLb_42.1
theorem dL_law_1175 : decode cL_law 1175 = .ok (.istore 5, 2) := dLb_42.2.1
theorem dL_law_1177 : decode cL_law 1177 = .ok (.aload_n 2, 1) := dLb_42.2.2.1
theorem dL_law_1178 : decode cL_law 1178 = .ok (.aload_n 0, 1) := dLb_42.2.2.2.1
theorem dL_law_1179 : decode cL_law 1179 = .ok (.iload 4, 2) := dLb_42.2.2.2.2.1
theorem dL_law_1181 : decode cL_law 1181 = .ok (.iconst 1, 1) := dLb_42.2.2.2.2.2.1
theorem dL_law_1182 : decode cL_law 1182 = .ok (.iadd, 1) := dLb_42.2.2.2.2.2.2.1
theorem dL_law_1183 : decode cL_law 1183 = .ok (.iaload, 1) := dLb_42.2.2.2.2.2.2.2.1
theorem dL_law_1184 : decode cL_law 1184 = .ok (.aload_n 0, 1) := dLb_42.2.2.2.2.2.2.2.2.1
theorem dL_law_1185 : decode cL_law 1185 = .ok (.iload 4, 2) := dLb_42.2.2.2.2.2.2.2.2.2.1
theorem dL_law_1187 : decode cL_law 1187 = .ok (.iconst 2, 1) := dLb_42.2.2.2.2.2.2.2.2.2.2.1
theorem dL_law_1188 : decode cL_law 1188 = .ok (.iadd, 1) := dLb_42.2.2.2.2.2.2.2.2.2.2.2.1
theorem dL_law_1189 : decode cL_law 1189 = .ok (.iaload, 1) := dLb_42.2.2.2.2.2.2.2.2.2.2.2.2.1
theorem dL_law_1190 : decode cL_law 1190 = .ok (.aload_n 0, 1) := dLb_42.2.2.2.2.2.2.2.2.2.2.2.2.2.1
theorem dL_law_1191 : decode cL_law 1191 = .ok (.iload 4, 2) := dLb_42.2.2.2.2.2.2.2.2.2.2.2.2.2.2.1
theorem dL_law_1193 : decode cL_law 1193 = .ok (.iconst 3, 1) := dLb_42.2.2.2.2.2.2.2.2.2.2.2.2.2.2.2
theorem dLb_43 : (decode cL_law 1194 = .ok (.iadd, 1)) ∧ (decode cL_law 1195 = .ok (.iaload, 1)) ∧ (decode cL_law 1196 = .ok (.aload_n 0, 1)) ∧ (decode cL_law 1197 = .ok (.iload 4, 2)) ∧ (decode cL_law 1199 = .ok (.iconst 4, 1)) ∧ (decode cL_law 1200 = .ok (.iadd, 1)) ∧ (decode cL_law 1201 = .ok (.iaload, 1)) ∧ (decode cL_law 1202 = .ok (.aload_n 0, 1)) ∧ (decode cL_law 1203 = .ok (.iload 4, 2)) ∧ (decode cL_law 1205 = .ok (.iconst 5, 1)) ∧ (decode cL_law 1206 = .ok (.iadd, 1)) ∧ (decode cL_law 1207 = .ok (.iaload, 1)) ∧ (decode cL_law 1208 = .ok (.ifCond .eq 7, 3)) ∧ (decode cL_law 1211 = .ok (.iconst 1, 1)) ∧ (decode cL_law 1212 = .ok (.goto 4, 3)) ∧ (decode cL_law 1215 = .ok (.iconst 0, 1)) := by decide +kernel
theorem dL_law_1194 : decode cL_law 1194 = .ok (.iadd, 1) := dLb_43.1
theorem dL_law_1195 : decode cL_law 1195 = .ok (.iaload, 1) := dLb_43.2.1
theorem dL_law_1196 : decode cL_law 1196 = .ok (.aload_n 0, 1) := dLb_43.2.2.1
theorem dL_law_1197 : decode cL_law 1197 = .ok (.iload 4, 2) := dLb_43.2.2.2.1
theorem dL_law_1199 : decode cL_law 1199 = .ok (.iconst 4, 1) := dLb_43.2.2.2.2.1
theorem dL_law_1200 : decode cL_law 1200 = .ok (.iadd, 1) := dLb_43.2.2.2.2.2.1
theorem dL_law_1201 : decode cL_law 1201 = .ok (.iaload, 1) := dLb_43.2.2.2.2.2.2.1
theorem dL_law_1202 : decode cL_law 1202 = .ok (.aload_n 0, 1) := dLb_43.2.2.2.2.2.2.2.1
theorem dL_law_1203 : decode cL_law 1203 = .ok (.iload 4, 2) := dLb_43.2.2.2.2.2.2.2.2.1
theorem dL_law_1205 : decode cL_law 1205 = .ok (.iconst 5, 1) := dLb_43.2.2.2.2.2.2.2.2.2.1
theorem dL_law_1206 : decode cL_law 1206 = .ok (.iadd, 1) := dLb_43.2.2.2.2.2.2.2.2.2.2.1
theorem dL_law_1207 : decode cL_law 1207 = .ok (.iaload, 1) := dLb_43.2.2.2.2.2.2.2.2.2.2.2.1
theorem dL_law_1208 : decode cL_law 1208 = .ok (.ifCond .eq 7, 3) := dLb_43.2.2.2.2.2.2.2.2.2.2.2.2.1
theorem dL_law_1211 : decode cL_law 1211 = .ok (.iconst 1, 1) := dLb_43.2.2.2.2.2.2.2.2.2.2.2.2.2.1
theorem dL_law_1212 : decode cL_law 1212 = .ok (.goto 4, 3) := dLb_43.2.2.2.2.2.2.2.2.2.2.2.2.2.2.1
theorem dL_law_1215 : decode cL_law 1215 = .ok (.iconst 0, 1) := dLb_43.2.2.2.2.2.2.2.2.2.2.2.2.2.2.2
theorem dLb_44 : (decode cL_law 1216 = .ok (.invokevirtual 241, 3)) ∧ (decode cL_law 1219 = .ok (.istore 6, 2)) ∧ (decode cL_law 1221 = .ok (.goto 870, 3)) ∧ (decode cL_law 1224 = .ok (.aload_n 1, 1)) ∧ (decode cL_law 1225 = .ok (.aload_n 0, 1)) ∧ (decode cL_law 1226 = .ok (.iload 4, 2)) ∧ (decode cL_law 1228 = .ok (.iconst 1, 1)) ∧ (decode cL_law 1229 = .ok (.iadd, 1)) ∧ (decode cL_law 1230 = .ok (.iaload, 1)) ∧ (decode cL_law 1231 = .ok (.aload_n 0, 1)) ∧ (decode cL_law 1232 = .ok (.iload 4, 2)) ∧ (decode cL_law 1234 = .ok (.iconst 2, 1)) ∧ (decode cL_law 1235 = .ok (.iadd, 1)) ∧ (decode cL_law 1236 = .ok (.iaload, 1)) ∧ (decode cL_law 1237 = .ok (.aload_n 0, 1)) ∧ (decode cL_law 1238 = .ok (.iload 4, 2)) := by decide +kernel
theorem dL_law_1216 : decode cL_law 1216 = .ok (.invokevirtual 241, 3) := dLb_44.1
theorem dL_law_1219 : decode cL_law 1219 = .ok (.istore 6, 2) := dLb_44.2.1
theorem dL_law_1221 : decode cL_law 1221 = .ok (.goto 870, 3) := dLb_44.2.2.1
theorem dL_law_1224 : decode cL_law 1224 = .ok (.aload_n 1, 1) := dLb_44.2.2.2.1
theorem dL_law_1225 : decode cL_law 1225 = .ok (.aload_n 0, 1) := dLb_44.2.2.2.2.1
theorem dL_law_1226 : decode cL_law 1226 = .ok (.iload 4, 2) := dLb_44.2.2.2.2.2.1
theorem dL_law_1228 : decode cL_law 1228 = .ok (.iconst 1, 1) := dLb_44.2.2.2.2.2.2.1
theorem dL_law_1229 : decode cL_law 1229 = .ok (.iadd, 1) := dLb_44.2.2.2.2.2.2.2.1
theorem dL_law_1230 : decode cL_law 1230 = .ok (.iaload, 1) := dLb_44.2.2.2.2.2.2.2.2.1
theorem dL_law_1231 : decode cL_law 1231 = .ok (.aload_n 0, 1) := dLb_44.2.2.2.2.2.2.2.2.2.1
theorem dL_law_1232 : decode cL_law 1232 = .ok (.iload 4, 2) := dLb_44.2.2.2.2.2.2.2.2.2.2.1
theorem dL_law_1234 : decode cL_law 1234 = .ok (.iconst 2, 1) := dLb_44.2.2.2.2.2.2.2.2.2.2.2.1
theorem dL_law_1235 : decode cL_law 1235 = .ok (.iadd, 1) := dLb_44.2.2.2.2.2.2.2.2.2.2.2.2.1
theorem dL_law_1236 : decode cL_law 1236 = .ok (.iaload, 1) := dLb_44.2.2.2.2.2.2.2.2.2.2.2.2.2.1
theorem dL_law_1237 : decode cL_law 1237 = .ok (.aload_n 0, 1) := dLb_44.2.2.2.2.2.2.2.2.2.2.2.2.2.2.1
theorem dL_law_1238 : decode cL_law 1238 = .ok (.iload 4, 2) := dLb_44.2.2.2.2.2.2.2.2.2.2.2.2.2.2.2
theorem dLb_45 : (decode cL_law 1240 = .ok (.iconst 3, 1)) ∧ (decode cL_law 1241 = .ok (.iadd, 1)) ∧ (decode cL_law 1242 = .ok (.iaload, 1)) ∧ (decode cL_law 1243 = .ok (.aload_n 3, 1)) ∧ (decode cL_law 1244 = .ok (.invokestatic 242, 3)) ∧ (decode cL_law 1247 = .ok (.istore 5, 2)) ∧ (decode cL_law 1249 = .ok (.aload_n 2, 1)) ∧ (decode cL_law 1250 = .ok (.aload_n 0, 1)) ∧ (decode cL_law 1251 = .ok (.iload 4, 2)) ∧ (decode cL_law 1253 = .ok (.iconst 1, 1)) ∧ (decode cL_law 1254 = .ok (.iadd, 1)) ∧ (decode cL_law 1255 = .ok (.iaload, 1)) ∧ (decode cL_law 1256 = .ok (.aload_n 0, 1)) ∧ (decode cL_law 1257 = .ok (.iload 4, 2)) ∧ (decode cL_law 1259 = .ok (.iconst 2, 1)) ∧ (decode cL_law 1260 = .ok (.iadd, 1)) := by decide +kernel
theorem dL_law_1240 : decode cL_law 1240 = .ok (.iconst 3, 1) := dLb_45.1
theorem dL_law_1241 : decode cL_law 1241 = .ok (.iadd, 1) := dLb_45.2.1
theorem dL_law_1242 : decode cL_law 1242 = .ok (.iaload, 1) := dLb_45.2.2.1
theorem dL_law_1243 : decode cL_law 1243 = .ok (.aload_n 3, 1) := dLb_45.2.2.2.1
theorem dL_law_1244 : decode cL_law 1244 = .ok (.invokestatic 242, 3) := dLb_45.2.2.2.2.1
theorem dL_law_1247 : decode cL_law 1247 = .ok (.istore 5, 2) := dLb_45.2.2.2.2.2.1
theorem dL_law_1249 : decode cL_law 1249 = .ok (.aload_n 2, 1) := dLb_45.2.2.2.2.2.2.1
theorem dL_law_1250 : decode cL_law 1250 = .ok (.aload_n 0, 1) := dLb_45.2.2.2.2.2.2.2.1
theorem dL_law_1251 : decode cL_law 1251 = .ok (.iload 4, 2) := dLb_45.2.2.2.2.2.2.2.2.1
theorem dL_law_1253 : decode cL_law 1253 = .ok (.iconst 1, 1) := dLb_45.2.2.2.2.2.2.2.2.2.1
theorem dL_law_1254 : decode cL_law 1254 = .ok (.iadd, 1) := dLb_45.2.2.2.2.2.2.2.2.2.2.1
theorem dL_law_1255 : decode cL_law 1255 = .ok (.iaload, 1) := dLb_45.2.2.2.2.2.2.2.2.2.2.2.1
theorem dL_law_1256 : decode cL_law 1256 = .ok (.aload_n 0, 1) := dLb_45.2.2.2.2.2.2.2.2.2.2.2.2.1
theorem dL_law_1257 : decode cL_law 1257 = .ok (.iload 4, 2) := dLb_45.2.2.2.2.2.2.2.2.2.2.2.2.2.1
theorem dL_law_1259 : decode cL_law 1259 = .ok (.iconst 2, 1) := dLb_45.2.2.2.2.2.2.2.2.2.2.2.2.2.2.1
theorem dL_law_1260 : decode cL_law 1260 = .ok (.iadd, 1) := dLb_45.2.2.2.2.2.2.2.2.2.2.2.2.2.2.2
theorem dLb_46 : (decode cL_law 1261 = .ok (.iaload, 1)) ∧ (decode cL_law 1262 = .ok (.aload_n 0, 1)) ∧ (decode cL_law 1263 = .ok (.iload 4, 2)) ∧ (decode cL_law 1265 = .ok (.iconst 3, 1)) ∧ (decode cL_law 1266 = .ok (.iadd, 1)) ∧ (decode cL_law 1267 = .ok (.iaload, 1)) ∧ (decode cL_law 1268 = .ok (.invokevirtual 244, 3)) ∧ (decode cL_law 1271 = .ok (.istore 6, 2)) ∧ (decode cL_law 1273 = .ok (.goto 818, 3)) ∧ (decode cL_law 1276 = .ok (.aload_n 1, 1)) ∧ (decode cL_law 1277 = .ok (.aload_n 0, 1)) ∧ (decode cL_law 1278 = .ok (.iload 4, 2)) ∧ (decode cL_law 1280 = .ok (.iconst 1, 1)) ∧ (decode cL_law 1281 = .ok (.iadd, 1)) ∧ (decode cL_law 1282 = .ok (.iaload, 1)) ∧ (decode cL_law 1283 = .ok (.aload_n 0, 1)) := by decide +kernel
theorem dL_law_1261 : decode cL_law 1261 = .ok (.iaload, 1) := dLb_46.1
theorem dL_law_1262 : decode cL_law 1262 = .ok (.aload_n 0, 1) := dLb_46.2.1
theorem dL_law_1263 : decode cL_law 1263 = .ok (.iload 4, 2) := dLb_46.2.2.1
theorem dL_law_1265 : decode cL_law 1265 = .ok (.iconst 3, 1) := dLb_46.2.2.2.1
theorem dL_law_1266 : decode cL_law 1266 = .ok (.iadd, 1) := dLb_46.2.2.2.2.1
theorem dL_law_1267 : decode cL_law 1267 = .ok (.iaload, 1) := dLb_46.2.2.2.2.2.1
theorem dL_law_1268 : decode cL_law 1268 = .ok (.invokevirtual 244, 3) := dLb_46.2.2.2.2.2.2.1
theorem dL_law_1271 : decode cL_law 1271 = .ok (.istore 6, 2) := dLb_46.2.2.2.2.2.2.2.1
theorem dL_law_1273 : decode cL_law 1273 = .ok (.goto 818, 3) := dLb_46.2.2.2.2.2.2.2.2.1
theorem dL_law_1276 : decode cL_law 1276 = .ok (.aload_n 1, 1) := dLb_46.2.2.2.2.2.2.2.2.2.1
theorem dL_law_1277 : decode cL_law 1277 = .ok (.aload_n 0, 1) := dLb_46.2.2.2.2.2.2.2.2.2.2.1
theorem dL_law_1278 : decode cL_law 1278 = .ok (.iload 4, 2) := dLb_46.2.2.2.2.2.2.2.2.2.2.2.1
theorem dL_law_1280 : decode cL_law 1280 = .ok (.iconst 1, 1) := dLb_46.2.2.2.2.2.2.2.2.2.2.2.2.1
theorem dL_law_1281 : decode cL_law 1281 = .ok (.iadd, 1) := dLb_46.2.2.2.2.2.2.2.2.2.2.2.2.2.1
theorem dL_law_1282 : decode cL_law 1282 = .ok (.iaload, 1) := dLb_46.2.2.2.2.2.2.2.2.2.2.2.2.2.2.1
theorem dL_law_1283 : decode cL_law 1283 = .ok (.aload_n 0, 1) := dLb_46.2.2.2.2.2.2.2.2.2.2.2.2.2.2.2
theorem dLb_47 : (decode cL_law 1284 = .ok (.iload 4, 2)) ∧ (decode cL_law 1286 = .ok (.iconst 2, 1)) ∧ (decode cL_law 1287 = .ok (.iadd, 1)) ∧ (decode cL_law 1288 = .ok (.iaload, 1)) ∧ (decode cL_law 1289 = .ok (.aload_n 0, 1)) ∧ (decode cL_law 1290 = .ok (.iload 4, 2)) ∧ (decode cL_law 1292 = .ok (.iconst 3, 1)) ∧ (decode cL_law 1293 = .ok (.iadd, 1)) ∧ (decode cL_law 1294 = .ok (.iaload, 1)) ∧ (decode cL_law 1295 = .ok (.aload_n 3, 1)) ∧ (decode cL_law 1296 = .ok (.invokestatic 245, 3)) ∧ (decode cL_law 1299 = .ok (.istore 5, 2)) ∧ (decode cL_law 1301 = .ok (.aload_n 2, 1)) ∧ (decode cL_law 1302 = .ok (.aload_n 0, 1)) ∧ (decode cL_law 1303 = .ok (.iload 4, 2)) ∧ (decode cL_law 1305 = .ok (.iconst 1, 1)) := by decide +kernel
theorem dL_law_1284 : decode cL_law 1284 = .ok (.iload 4, 2) := dLb_47.1
theorem dL_law_1286 : decode cL_law 1286 = .ok (.iconst 2, 1) := dLb_47.2.1
theorem dL_law_1287 : decode cL_law 1287 = .ok (.iadd, 1) := dLb_47.2.2.1
theorem dL_law_1288 : decode cL_law 1288 = .ok (.iaload, 1) := dLb_47.2.2.2.1
theorem dL_law_1289 : decode cL_law 1289 = .ok (.aload_n 0, 1) := dLb_47.2.2.2.2.1
theorem dL_law_1290 : decode cL_law 1290 = .ok (.iload 4, 2) := dLb_47.2.2.2.2.2.1
theorem dL_law_1292 : decode cL_law 1292 = .ok (.iconst 3, 1) := dLb_47.2.2.2.2.2.2.1
theorem dL_law_1293 : decode cL_law 1293 = .ok (.iadd, 1) := dLb_47.2.2.2.2.2.2.2.1
theorem dL_law_1294 : decode cL_law 1294 = .ok (.iaload, 1) := dLb_47.2.2.2.2.2.2.2.2.1
theorem dL_law_1295 : decode cL_law 1295 = .ok (.aload_n 3, 1) := dLb_47.2.2.2.2.2.2.2.2.2.1
theorem dL_law_1296 : decode cL_law 1296 = .ok (.invokestatic 245, 3) := dLb_47.2.2.2.2.2.2.2.2.2.2.1
theorem dL_law_1299 : decode cL_law 1299 = .ok (.istore 5, 2) := dLb_47.2.2.2.2.2.2.2.2.2.2.2.1
theorem dL_law_1301 : decode cL_law 1301 = .ok (.aload_n 2, 1) := dLb_47.2.2.2.2.2.2.2.2.2.2.2.2.1
theorem dL_law_1302 : decode cL_law 1302 = .ok (.aload_n 0, 1) := dLb_47.2.2.2.2.2.2.2.2.2.2.2.2.2.1
theorem dL_law_1303 : decode cL_law 1303 = .ok (.iload 4, 2) := dLb_47.2.2.2.2.2.2.2.2.2.2.2.2.2.2.1
theorem dL_law_1305 : decode cL_law 1305 = .ok (.iconst 1, 1) := dLb_47.2.2.2.2.2.2.2.2.2.2.2.2.2.2.2
theorem dLb_48 : (decode cL_law 1306 = .ok (.iadd, 1)) ∧ (decode cL_law 1307 = .ok (.iaload, 1)) ∧ (decode cL_law 1308 = .ok (.aload_n 0, 1)) ∧ (decode cL_law 1309 = .ok (.iload 4, 2)) ∧ (decode cL_law 1311 = .ok (.iconst 2, 1)) ∧ (decode cL_law 1312 = .ok (.iadd, 1)) ∧ (decode cL_law 1313 = .ok (.iaload, 1)) ∧ (decode cL_law 1314 = .ok (.aload_n 0, 1)) ∧ (decode cL_law 1315 = .ok (.iload 4, 2)) ∧ (decode cL_law 1317 = .ok (.iconst 3, 1)) ∧ (decode cL_law 1318 = .ok (.iadd, 1)) ∧ (decode cL_law 1319 = .ok (.iaload, 1)) ∧ (decode cL_law 1320 = .ok (.invokevirtual 247, 3)) ∧ (decode cL_law 1323 = .ok (.istore 6, 2)) ∧ (decode cL_law 1325 = .ok (.goto 766, 3)) ∧ (decode cL_law 1328 = .ok (.aload_n 1, 1)) := by decide +kernel
theorem dL_law_1306 : decode cL_law 1306 = .ok (.iadd, 1) := dLb_48.1
theorem dL_law_1307 : decode cL_law 1307 = .ok (.iaload, 1) := dLb_48.2.1
theorem dL_law_1308 : decode cL_law 1308 = .ok (.aload_n 0, 1) := dLb_48.2.2.1
theorem dL_law_1309 : decode cL_law 1309 = .ok (.iload 4, 2) := dLb_48.2.2.2.1
theorem dL_law_1311 : decode cL_law 1311 = .ok (.iconst 2, 1) := dLb_48.2.2.2.2.1
theorem dL_law_1312 : decode cL_law 1312 = .ok (.iadd, 1) := dLb_48.2.2.2.2.2.1
theorem dL_law_1313 : decode cL_law 1313 = .ok (.iaload, 1) := dLb_48.2.2.2.2.2.2.1
theorem dL_law_1314 : decode cL_law 1314 = .ok (.aload_n 0, 1) := dLb_48.2.2.2.2.2.2.2.1
theorem dL_law_1315 : decode cL_law 1315 = .ok (.iload 4, 2) := dLb_48.2.2.2.2.2.2.2.2.1
theorem dL_law_1317 : decode cL_law 1317 = .ok (.iconst 3, 1) := dLb_48.2.2.2.2.2.2.2.2.2.1
theorem dL_law_1318 : decode cL_law 1318 = .ok (.iadd, 1) := dLb_48.2.2.2.2.2.2.2.2.2.2.1
theorem dL_law_1319 : decode cL_law 1319 = .ok (.iaload, 1) := dLb_48.2.2.2.2.2.2.2.2.2.2.2.1
theorem dL_law_1320 : decode cL_law 1320 = .ok (.invokevirtual 247, 3) := dLb_48.2.2.2.2.2.2.2.2.2.2.2.2.1
theorem dL_law_1323 : decode cL_law 1323 = .ok (.istore 6, 2) := dLb_48.2.2.2.2.2.2.2.2.2.2.2.2.2.1
theorem dL_law_1325 : decode cL_law 1325 = .ok (.goto 766, 3) := dLb_48.2.2.2.2.2.2.2.2.2.2.2.2.2.2.1
theorem dL_law_1328 : decode cL_law 1328 = .ok (.aload_n 1, 1) := dLb_48.2.2.2.2.2.2.2.2.2.2.2.2.2.2.2
theorem dLb_49 : (decode cL_law 1329 = .ok (.aload_n 0, 1)) ∧ (decode cL_law 1330 = .ok (.iload 4, 2)) ∧ (decode cL_law 1332 = .ok (.iconst 1, 1)) ∧ (decode cL_law 1333 = .ok (.iadd, 1)) ∧ (decode cL_law 1334 = .ok (.iaload, 1)) ∧ (decode cL_law 1335 = .ok (.aload_n 0, 1)) ∧ (decode cL_law 1336 = .ok (.iload 4, 2)) ∧ (decode cL_law 1338 = .ok (.iconst 2, 1)) ∧ (decode cL_law 1339 = .ok (.iadd, 1)) ∧ (decode cL_law 1340 = .ok (.iaload, 1)) ∧ (decode cL_law 1341 = .ok (.aload_n 3, 1)) ∧ (decode cL_law 1342 = .ok (.invokestatic 248, 3)) ∧ (decode cL_law 1345 = .ok (.istore 5, 2)) ∧ (decode cL_law 1347 = .ok (.aload_n 2, 1)) ∧ (decode cL_law 1348 = .ok (.aload_n 0, 1)) ∧ (decode cL_law 1349 = .ok (.iload 4, 2)) := by decide +kernel
theorem dL_law_1329 : decode cL_law 1329 = .ok (.aload_n 0, 1) := dLb_49.1
theorem dL_law_1330 : decode cL_law 1330 = .ok (.iload 4, 2) := dLb_49.2.1
theorem dL_law_1332 : decode cL_law 1332 = .ok (.iconst 1, 1) := dLb_49.2.2.1
theorem dL_law_1333 : decode cL_law 1333 = .ok (.iadd, 1) := dLb_49.2.2.2.1
theorem dL_law_1334 : decode cL_law 1334 = .ok (.iaload, 1) := dLb_49.2.2.2.2.1
theorem dL_law_1335 : decode cL_law 1335 = .ok (.aload_n 0, 1) := dLb_49.2.2.2.2.2.1
theorem dL_law_1336 : decode cL_law 1336 = .ok (.iload 4, 2) := dLb_49.2.2.2.2.2.2.1
theorem dL_law_1338 : decode cL_law 1338 = .ok (.iconst 2, 1) := dLb_49.2.2.2.2.2.2.2.1
theorem dL_law_1339 : decode cL_law 1339 = .ok (.iadd, 1) := dLb_49.2.2.2.2.2.2.2.2.1
theorem dL_law_1340 : decode cL_law 1340 = .ok (.iaload, 1) := dLb_49.2.2.2.2.2.2.2.2.2.1
theorem dL_law_1341 : decode cL_law 1341 = .ok (.aload_n 3, 1) := dLb_49.2.2.2.2.2.2.2.2.2.2.1
theorem dL_law_1342 : decode cL_law 1342 = .ok (.invokestatic 248, 3) := dLb_49.2.2.2.2.2.2.2.2.2.2.2.1
theorem dL_law_1345 : decode cL_law 1345 = .ok (.istore 5, 2) := dLb_49.2.2.2.2.2.2.2.2.2.2.2.2.1
theorem dL_law_1347 : decode cL_law 1347 = .ok (.aload_n 2, 1) := dLb_49.2.2.2.2.2.2.2.2.2.2.2.2.2.1
theorem dL_law_1348 : decode cL_law 1348 = .ok (.aload_n 0, 1) := dLb_49.2.2.2.2.2.2.2.2.2.2.2.2.2.2.1
theorem dL_law_1349 : decode cL_law 1349 = .ok (.iload 4, 2) := dLb_49.2.2.2.2.2.2.2.2.2.2.2.2.2.2.2
theorem dLb_50 : (decode cL_law 1351 = .ok (.iconst 1, 1)) ∧ (decode cL_law 1352 = .ok (.iadd, 1)) ∧ (decode cL_law 1353 = .ok (.iaload, 1)) ∧ (decode cL_law 1354 = .ok (.aload_n 0, 1)) ∧ (decode cL_law 1355 = .ok (.iload 4, 2)) ∧ (decode cL_law 1357 = .ok (.iconst 2, 1)) ∧ (decode cL_law 1358 = .ok (.iadd, 1)) ∧ (decode cL_law 1359 = .ok (.iaload, 1)) ∧ (decode cL_law 1360 = .ok (.invokevirtual 250, 3)) ∧ (decode cL_law 1363 = .ok (.istore 6, 2)) ∧ (decode cL_law 1365 = .ok (.goto 726, 3)) ∧ (decode cL_law 1368 = .ok (.aload_n 1, 1)) ∧ (decode cL_law 1369 = .ok (.aload_n 0, 1)) ∧ (decode cL_law 1370 = .ok (.iload 4, 2)) ∧ (decode cL_law 1372 = .ok (.iconst 1, 1)) ∧ (decode cL_law 1373 = .ok (.iadd, 1)) := by decide +kernel
theorem dL_law_1351 : decode cL_law 1351 = .ok (.iconst 1, 1) := dLb_50.1
theorem dL_law_1352 : decode cL_law 1352 = .ok (.iadd, 1) := dLb_50.2.1
theorem dL_law_1353 : decode cL_law 1353 = .ok (.iaload, 1) := dLb_50.2.2.1
theorem dL_law_1354 : decode cL_law 1354 = .ok (.aload_n 0, 1) := dLb_50.2.2.2.1
theorem dL_law_1355 : decode cL_law 1355 = .ok (.iload 4, 2) := dLb_50.2.2.2.2.1
theorem dL_law_1357 : decode cL_law 1357 = .ok (.iconst 2, 1) := dLb_50.2.2.2.2.2.1
theorem dL_law_1358 : decode cL_law 1358 = .ok (.iadd, 1) := dLb_50.2.2.2.2.2.2.1
theorem dL_law_1359 : decode cL_law 1359 = .ok (.iaload, 1) := dLb_50.2.2.2.2.2.2.2.1
theorem dL_law_1360 : decode cL_law 1360 = .ok (.invokevirtual 250, 3) := dLb_50.2.2.2.2.2.2.2.2.1
theorem dL_law_1363 : decode cL_law 1363 = .ok (.istore 6, 2) := dLb_50.2.2.2.2.2.2.2.2.2.1
theorem dL_law_1365 : decode cL_law 1365 = .ok (.goto 726, 3) := dLb_50.2.2.2.2.2.2.2.2.2.2.1
theorem dL_law_1368 : decode cL_law 1368 = .ok (.aload_n 1, 1) := dLb_50.2.2.2.2.2.2.2.2.2.2.2.1
theorem dL_law_1369 : decode cL_law 1369 = .ok (.aload_n 0, 1) := dLb_50.2.2.2.2.2.2.2.2.2.2.2.2.1
theorem dL_law_1370 : decode cL_law 1370 = .ok (.iload 4, 2) := dLb_50.2.2.2.2.2.2.2.2.2.2.2.2.2.1
theorem dL_law_1372 : decode cL_law 1372 = .ok (.iconst 1, 1) := dLb_50.2.2.2.2.2.2.2.2.2.2.2.2.2.2.1
theorem dL_law_1373 : decode cL_law 1373 = .ok (.iadd, 1) := dLb_50.2.2.2.2.2.2.2.2.2.2.2.2.2.2.2
theorem dLb_51 : (decode cL_law 1374 = .ok (.iaload, 1)) ∧ (decode cL_law 1375 = .ok (.aload_n 0, 1)) ∧ (decode cL_law 1376 = .ok (.iload 4, 2)) ∧ (decode cL_law 1378 = .ok (.iconst 2, 1)) ∧ (decode cL_law 1379 = .ok (.iadd, 1)) ∧ (decode cL_law 1380 = .ok (.iaload, 1)) ∧ (decode cL_law 1381 = .ok (.ifCond .eq 7, 3)) ∧ (decode cL_law 1384 = .ok (.iconst 1, 1)) ∧ (decode cL_law 1385 = .ok (.goto 4, 3)) ∧ (decode cL_law 1388 = .ok (.iconst 0, 1)) ∧ (decode cL_law 1389 = .ok (.aload_n 3, 1)) ∧ (decode cL_law 1390 = .ok (.invokestatic 251, 3)) ∧ (decode cL_law 1393 = .ok (.istore 5, 2)) ∧ (decode cL_law 1395 = .ok (.aload_n 2, 1)) ∧ (decode cL_law 1396 = .ok (.aload_n 0, 1)) ∧ (decode cL_law 1397 = .ok (.iload 4, 2)) := by decide +kernel
theorem dL_law_1374 : decode cL_law 1374 = .ok (.iaload, 1) := dLb_51.1
theorem dL_law_1375 : decode cL_law 1375 = .ok (.aload_n 0, 1) := dLb_51.2.1
theorem dL_law_1376 : decode cL_law 1376 = .ok (.iload 4, 2) := dLb_51.2.2.1
theorem dL_law_1378 : decode cL_law 1378 = .ok (.iconst 2, 1) := dLb_51.2.2.2.1
theorem dL_law_1379 : decode cL_law 1379 = .ok (.iadd, 1) := dLb_51.2.2.2.2.1
theorem dL_law_1380 : decode cL_law 1380 = .ok (.iaload, 1) := dLb_51.2.2.2.2.2.1
theorem dL_law_1381 : decode cL_law 1381 = .ok (.ifCond .eq 7, 3) := dLb_51.2.2.2.2.2.2.1
theorem dL_law_1384 : decode cL_law 1384 = .ok (.iconst 1, 1) := dLb_51.2.2.2.2.2.2.2.1
theorem dL_law_1385 : decode cL_law 1385 = .ok (.goto 4, 3) := dLb_51.2.2.2.2.2.2.2.2.1
theorem dL_law_1388 : decode cL_law 1388 = .ok (.iconst 0, 1) := dLb_51.2.2.2.2.2.2.2.2.2.1
theorem dL_law_1389 : decode cL_law 1389 = .ok (.aload_n 3, 1) := dLb_51.2.2.2.2.2.2.2.2.2.2.1
theorem dL_law_1390 : decode cL_law 1390 = .ok (.invokestatic 251, 3) := dLb_51.2.2.2.2.2.2.2.2.2.2.2.1
theorem dL_law_1393 : decode cL_law 1393 = .ok (.istore 5, 2) := dLb_51.2.2.2.2.2.2.2.2.2.2.2.2.1
theorem dL_law_1395 : decode cL_law 1395 = .ok (.aload_n 2, 1) := dLb_51.2.2.2.2.2.2.2.2.2.2.2.2.2.1
theorem dL_law_1396 : decode cL_law 1396 = .ok (.aload_n 0, 1) := dLb_51.2.2.2.2.2.2.2.2.2.2.2.2.2.2.1
theorem dL_law_1397 : decode cL_law 1397 = .ok (.iload 4, 2) := dLb_51.2.2.2.2.2.2.2.2.2.2.2.2.2.2.2
theorem dLb_52 : (decode cL_law 1399 = .ok (.iconst 1, 1)) ∧ (decode cL_law 1400 = .ok (.iadd, 1)) ∧ (decode cL_law 1401 = .ok (.iaload, 1)) ∧ (decode cL_law 1402 = .ok (.aload_n 0, 1)) ∧ (decode cL_law 1403 = .ok (.iload 4, 2)) ∧ (decode cL_law 1405 = .ok (.iconst 2, 1)) ∧ (decode cL_law 1406 = .ok (.iadd, 1)) ∧ (decode cL_law 1407 = .ok (.iaload, 1)) ∧ (decode cL_law 1408 = .ok (.ifCond .eq 7, 3)) ∧ (decode cL_law 1411 = .ok (.iconst 1, 1)) ∧ (decode cL_law 1412 = .ok (.goto 4, 3)) ∧ (decode cL_law 1415 = .ok (.iconst 0, 1)) ∧ (decode cL_law 1416 = .ok (.invokevirtual 254, 3)) ∧ (decode cL_law 1419 = .ok (.istore 6, 2)) ∧ (decode cL_law 1421 = .ok (.goto 670, 3)) ∧ (decode cL_law 1424 = .ok (.aload_n 1, 1)) := by decide +kernel
theorem dL_law_1399 : decode cL_law 1399 = .ok (.iconst 1, 1) := dLb_52.1
theorem dL_law_1400 : decode cL_law 1400 = .ok (.iadd, 1) := dLb_52.2.1
theorem dL_law_1401 : decode cL_law 1401 = .ok (.iaload, 1) := dLb_52.2.2.1
theorem dL_law_1402 : decode cL_law 1402 = .ok (.aload_n 0, 1) := dLb_52.2.2.2.1
theorem dL_law_1403 : decode cL_law 1403 = .ok (.iload 4, 2) := dLb_52.2.2.2.2.1
theorem dL_law_1405 : decode cL_law 1405 = .ok (.iconst 2, 1) := dLb_52.2.2.2.2.2.1
theorem dL_law_1406 : decode cL_law 1406 = .ok (.iadd, 1) := dLb_52.2.2.2.2.2.2.1
theorem dL_law_1407 : decode cL_law 1407 = .ok (.iaload, 1) := dLb_52.2.2.2.2.2.2.2.1
theorem dL_law_1408 : decode cL_law 1408 = .ok (.ifCond .eq 7, 3) := dLb_52.2.2.2.2.2.2.2.2.1
theorem dL_law_1411 : decode cL_law 1411 = .ok (.iconst 1, 1) := dLb_52.2.2.2.2.2.2.2.2.2.1
theorem dL_law_1412 : decode cL_law 1412 = .ok (.goto 4, 3) := dLb_52.2.2.2.2.2.2.2.2.2.2.1
theorem dL_law_1415 : decode cL_law 1415 = .ok (.iconst 0, 1) := dLb_52.2.2.2.2.2.2.2.2.2.2.2.1
theorem dL_law_1416 : decode cL_law 1416 = .ok (.invokevirtual 254, 3) := dLb_52.2.2.2.2.2.2.2.2.2.2.2.2.1
theorem dL_law_1419 : decode cL_law 1419 = .ok (.istore 6, 2) := dLb_52.2.2.2.2.2.2.2.2.2.2.2.2.2.1
theorem dL_law_1421 : decode cL_law 1421 = .ok (.goto 670, 3) := dLb_52.2.2.2.2.2.2.2.2.2.2.2.2.2.2.1
theorem dL_law_1424 : decode cL_law 1424 = .ok (.aload_n 1, 1) := dLb_52.2.2.2.2.2.2.2.2.2.2.2.2.2.2.2
theorem dLb_53 : (decode cL_law 1425 = .ok (.aload_n 0, 1)) ∧ (decode cL_law 1426 = .ok (.iload 4, 2)) ∧ (decode cL_law 1428 = .ok (.iconst 1, 1)) ∧ (decode cL_law 1429 = .ok (.iadd, 1)) ∧ (decode cL_law 1430 = .ok (.iaload, 1)) ∧ (decode cL_law 1431 = .ok (.aload_n 3, 1)) ∧ (decode cL_law 1432 = .ok (.invokestatic 255, 3)) ∧ (decode cL_law 1435 = .ok (.istore 5, 2)) ∧ (decode cL_law 1437 = .ok (.aload_n 2, 1)) ∧ (decode cL_law 1438 = .ok (.aload_n 0, 1)) ∧ (decode cL_law 1439 = .ok (.iload 4, 2)) ∧ (decode cL_law 1441 = .ok (.iconst 1, 1)) ∧ (decode cL_law 1442 = .ok (.iadd, 1)) ∧ (decode cL_law 1443 = .ok (.iaload, 1)) ∧ (decode cL_law 1444 = .ok (.invokevirtual 257, 3)) ∧ (decode cL_law 1447 = .ok (.istore 6, 2)) := by decide +kernel
theorem dL_law_1425 : decode cL_law 1425 = .ok (.aload_n 0, 1) := dLb_53.1
theorem dL_law_1426 : decode cL_law 1426 = .ok (.iload 4, 2) := dLb_53.2.1
theorem dL_law_1428 : decode cL_law 1428 = .ok (.iconst 1, 1) := dLb_53.2.2.1
theorem dL_law_1429 : decode cL_law 1429 = .ok (.iadd, 1) := dLb_53.2.2.2.1
theorem dL_law_1430 : decode cL_law 1430 = .ok (.iaload, 1) := dLb_53.2.2.2.2.1
theorem dL_law_1431 : decode cL_law 1431 = .ok (.aload_n 3, 1) := dLb_53.2.2.2.2.2.1
theorem dL_law_1432 : decode cL_law 1432 = .ok (.invokestatic 255, 3) := dLb_53.2.2.2.2.2.2.1
theorem dL_law_1435 : decode cL_law 1435 = .ok (.istore 5, 2) := dLb_53.2.2.2.2.2.2.2.1
theorem dL_law_1437 : decode cL_law 1437 = .ok (.aload_n 2, 1) := dLb_53.2.2.2.2.2.2.2.2.1
theorem dL_law_1438 : decode cL_law 1438 = .ok (.aload_n 0, 1) := dLb_53.2.2.2.2.2.2.2.2.2.1
theorem dL_law_1439 : decode cL_law 1439 = .ok (.iload 4, 2) := dLb_53.2.2.2.2.2.2.2.2.2.2.1
theorem dL_law_1441 : decode cL_law 1441 = .ok (.iconst 1, 1) := dLb_53.2.2.2.2.2.2.2.2.2.2.2.1
theorem dL_law_1442 : decode cL_law 1442 = .ok (.iadd, 1) := dLb_53.2.2.2.2.2.2.2.2.2.2.2.2.1
theorem dL_law_1443 : decode cL_law 1443 = .ok (.iaload, 1) := dLb_53.2.2.2.2.2.2.2.2.2.2.2.2.2.1
theorem dL_law_1444 : decode cL_law 1444 = .ok (.invokevirtual 257, 3) := dLb_53.2.2.2.2.2.2.2.2.2.2.2.2.2.2.1
theorem dL_law_1447 : decode cL_law 1447 = .ok (.istore 6, 2) := dLb_53.2.2.2.2.2.2.2.2.2.2.2.2.2.2.2
theorem dLb_54 : (decode cL_law 1449 = .ok (.goto 642, 3)) ∧ (decode cL_law 1452 = .ok (.aload_n 1, 1)) ∧ (decode cL_law 1453 = .ok (.aload_n 0, 1)) ∧ (decode cL_law 1454 = .ok (.iload 4, 2)) ∧ (decode cL_law 1456 = .ok (.iconst 1, 1)) ∧ (decode cL_law 1457 = .ok (.iadd, 1)) ∧ (decode cL_law 1458 = .ok (.iaload, 1)) ∧ (decode cL_law 1459 = .ok (.aload_n 0, 1)) ∧ (decode cL_law 1460 = .ok (.iload 4, 2)) ∧ (decode cL_law 1462 = .ok (.iconst 2, 1)) ∧ (decode cL_law 1463 = .ok (.iadd, 1)) ∧ (decode cL_law 1464 = .ok (.iaload, 1)) ∧ (decode cL_law 1465 = .ok (.aload_n 3, 1)) ∧ (decode cL_law 1466 = .ok (.invokestatic 258, 3)) ∧ (decode cL_law 1469 = .ok (.istore 5, 2)) ∧ (decode cL_law 1471 = .ok (.aload_n 2, 1)) := by decide +kernel
theorem dL_law_1449 : decode cL_law 1449 = .ok (.goto 642, 3) := dLb_54.1
theorem dL_law_1452 : decode cL_law 1452 = .ok (.aload_n 1, 1) := dLb_54.2.1
theorem dL_law_1453 : decode cL_law 1453 = .ok (.aload_n 0, 1) := dLb_54.2.2.1
theorem dL_law_1454 : decode cL_law 1454 = .ok (.iload 4, 2) := dLb_54.2.2.2.1
theorem dL_law_1456 : decode cL_law 1456 = .ok (.iconst 1, 1) := dLb_54.2.2.2.2.1
theorem dL_law_1457 : decode cL_law 1457 = .ok (.iadd, 1) := dLb_54.2.2.2.2.2.1
theorem dL_law_1458 : decode cL_law 1458 = .ok (.iaload, 1) := dLb_54.2.2.2.2.2.2.1
theorem dL_law_1459 : decode cL_law 1459 = .ok (.aload_n 0, 1) := dLb_54.2.2.2.2.2.2.2.1
theorem dL_law_1460 : decode cL_law 1460 = .ok (.iload 4, 2) := dLb_54.2.2.2.2.2.2.2.2.1
theorem dL_law_1462 : decode cL_law 1462 = .ok (.iconst 2, 1) := dLb_54.2.2.2.2.2.2.2.2.2.1
theorem dL_law_1463 : decode cL_law 1463 = .ok (.iadd, 1) := dLb_54.2.2.2.2.2.2.2.2.2.2.1
theorem dL_law_1464 : decode cL_law 1464 = .ok (.iaload, 1) := dLb_54.2.2.2.2.2.2.2.2.2.2.2.1
theorem dL_law_1465 : decode cL_law 1465 = .ok (.aload_n 3, 1) := dLb_54.2.2.2.2.2.2.2.2.2.2.2.2.1
theorem dL_law_1466 : decode cL_law 1466 = .ok (.invokestatic 258, 3) := dLb_54.2.2.2.2.2.2.2.2.2.2.2.2.2.1
theorem dL_law_1469 : decode cL_law 1469 = .ok (.istore 5, 2) := dLb_54.2.2.2.2.2.2.2.2.2.2.2.2.2.2.1
theorem dL_law_1471 : decode cL_law 1471 = .ok (.aload_n 2, 1) := dLb_54.2.2.2.2.2.2.2.2.2.2.2.2.2.2.2
theorem dLb_55 : (decode cL_law 1472 = .ok (.aload_n 0, 1)) ∧ (decode cL_law 1473 = .ok (.iload 4, 2)) ∧ (decode cL_law 1475 = .ok (.iconst 1, 1)) ∧ (decode cL_law 1476 = .ok (.iadd, 1)) ∧ (decode cL_law 1477 = .ok (.iaload, 1)) ∧ (decode cL_law 1478 = .ok (.aload_n 0, 1)) ∧ (decode cL_law 1479 = .ok (.iload 4, 2)) ∧ (decode cL_law 1481 = .ok (.iconst 2, 1)) ∧ (decode cL_law 1482 = .ok (.iadd, 1)) ∧ (decode cL_law 1483 = .ok (.iaload, 1)) ∧ (decode cL_law 1484 = .ok (.invokevirtual 260, 3)) ∧ (decode cL_law 1487 = .ok (.istore 6, 2)) ∧ (decode cL_law 1489 = .ok (.goto 602, 3)) ∧ (decode cL_law 1492 = .ok (.aload_n 1, 1)) ∧ (decode cL_law 1493 = .ok (.aload_n 0, 1)) ∧ (decode cL_law 1494 = .ok (.iload 4, 2)) := by decide +kernel
theorem dL_law_1472 : decode cL_law 1472 = .ok (.aload_n 0, 1) := dLb_55.1
theorem dL_law_1473 : decode cL_law 1473 = .ok (.iload 4, 2) := dLb_55.2.1
theorem dL_law_1475 : decode cL_law 1475 = .ok (.iconst 1, 1) := dLb_55.2.2.1
theorem dL_law_1476 : decode cL_law 1476 = .ok (.iadd, 1) := dLb_55.2.2.2.1
theorem dL_law_1477 : decode cL_law 1477 = .ok (.iaload, 1) := dLb_55.2.2.2.2.1
theorem dL_law_1478 : decode cL_law 1478 = .ok (.aload_n 0, 1) := dLb_55.2.2.2.2.2.1
theorem dL_law_1479 : decode cL_law 1479 = .ok (.iload 4, 2) := dLb_55.2.2.2.2.2.2.1
theorem dL_law_1481 : decode cL_law 1481 = .ok (.iconst 2, 1) := dLb_55.2.2.2.2.2.2.2.1
theorem dL_law_1482 : decode cL_law 1482 = .ok (.iadd, 1) := dLb_55.2.2.2.2.2.2.2.2.1
theorem dL_law_1483 : decode cL_law 1483 = .ok (.iaload, 1) := dLb_55.2.2.2.2.2.2.2.2.2.1
theorem dL_law_1484 : decode cL_law 1484 = .ok (.invokevirtual 260, 3) := dLb_55.2.2.2.2.2.2.2.2.2.2.1
theorem dL_law_1487 : decode cL_law 1487 = .ok (.istore 6, 2) := dLb_55.2.2.2.2.2.2.2.2.2.2.2.1
theorem dL_law_1489 : decode cL_law 1489 = .ok (.goto 602, 3) := dLb_55.2.2.2.2.2.2.2.2.2.2.2.2.1
theorem dL_law_1492 : decode cL_law 1492 = .ok (.aload_n 1, 1) := dLb_55.2.2.2.2.2.2.2.2.2.2.2.2.2.1
theorem dL_law_1493 : decode cL_law 1493 = .ok (.aload_n 0, 1) := dLb_55.2.2.2.2.2.2.2.2.2.2.2.2.2.2.1
theorem dL_law_1494 : decode cL_law 1494 = .ok (.iload 4, 2) := dLb_55.2.2.2.2.2.2.2.2.2.2.2.2.2.2.2
theorem dLb_56 : (decode cL_law 1496 = .ok (.iconst 1, 1)) ∧ (decode cL_law 1497 = .ok (.iadd, 1)) ∧ (decode cL_law 1498 = .ok (.iaload, 1)) ∧ (decode cL_law 1499 = .ok (.aload_n 0, 1)) ∧ (decode cL_law 1500 = .ok (.iload 4, 2)) ∧ (decode cL_law 1502 = .ok (.iconst 2, 1)) ∧ (decode cL_law 1503 = .ok (.iadd, 1)) ∧ (decode cL_law 1504 = .ok (.iaload, 1)) ∧ (decode cL_law 1505 = .ok (.aload_n 0, 1)) ∧ (decode cL_law 1506 = .ok (.iload 4, 2)) ∧ (decode cL_law 1508 = .ok (.iconst 3, 1)) ∧ (decode cL_law 1509 = .ok (.iadd, 1)) ∧ (decode cL_law 1510 = .ok (.iaload, 1)) ∧ (decode cL_law 1511 = .ok (.aload_n 3, 1)) ∧ (decode cL_law 1512 = .ok (.invokestatic 261, 3)) ∧ (decode cL_law 1515 = .ok (.istore 5, 2)) := by decide +kernel
theorem dL_law_1496 : decode cL_law 1496 = .ok (.iconst 1, 1) := dLb_56.1
theorem dL_law_1497 : decode cL_law 1497 = .ok (.iadd, 1) := dLb_56.2.1
theorem dL_law_1498 : decode cL_law 1498 = .ok (.iaload, 1) := dLb_56.2.2.1
theorem dL_law_1499 : decode cL_law 1499 = .ok (.aload_n 0, 1) := dLb_56.2.2.2.1
theorem dL_law_1500 : decode cL_law 1500 = .ok (.iload 4, 2) := dLb_56.2.2.2.2.1
theorem dL_law_1502 : decode cL_law 1502 = .ok (.iconst 2, 1) := dLb_56.2.2.2.2.2.1
theorem dL_law_1503 : decode cL_law 1503 = .ok (.iadd, 1) := dLb_56.2.2.2.2.2.2.1
theorem dL_law_1504 : decode cL_law 1504 = .ok (.iaload, 1) := dLb_56.2.2.2.2.2.2.2.1
theorem dL_law_1505 : decode cL_law 1505 = .ok (.aload_n 0, 1) := dLb_56.2.2.2.2.2.2.2.2.1
theorem dL_law_1506 : decode cL_law 1506 = .ok (.iload 4, 2) := dLb_56.2.2.2.2.2.2.2.2.2.1
theorem dL_law_1508 : decode cL_law 1508 = .ok (.iconst 3, 1) := dLb_56.2.2.2.2.2.2.2.2.2.2.1
theorem dL_law_1509 : decode cL_law 1509 = .ok (.iadd, 1) := dLb_56.2.2.2.2.2.2.2.2.2.2.2.1
theorem dL_law_1510 : decode cL_law 1510 = .ok (.iaload, 1) := dLb_56.2.2.2.2.2.2.2.2.2.2.2.2.1
theorem dL_law_1511 : decode cL_law 1511 = .ok (.aload_n 3, 1) := dLb_56.2.2.2.2.2.2.2.2.2.2.2.2.2.1
theorem dL_law_1512 : decode cL_law 1512 = .ok (.invokestatic 261, 3) := dLb_56.2.2.2.2.2.2.2.2.2.2.2.2.2.2.1
theorem dL_law_1515 : decode cL_law 1515 = .ok (.istore 5, 2) := dLb_56.2.2.2.2.2.2.2.2.2.2.2.2.2.2.2
theorem dLb_57 : (decode cL_law 1517 = .ok (.aload_n 2, 1)) ∧ (decode cL_law 1518 = .ok (.aload_n 0, 1)) ∧ (decode cL_law 1519 = .ok (.iload 4, 2)) ∧ (decode cL_law 1521 = .ok (.iconst 1, 1)) ∧ (decode cL_law 1522 = .ok (.iadd, 1)) ∧ (decode cL_law 1523 = .ok (.iaload, 1)) ∧ (decode cL_law 1524 = .ok (.aload_n 0, 1)) ∧ (decode cL_law 1525 = .ok (.iload 4, 2)) ∧ (decode cL_law 1527 = .ok (.iconst 2, 1)) ∧ (decode cL_law 1528 = .ok (.iadd, 1)) ∧ (decode cL_law 1529 = .ok (.iaload, 1)) ∧ (decode cL_law 1530 = .ok (.aload_n 0, 1)) ∧ (decode cL_law 1531 = .ok (.iload 4, 2)) ∧ (decode cL_law 1533 = .ok (.iconst 3, 1)) ∧ (decode cL_law 1534 = .ok (.iadd, 1)) ∧ (decode cL_law 1535 = .ok (.iaload, 1)) := by decide +kernel
theorem dL_law_1517 : decode cL_law 1517 = .ok (.aload_n 2, 1) := dLb_57.1
theorem dL_law_1518 : decode cL_law 1518 = .ok (.aload_n 0, 1) := dLb_57.2.1
theorem dL_law_1519 : decode cL_law 1519 = .ok (.iload 4, 2) := dLb_57.2.2.1
theorem dL_law_1521 : decode cL_law 1521 = .ok (.iconst 1, 1) := dLb_57.2.2.2.1
theorem dL_law_1522 : decode cL_law 1522 = .ok (.iadd, 1) := dLb_57.2.2.2.2.1
theorem dL_law_1523 : decode cL_law 1523 = .ok (.iaload, 1) := dLb_57.2.2.2.2.2.1
theorem dL_law_1524 : decode cL_law 1524 = .ok (.aload_n 0, 1) := dLb_57.2.2.2.2.2.2.1
theorem dL_law_1525 : decode cL_law 1525 = .ok (.iload 4, 2) := dLb_57.2.2.2.2.2.2.2.1
theorem dL_law_1527 : decode cL_law 1527 = .ok (.iconst 2, 1) := dLb_57.2.2.2.2.2.2.2.2.1
theorem dL_law_1528 : decode cL_law 1528 = .ok (.iadd, 1) := dLb_57.2.2.2.2.2.2.2.2.2.1
theorem dL_law_1529 : decode cL_law 1529 = .ok (.iaload, 1) := dLb_57.2.2.2.2.2.2.2.2.2.2.1
theorem dL_law_1530 : decode cL_law 1530 = .ok (.aload_n 0, 1) := dLb_57.2.2.2.2.2.2.2.2.2.2.2.1
theorem dL_law_1531 : decode cL_law 1531 = .ok (.iload 4, 2) := dLb_57.2.2.2.2.2.2.2.2.2.2.2.2.1
theorem dL_law_1533 : decode cL_law 1533 = .ok (.iconst 3, 1) := dLb_57.2.2.2.2.2.2.2.2.2.2.2.2.2.1
theorem dL_law_1534 : decode cL_law 1534 = .ok (.iadd, 1) := dLb_57.2.2.2.2.2.2.2.2.2.2.2.2.2.2.1
theorem dL_law_1535 : decode cL_law 1535 = .ok (.iaload, 1) := dLb_57.2.2.2.2.2.2.2.2.2.2.2.2.2.2.2
theorem dLb_58 : (decode cL_law 1536 = .ok (.invokevirtual 263, 3)) ∧ (decode cL_law 1539 = .ok (.istore 6, 2)) ∧ (decode cL_law 1541 = .ok (.goto 550, 3)) ∧ (decode cL_law 1544 = .ok (.aload_n 1, 1)) ∧ (decode cL_law 1545 = .ok (.aload_n 0, 1)) ∧ (decode cL_law 1546 = .ok (.iload 4, 2)) ∧ (decode cL_law 1548 = .ok (.iconst 1, 1)) ∧ (decode cL_law 1549 = .ok (.iadd, 1)) ∧ (decode cL_law 1550 = .ok (.iaload, 1)) ∧ (decode cL_law 1551 = .ok (.aload_n 0, 1)) ∧ (decode cL_law 1552 = .ok (.iload 4, 2)) ∧ (decode cL_law 1554 = .ok (.iconst 2, 1)) ∧ (decode cL_law 1555 = .ok (.iadd, 1)) ∧ (decode cL_law 1556 = .ok (.iaload, 1)) ∧ (decode cL_law 1557 = .ok (.aload_n 3, 1)) ∧ (decode cL_law 1558 = .ok (.invokestatic 264, 3)) := by decide +kernel
theorem dL_law_1536 : decode cL_law 1536 = .ok (.invokevirtual 263, 3) := dLb_58.1
theorem dL_law_1539 : decode cL_law 1539 = .ok (.istore 6, 2) := dLb_58.2.1
theorem dL_law_1541 : decode cL_law 1541 = .ok (.goto 550, 3) := dLb_58.2.2.1
theorem dL_law_1544 : decode cL_law 1544 = .ok (.aload_n 1, 1) := dLb_58.2.2.2.1
theorem dL_law_1545 : decode cL_law 1545 = .ok (.aload_n 0, 1) := dLb_58.2.2.2.2.1
theorem dL_law_1546 : decode cL_law 1546 = .ok (.iload 4, 2) := dLb_58.2.2.2.2.2.1
theorem dL_law_1548 : decode cL_law 1548 = .ok (.iconst 1, 1) := dLb_58.2.2.2.2.2.2.1
theorem dL_law_1549 : decode cL_law 1549 = .ok (.iadd, 1) := dLb_58.2.2.2.2.2.2.2.1
theorem dL_law_1550 : decode cL_law 1550 = .ok (.iaload, 1) := dLb_58.2.2.2.2.2.2.2.2.1
theorem dL_law_1551 : decode cL_law 1551 = .ok (.aload_n 0, 1) := dLb_58.2.2.2.2.2.2.2.2.2.1
theorem dL_law_1552 : decode cL_law 1552 = .ok (.iload 4, 2) := dLb_58.2.2.2.2.2.2.2.2.2.2.1
theorem dL_law_1554 : decode cL_law 1554 = .ok (.iconst 2, 1) := dLb_58.2.2.2.2.2.2.2.2.2.2.2.1
theorem dL_law_1555 : decode cL_law 1555 = .ok (.iadd, 1) := dLb_58.2.2.2.2.2.2.2.2.2.2.2.2.1
theorem dL_law_1556 : decode cL_law 1556 = .ok (.iaload, 1) := dLb_58.2.2.2.2.2.2.2.2.2.2.2.2.2.1
theorem dL_law_1557 : decode cL_law 1557 = .ok (.aload_n 3, 1) := dLb_58.2.2.2.2.2.2.2.2.2.2.2.2.2.2.1
theorem dL_law_1558 : decode cL_law 1558 = .ok (.invokestatic 264, 3) := dLb_58.2.2.2.2.2.2.2.2.2.2.2.2.2.2.2
theorem dLb_59 : (decode cL_law 1561 = .ok (.istore 5, 2)) ∧ (decode cL_law 1563 = .ok (.aload_n 2, 1)) ∧ (decode cL_law 1564 = .ok (.aload_n 0, 1)) ∧ (decode cL_law 1565 = .ok (.iload 4, 2)) ∧ (decode cL_law 1567 = .ok (.iconst 1, 1)) ∧ (decode cL_law 1568 = .ok (.iadd, 1)) ∧ (decode cL_law 1569 = .ok (.iaload, 1)) ∧ (decode cL_law 1570 = .ok (.aload_n 0, 1)) ∧ (decode cL_law 1571 = .ok (.iload 4, 2)) ∧ (decode cL_law 1573 = .ok (.iconst 2, 1)) ∧ (decode cL_law 1574 = .ok (.iadd, 1)) ∧ (decode cL_law 1575 = .ok (.iaload, 1)) ∧ (decode cL_law 1576 = .ok (.invokevirtual 266, 3)) ∧ (decode cL_law 1579 = .ok (.istore 6, 2)) ∧ (decode cL_law 1581 = .ok (.goto 510, 3)) ∧ (decode cL_law 1584 = .ok (.aload_n 1, 1)) := by decide +kernel
theorem dL_law_1561 : decode cL_law 1561 = .ok (.istore 5, 2) := dLb_59.1
theorem dL_law_1563 : decode cL_law 1563 = .ok (.aload_n 2, 1) := dLb_59.2.1
theorem dL_law_1564 : decode cL_law 1564 = .ok (.aload_n 0, 1) := dLb_59.2.2.1
theorem dL_law_1565 : decode cL_law 1565 = .ok (.iload 4, 2) := dLb_59.2.2.2.1
theorem dL_law_1567 : decode cL_law 1567 = .ok (.iconst 1, 1) := dLb_59.2.2.2.2.1
theorem dL_law_1568 : decode cL_law 1568 = .ok (.iadd, 1) := dLb_59.2.2.2.2.2.1
theorem dL_law_1569 : decode cL_law 1569 = .ok (.iaload, 1) := dLb_59.2.2.2.2.2.2.1
theorem dL_law_1570 : decode cL_law 1570 = .ok (.aload_n 0, 1) := dLb_59.2.2.2.2.2.2.2.1
theorem dL_law_1571 : decode cL_law 1571 = .ok (.iload 4, 2) := dLb_59.2.2.2.2.2.2.2.2.1
theorem dL_law_1573 : decode cL_law 1573 = .ok (.iconst 2, 1) := dLb_59.2.2.2.2.2.2.2.2.2.1
theorem dL_law_1574 : decode cL_law 1574 = .ok (.iadd, 1) := dLb_59.2.2.2.2.2.2.2.2.2.2.1
theorem dL_law_1575 : decode cL_law 1575 = .ok (.iaload, 1) := dLb_59.2.2.2.2.2.2.2.2.2.2.2.1
theorem dL_law_1576 : decode cL_law 1576 = .ok (.invokevirtual 266, 3) := dLb_59.2.2.2.2.2.2.2.2.2.2.2.2.1
theorem dL_law_1579 : decode cL_law 1579 = .ok (.istore 6, 2) := dLb_59.2.2.2.2.2.2.2.2.2.2.2.2.2.1
theorem dL_law_1581 : decode cL_law 1581 = .ok (.goto 510, 3) := dLb_59.2.2.2.2.2.2.2.2.2.2.2.2.2.2.1
theorem dL_law_1584 : decode cL_law 1584 = .ok (.aload_n 1, 1) := dLb_59.2.2.2.2.2.2.2.2.2.2.2.2.2.2.2
theorem dLb_60 : (decode cL_law 1585 = .ok (.aload_n 0, 1)) ∧ (decode cL_law 1586 = .ok (.iload 4, 2)) ∧ (decode cL_law 1588 = .ok (.iconst 1, 1)) ∧ (decode cL_law 1589 = .ok (.iadd, 1)) ∧ (decode cL_law 1590 = .ok (.iaload, 1)) ∧ (decode cL_law 1591 = .ok (.aload_n 0, 1)) ∧ (decode cL_law 1592 = .ok (.iload 4, 2)) ∧ (decode cL_law 1594 = .ok (.iconst 2, 1)) ∧ (decode cL_law 1595 = .ok (.iadd, 1)) ∧ (decode cL_law 1596 = .ok (.iaload, 1)) ∧ (decode cL_law 1597 = .ok (.aload_n 0, 1)) ∧ (decode cL_law 1598 = .ok (.iload 4, 2)) ∧ (decode cL_law 1600 = .ok (.iconst 3, 1)) ∧ (decode cL_law 1601 = .ok (.iadd, 1)) ∧ (decode cL_law 1602 = .ok (.iaload, 1)) ∧ (decode cL_law 1603 = .ok (.aload_n 3, 1)) := by decide +kernel
theorem dL_law_1585 : decode cL_law 1585 = .ok (.aload_n 0, 1) := dLb_60.1
theorem dL_law_1586 : decode cL_law 1586 = .ok (.iload 4, 2) := dLb_60.2.1
theorem dL_law_1588 : decode cL_law 1588 = .ok (.iconst 1, 1) := dLb_60.2.2.1
theorem dL_law_1589 : decode cL_law 1589 = .ok (.iadd, 1) := dLb_60.2.2.2.1
theorem dL_law_1590 : decode cL_law 1590 = .ok (.iaload, 1) := dLb_60.2.2.2.2.1
theorem dL_law_1591 : decode cL_law 1591 = .ok (.aload_n 0, 1) := dLb_60.2.2.2.2.2.1
theorem dL_law_1592 : decode cL_law 1592 = .ok (.iload 4, 2) := dLb_60.2.2.2.2.2.2.1
theorem dL_law_1594 : decode cL_law 1594 = .ok (.iconst 2, 1) := dLb_60.2.2.2.2.2.2.2.1
theorem dL_law_1595 : decode cL_law 1595 = .ok (.iadd, 1) := dLb_60.2.2.2.2.2.2.2.2.1
theorem dL_law_1596 : decode cL_law 1596 = .ok (.iaload, 1) := dLb_60.2.2.2.2.2.2.2.2.2.1
theorem dL_law_1597 : decode cL_law 1597 = .ok (.aload_n 0, 1) := dLb_60.2.2.2.2.2.2.2.2.2.2.1
theorem dL_law_1598 : decode cL_law 1598 = .ok (.iload 4, 2) := dLb_60.2.2.2.2.2.2.2.2.2.2.2.1
theorem dL_law_1600 : decode cL_law 1600 = .ok (.iconst 3, 1) := dLb_60.2.2.2.2.2.2.2.2.2.2.2.2.1
theorem dL_law_1601 : decode cL_law 1601 = .ok (.iadd, 1) := dLb_60.2.2.2.2.2.2.2.2.2.2.2.2.2.1
theorem dL_law_1602 : decode cL_law 1602 = .ok (.iaload, 1) := dLb_60.2.2.2.2.2.2.2.2.2.2.2.2.2.2.1
theorem dL_law_1603 : decode cL_law 1603 = .ok (.aload_n 3, 1) := dLb_60.2.2.2.2.2.2.2.2.2.2.2.2.2.2.2
theorem dLb_61 : (decode cL_law 1604 = .ok (.invokestatic 267, 3)) ∧ (decode cL_law 1607 = .ok (.istore 5, 2)) ∧ (decode cL_law 1609 = .ok (.aload_n 2, 1)) ∧ (decode cL_law 1610 = .ok (.aload_n 0, 1)) ∧ (decode cL_law 1611 = .ok (.iload 4, 2)) ∧ (decode cL_law 1613 = .ok (.iconst 1, 1)) ∧ (decode cL_law 1614 = .ok (.iadd, 1)) ∧ (decode cL_law 1615 = .ok (.iaload, 1)) ∧ (decode cL_law 1616 = .ok (.aload_n 0, 1)) ∧ (decode cL_law 1617 = .ok (.iload 4, 2)) ∧ (decode cL_law 1619 = .ok (.iconst 2, 1)) ∧ (decode cL_law 1620 = .ok (.iadd, 1)) ∧ (decode cL_law 1621 = .ok (.iaload, 1)) ∧ (decode cL_law 1622 = .ok (.aload_n 0, 1)) ∧ (decode cL_law 1623 = .ok (.iload 4, 2)) ∧ (decode cL_law 1625 = .ok (.iconst 3, 1)) := by decide +kernel
theorem dL_law_1604 : decode cL_law 1604 = .ok (.invokestatic 267, 3) := dLb_61.1
theorem dL_law_1607 : decode cL_law 1607 = .ok (.istore 5, 2) := dLb_61.2.1
theorem dL_law_1609 : decode cL_law 1609 = .ok (.aload_n 2, 1) := dLb_61.2.2.1
theorem dL_law_1610 : decode cL_law 1610 = .ok (.aload_n 0, 1) := dLb_61.2.2.2.1
theorem dL_law_1611 : decode cL_law 1611 = .ok (.iload 4, 2) := dLb_61.2.2.2.2.1
theorem dL_law_1613 : decode cL_law 1613 = .ok (.iconst 1, 1) := dLb_61.2.2.2.2.2.1
theorem dL_law_1614 : decode cL_law 1614 = .ok (.iadd, 1) := dLb_61.2.2.2.2.2.2.1
theorem dL_law_1615 : decode cL_law 1615 = .ok (.iaload, 1) := dLb_61.2.2.2.2.2.2.2.1
theorem dL_law_1616 : decode cL_law 1616 = .ok (.aload_n 0, 1) := dLb_61.2.2.2.2.2.2.2.2.1
theorem dL_law_1617 : decode cL_law 1617 = .ok (.iload 4, 2) := dLb_61.2.2.2.2.2.2.2.2.2.1
theorem dL_law_1619 : decode cL_law 1619 = .ok (.iconst 2, 1) := dLb_61.2.2.2.2.2.2.2.2.2.2.1
theorem dL_law_1620 : decode cL_law 1620 = .ok (.iadd, 1) := dLb_61.2.2.2.2.2.2.2.2.2.2.2.1
theorem dL_law_1621 : decode cL_law 1621 = .ok (.iaload, 1) := dLb_61.2.2.2.2.2.2.2.2.2.2.2.2.1
theorem dL_law_1622 : decode cL_law 1622 = .ok (.aload_n 0, 1) := dLb_61.2.2.2.2.2.2.2.2.2.2.2.2.2.1
theorem dL_law_1623 : decode cL_law 1623 = .ok (.iload 4, 2) := dLb_61.2.2.2.2.2.2.2.2.2.2.2.2.2.2.1
theorem dL_law_1625 : decode cL_law 1625 = .ok (.iconst 3, 1) := dLb_61.2.2.2.2.2.2.2.2.2.2.2.2.2.2.2
theorem dLb_62 : (decode cL_law 1626 = .ok (.iadd, 1)) ∧ (decode cL_law 1627 = .ok (.iaload, 1)) ∧ (decode cL_law 1628 = .ok (.invokevirtual 269, 3)) ∧ (decode cL_law 1631 = .ok (.istore 6, 2)) ∧ (decode cL_law 1633 = .ok (.goto 458, 3)) ∧ (decode cL_law 1636 = .ok (.aload_n 1, 1)) ∧ (decode cL_law 1637 = .ok (.aload_n 0, 1)) ∧ (decode cL_law 1638 = .ok (.iload 4, 2)) ∧ (decode cL_law 1640 = .ok (.iconst 1, 1)) ∧ (decode cL_law 1641 = .ok (.iadd, 1)) ∧ (decode cL_law 1642 = .ok (.iaload, 1)) ∧ (decode cL_law 1643 = .ok (.aload_n 0, 1)) ∧ (decode cL_law 1644 = .ok (.iload 4, 2)) ∧ (decode cL_law 1646 = .ok (.iconst 2, 1)) ∧ (decode cL_law 1647 = .ok (.iadd, 1)) ∧ (decode cL_law 1648 = .ok (.iaload, 1)) := by decide +kernel
theorem dL_law_1626 : decode cL_law 1626 = .ok (.iadd, 1) := dLb_62.1
theorem dL_law_1627 : decode cL_law 1627 = .ok (.iaload, 1) := dLb_62.2.1
theorem dL_law_1628 : decode cL_law 1628 = .ok (.invokevirtual 269, 3) := dLb_62.2.2.1
theorem dL_law_1631 : decode cL_law 1631 = .ok (.istore 6, 2) := dLb_62.2.2.2.1
theorem dL_law_1633 : decode cL_law 1633 = .ok (.goto 458, 3) := dLb_62.2.2.2.2.1
theorem dL_law_1636 : decode cL_law 1636 = .ok (.aload_n 1, 1) := dLb_62.2.2.2.2.2.1
theorem dL_law_1637 : decode cL_law 1637 = .ok (.aload_n 0, 1) := dLb_62.2.2.2.2.2.2.1
theorem dL_law_1638 : decode cL_law 1638 = .ok (.iload 4, 2) := dLb_62.2.2.2.2.2.2.2.1
theorem dL_law_1640 : decode cL_law 1640 = .ok (.iconst 1, 1) := dLb_62.2.2.2.2.2.2.2.2.1
theorem dL_law_1641 : decode cL_law 1641 = .ok (.iadd, 1) := dLb_62.2.2.2.2.2.2.2.2.2.1
theorem dL_law_1642 : decode cL_law 1642 = .ok (.iaload, 1) := dLb_62.2.2.2.2.2.2.2.2.2.2.1
theorem dL_law_1643 : decode cL_law 1643 = .ok (.aload_n 0, 1) := dLb_62.2.2.2.2.2.2.2.2.2.2.2.1
theorem dL_law_1644 : decode cL_law 1644 = .ok (.iload 4, 2) := dLb_62.2.2.2.2.2.2.2.2.2.2.2.2.1
theorem dL_law_1646 : decode cL_law 1646 = .ok (.iconst 2, 1) := dLb_62.2.2.2.2.2.2.2.2.2.2.2.2.2.1
theorem dL_law_1647 : decode cL_law 1647 = .ok (.iadd, 1) := dLb_62.2.2.2.2.2.2.2.2.2.2.2.2.2.2.1
theorem dL_law_1648 : decode cL_law 1648 = .ok (.iaload, 1) := dLb_62.2.2.2.2.2.2.2.2.2.2.2.2.2.2.2
theorem dLb_63 : (decode cL_law 1649 = .ok (.aload_n 3, 1)) ∧ (decode cL_law 1650 = .ok (.invokestatic 270, 3)) ∧ (decode cL_law 1653 = .ok (.istore 5, 2)) ∧ (decode cL_law 1655 = .ok (.aload_n 2, 1)) ∧ (decode cL_law 1656 = .ok (.aload_n 0, 1)) ∧ (decode cL_law 1657 = .ok (.iload 4, 2)) ∧ (decode cL_law 1659 = .ok (.iconst 1, 1)) ∧ (decode cL_law 1660 = .ok (.iadd, 1)) ∧ (decode cL_law 1661 = .ok (.iaload, 1)) ∧ (decode cL_law 1662 = .ok (.aload_n 0, 1)) ∧ (decode cL_law 1663 = .ok (.iload 4, 2)) ∧ (decode cL_law 1665 = .ok (.iconst 2, 1)) ∧ (decode cL_law 1666 = .ok (.iadd, 1)) ∧ (decode cL_law 1667 = .ok (.iaload, 1)) ∧ (decode cL_law 1668 = .ok (.invokevirtual 272, 3)) ∧ (decode cL_law 1671 = .ok (.istore 6, 2)) := by decide +kernel
theorem dL_law_1649 : decode cL_law 1649 = .ok (.aload_n 3, 1) := dLb_63.1
theorem dL_law_1650 : decode cL_law 1650 = .ok (.invokestatic 270, 3) := dLb_63.2.1
theorem dL_law_1653 : decode cL_law 1653 = .ok (.istore 5, 2) := dLb_63.2.2.1
theorem dL_law_1655 : decode cL_law 1655 = .ok (.aload_n 2, 1) := dLb_63.2.2.2.1
theorem dL_law_1656 : decode cL_law 1656 = .ok (.aload_n 0, 1) := dLb_63.2.2.2.2.1
theorem dL_law_1657 : decode cL_law 1657 = .ok (.iload 4, 2) := dLb_63.2.2.2.2.2.1
theorem dL_law_1659 : decode cL_law 1659 = .ok (.iconst 1, 1) := dLb_63.2.2.2.2.2.2.1
theorem dL_law_1660 : decode cL_law 1660 = .ok (.iadd, 1) := dLb_63.2.2.2.2.2.2.2.1
theorem dL_law_1661 : decode cL_law 1661 = .ok (.iaload, 1) := dLb_63.2.2.2.2.2.2.2.2.1
theorem dL_law_1662 : decode cL_law 1662 = .ok (.aload_n 0, 1) := dLb_63.2.2.2.2.2.2.2.2.2.1
theorem dL_law_1663 : decode cL_law 1663 = .ok (.iload 4, 2) := dLb_63.2.2.2.2.2.2.2.2.2.2.1
theorem dL_law_1665 : decode cL_law 1665 = .ok (.iconst 2, 1) := dLb_63.2.2.2.2.2.2.2.2.2.2.2.1
theorem dL_law_1666 : decode cL_law 1666 = .ok (.iadd, 1) := dLb_63.2.2.2.2.2.2.2.2.2.2.2.2.1
theorem dL_law_1667 : decode cL_law 1667 = .ok (.iaload, 1) := dLb_63.2.2.2.2.2.2.2.2.2.2.2.2.2.1
theorem dL_law_1668 : decode cL_law 1668 = .ok (.invokevirtual 272, 3) := dLb_63.2.2.2.2.2.2.2.2.2.2.2.2.2.2.1
theorem dL_law_1671 : decode cL_law 1671 = .ok (.istore 6, 2) := dLb_63.2.2.2.2.2.2.2.2.2.2.2.2.2.2.2
theorem dLb_64 : (decode cL_law 1673 = .ok (.goto 418, 3)) ∧ (decode cL_law 1676 = .ok (.aload_n 1, 1)) ∧ (decode cL_law 1677 = .ok (.aload_n 0, 1)) ∧ (decode cL_law 1678 = .ok (.iload 4, 2)) ∧ (decode cL_law 1680 = .ok (.iconst 1, 1)) ∧ (decode cL_law 1681 = .ok (.iadd, 1)) ∧ (decode cL_law 1682 = .ok (.iaload, 1)) ∧ (decode cL_law 1683 = .ok (.aload_n 0, 1)) ∧ (decode cL_law 1684 = .ok (.iload 4, 2)) ∧ (decode cL_law 1686 = .ok (.iconst 2, 1)) ∧ (decode cL_law 1687 = .ok (.iadd, 1)) ∧ (decode cL_law 1688 = .ok (.iaload, 1)) ∧ (decode cL_law 1689 = .ok (.aload_n 3, 1)) ∧ (decode cL_law 1690 = .ok (.invokestatic 273, 3)) ∧ (decode cL_law 1693 = .ok (.istore 5, 2)) ∧ (decode cL_law 1695 = .ok (.aload_n 2, 1)) := by decide +kernel
theorem dL_law_1673 : decode cL_law 1673 = .ok (.goto 418, 3) := dLb_64.1
theorem dL_law_1676 : decode cL_law 1676 = .ok (.aload_n 1, 1) := dLb_64.2.1
theorem dL_law_1677 : decode cL_law 1677 = .ok (.aload_n 0, 1) := dLb_64.2.2.1
theorem dL_law_1678 : decode cL_law 1678 = .ok (.iload 4, 2) := dLb_64.2.2.2.1
theorem dL_law_1680 : decode cL_law 1680 = .ok (.iconst 1, 1) := dLb_64.2.2.2.2.1
theorem dL_law_1681 : decode cL_law 1681 = .ok (.iadd, 1) := dLb_64.2.2.2.2.2.1
theorem dL_law_1682 : decode cL_law 1682 = .ok (.iaload, 1) := dLb_64.2.2.2.2.2.2.1
theorem dL_law_1683 : decode cL_law 1683 = .ok (.aload_n 0, 1) := dLb_64.2.2.2.2.2.2.2.1
theorem dL_law_1684 : decode cL_law 1684 = .ok (.iload 4, 2) := dLb_64.2.2.2.2.2.2.2.2.1
theorem dL_law_1686 : decode cL_law 1686 = .ok (.iconst 2, 1) := dLb_64.2.2.2.2.2.2.2.2.2.1
theorem dL_law_1687 : decode cL_law 1687 = .ok (.iadd, 1) := dLb_64.2.2.2.2.2.2.2.2.2.2.1
theorem dL_law_1688 : decode cL_law 1688 = .ok (.iaload, 1) := dLb_64.2.2.2.2.2.2.2.2.2.2.2.1
theorem dL_law_1689 : decode cL_law 1689 = .ok (.aload_n 3, 1) := dLb_64.2.2.2.2.2.2.2.2.2.2.2.2.1
theorem dL_law_1690 : decode cL_law 1690 = .ok (.invokestatic 273, 3) := dLb_64.2.2.2.2.2.2.2.2.2.2.2.2.2.1
theorem dL_law_1693 : decode cL_law 1693 = .ok (.istore 5, 2) := dLb_64.2.2.2.2.2.2.2.2.2.2.2.2.2.2.1
theorem dL_law_1695 : decode cL_law 1695 = .ok (.aload_n 2, 1) := dLb_64.2.2.2.2.2.2.2.2.2.2.2.2.2.2.2
theorem dLb_65 : (decode cL_law 1696 = .ok (.aload_n 0, 1)) ∧ (decode cL_law 1697 = .ok (.iload 4, 2)) ∧ (decode cL_law 1699 = .ok (.iconst 1, 1)) ∧ (decode cL_law 1700 = .ok (.iadd, 1)) ∧ (decode cL_law 1701 = .ok (.iaload, 1)) ∧ (decode cL_law 1702 = .ok (.aload_n 0, 1)) ∧ (decode cL_law 1703 = .ok (.iload 4, 2)) ∧ (decode cL_law 1705 = .ok (.iconst 2, 1)) ∧ (decode cL_law 1706 = .ok (.iadd, 1)) ∧ (decode cL_law 1707 = .ok (.iaload, 1)) ∧ (decode cL_law 1708 = .ok (.invokevirtual 275, 3)) ∧ (decode cL_law 1711 = .ok (.istore 6, 2)) ∧ (decode cL_law 1713 = .ok (.goto 378, 3)) ∧ (decode cL_law 1716 = .ok (.aload_n 1, 1)) ∧ (decode cL_law 1717 = .ok (.aload_n 0, 1)) ∧ (decode cL_law 1718 = .ok (.iload 4, 2)) := by decide +kernel
theorem dL_law_1696 : decode cL_law 1696 = .ok (.aload_n 0, 1) := dLb_65.1
theorem dL_law_1697 : decode cL_law 1697 = .ok (.iload 4, 2) := dLb_65.2.1
theorem dL_law_1699 : decode cL_law 1699 = .ok (.iconst 1, 1) := dLb_65.2.2.1
theorem dL_law_1700 : decode cL_law 1700 = .ok (.iadd, 1) := dLb_65.2.2.2.1
theorem dL_law_1701 : decode cL_law 1701 = .ok (.iaload, 1) := dLb_65.2.2.2.2.1
theorem dL_law_1702 : decode cL_law 1702 = .ok (.aload_n 0, 1) := dLb_65.2.2.2.2.2.1
theorem dL_law_1703 : decode cL_law 1703 = .ok (.iload 4, 2) := dLb_65.2.2.2.2.2.2.1
theorem dL_law_1705 : decode cL_law 1705 = .ok (.iconst 2, 1) := dLb_65.2.2.2.2.2.2.2.1
theorem dL_law_1706 : decode cL_law 1706 = .ok (.iadd, 1) := dLb_65.2.2.2.2.2.2.2.2.1
theorem dL_law_1707 : decode cL_law 1707 = .ok (.iaload, 1) := dLb_65.2.2.2.2.2.2.2.2.2.1
theorem dL_law_1708 : decode cL_law 1708 = .ok (.invokevirtual 275, 3) := dLb_65.2.2.2.2.2.2.2.2.2.2.1
theorem dL_law_1711 : decode cL_law 1711 = .ok (.istore 6, 2) := dLb_65.2.2.2.2.2.2.2.2.2.2.2.1
theorem dL_law_1713 : decode cL_law 1713 = .ok (.goto 378, 3) := dLb_65.2.2.2.2.2.2.2.2.2.2.2.2.1
theorem dL_law_1716 : decode cL_law 1716 = .ok (.aload_n 1, 1) := dLb_65.2.2.2.2.2.2.2.2.2.2.2.2.2.1
theorem dL_law_1717 : decode cL_law 1717 = .ok (.aload_n 0, 1) := dLb_65.2.2.2.2.2.2.2.2.2.2.2.2.2.2.1
theorem dL_law_1718 : decode cL_law 1718 = .ok (.iload 4, 2) := dLb_65.2.2.2.2.2.2.2.2.2.2.2.2.2.2.2
theorem dLb_66 : (decode cL_law 1720 = .ok (.iconst 1, 1)) ∧ (decode cL_law 1721 = .ok (.iadd, 1)) ∧ (decode cL_law 1722 = .ok (.iaload, 1)) ∧ (decode cL_law 1723 = .ok (.aload_n 0, 1)) ∧ (decode cL_law 1724 = .ok (.iload 4, 2)) ∧ (decode cL_law 1726 = .ok (.iconst 2, 1)) ∧ (decode cL_law 1727 = .ok (.iadd, 1)) ∧ (decode cL_law 1728 = .ok (.iaload, 1)) ∧ (decode cL_law 1729 = .ok (.aload_n 3, 1)) ∧ (decode cL_law 1730 = .ok (.invokestatic 276, 3)) ∧ (decode cL_law 1733 = .ok (.istore 5, 2)) ∧ (decode cL_law 1735 = .ok (.aload_n 2, 1)) ∧ (decode cL_law 1736 = .ok (.aload_n 0, 1)) ∧ (decode cL_law 1737 = .ok (.iload 4, 2)) ∧ (decode cL_law 1739 = .ok (.iconst 1, 1)) ∧ (decode cL_law 1740 = .ok (.iadd, 1)) := by decide +kernel
theorem dL_law_1720 : decode cL_law 1720 = .ok (.iconst 1, 1) := dLb_66.1
theorem dL_law_1721 : decode cL_law 1721 = .ok (.iadd, 1) := dLb_66.2.1
theorem dL_law_1722 : decode cL_law 1722 = .ok (.iaload, 1) := dLb_66.2.2.1
theorem dL_law_1723 : decode cL_law 1723 = .ok (.aload_n 0, 1) := dLb_66.2.2.2.1
theorem dL_law_1724 : decode cL_law 1724 = .ok (.iload 4, 2) := dLb_66.2.2.2.2.1
theorem dL_law_1726 : decode cL_law 1726 = .ok (.iconst 2, 1) := dLb_66.2.2.2.2.2.1
theorem dL_law_1727 : decode cL_law 1727 = .ok (.iadd, 1) := dLb_66.2.2.2.2.2.2.1
theorem dL_law_1728 : decode cL_law 1728 = .ok (.iaload, 1) := dLb_66.2.2.2.2.2.2.2.1
theorem dL_law_1729 : decode cL_law 1729 = .ok (.aload_n 3, 1) := dLb_66.2.2.2.2.2.2.2.2.1
theorem dL_law_1730 : decode cL_law 1730 = .ok (.invokestatic 276, 3) := dLb_66.2.2.2.2.2.2.2.2.2.1
theorem dL_law_1733 : decode cL_law 1733 = .ok (.istore 5, 2) := dLb_66.2.2.2.2.2.2.2.2.2.2.1
theorem dL_law_1735 : decode cL_law 1735 = .ok (.aload_n 2, 1) := dLb_66.2.2.2.2.2.2.2.2.2.2.2.1
theorem dL_law_1736 : decode cL_law 1736 = .ok (.aload_n 0, 1) := dLb_66.2.2.2.2.2.2.2.2.2.2.2.2.1
theorem dL_law_1737 : decode cL_law 1737 = .ok (.iload 4, 2) := dLb_66.2.2.2.2.2.2.2.2.2.2.2.2.2.1
theorem dL_law_1739 : decode cL_law 1739 = .ok (.iconst 1, 1) := dLb_66.2.2.2.2.2.2.2.2.2.2.2.2.2.2.1
theorem dL_law_1740 : decode cL_law 1740 = .ok (.iadd, 1) := dLb_66.2.2.2.2.2.2.2.2.2.2.2.2.2.2.2
theorem dLb_67 : (decode cL_law 1741 = .ok (.iaload, 1)) ∧ (decode cL_law 1742 = .ok (.aload_n 0, 1)) ∧ (decode cL_law 1743 = .ok (.iload 4, 2)) ∧ (decode cL_law 1745 = .ok (.iconst 2, 1)) ∧ (decode cL_law 1746 = .ok (.iadd, 1)) ∧ (decode cL_law 1747 = .ok (.iaload, 1)) ∧ (decode cL_law 1748 = .ok (.invokevirtual 278, 3)) ∧ (decode cL_law 1751 = .ok (.istore 6, 2)) ∧ (decode cL_law 1753 = .ok (.goto 338, 3)) ∧ (decode cL_law 1756 = .ok (.aload_n 1, 1)) ∧ (decode cL_law 1757 = .ok (.aload_n 0, 1)) ∧ (decode cL_law 1758 = .ok (.iload 4, 2)) ∧ (decode cL_law 1760 = .ok (.iconst 1, 1)) ∧ (decode cL_law 1761 = .ok (.iadd, 1)) ∧ (decode cL_law 1762 = .ok (.iaload, 1)) ∧ (decode cL_law 1763 = .ok (.aload_n 0, 1)) := by decide +kernel
theorem dL_law_1741 : decode cL_law 1741 = .ok (.iaload, 1) := dLb_67.1
theorem dL_law_1742 : decode cL_law 1742 = .ok (.aload_n 0, 1) := dLb_67.2.1
theorem dL_law_1743 : decode cL_law 1743 = .ok (.iload 4, 2) := dLb_67.2.2.1
theorem dL_law_1745 : decode cL_law 1745 = .ok (.iconst 2, 1) := dLb_67.2.2.2.1
theorem dL_law_1746 : decode cL_law 1746 = .ok (.iadd, 1) := dLb_67.2.2.2.2.1
theorem dL_law_1747 : decode cL_law 1747 = .ok (.iaload, 1) := dLb_67.2.2.2.2.2.1
theorem dL_law_1748 : decode cL_law 1748 = .ok (.invokevirtual 278, 3) := dLb_67.2.2.2.2.2.2.1
theorem dL_law_1751 : decode cL_law 1751 = .ok (.istore 6, 2) := dLb_67.2.2.2.2.2.2.2.1
theorem dL_law_1753 : decode cL_law 1753 = .ok (.goto 338, 3) := dLb_67.2.2.2.2.2.2.2.2.1
theorem dL_law_1756 : decode cL_law 1756 = .ok (.aload_n 1, 1) := dLb_67.2.2.2.2.2.2.2.2.2.1
theorem dL_law_1757 : decode cL_law 1757 = .ok (.aload_n 0, 1) := dLb_67.2.2.2.2.2.2.2.2.2.2.1
theorem dL_law_1758 : decode cL_law 1758 = .ok (.iload 4, 2) := dLb_67.2.2.2.2.2.2.2.2.2.2.2.1
theorem dL_law_1760 : decode cL_law 1760 = .ok (.iconst 1, 1) := dLb_67.2.2.2.2.2.2.2.2.2.2.2.2.1
theorem dL_law_1761 : decode cL_law 1761 = .ok (.iadd, 1) := dLb_67.2.2.2.2.2.2.2.2.2.2.2.2.2.1
theorem dL_law_1762 : decode cL_law 1762 = .ok (.iaload, 1) := dLb_67.2.2.2.2.2.2.2.2.2.2.2.2.2.2.1
theorem dL_law_1763 : decode cL_law 1763 = .ok (.aload_n 0, 1) := dLb_67.2.2.2.2.2.2.2.2.2.2.2.2.2.2.2
theorem dLb_68 : (decode cL_law 1764 = .ok (.iload 4, 2)) ∧ (decode cL_law 1766 = .ok (.iconst 2, 1)) ∧ (decode cL_law 1767 = .ok (.iadd, 1)) ∧ (decode cL_law 1768 = .ok (.iaload, 1)) ∧ (decode cL_law 1769 = .ok (.aload_n 3, 1)) ∧ (decode cL_law 1770 = .ok (.invokestatic 279, 3)) ∧ (decode cL_law 1773 = .ok (.istore 5, 2)) ∧ (decode cL_law 1775 = .ok (.aload_n 2, 1)) ∧ (decode cL_law 1776 = .ok (.aload_n 0, 1)) ∧ (decode cL_law 1777 = .ok (.iload 4, 2)) ∧ (decode cL_law 1779 = .ok (.iconst 1, 1)) ∧ (decode cL_law 1780 = .ok (.iadd, 1)) ∧ (decode cL_law 1781 = .ok (.iaload, 1)) ∧ (decode cL_law 1782 = .ok (.aload_n 0, 1)) ∧ (decode cL_law 1783 = .ok (.iload 4, 2)) ∧ (decode cL_law 1785 = .ok (.iconst 2, 1)) := by decide +kernel
theorem dL_law_1764 : decode cL_law 1764 = .ok (.iload 4, 2) := dLb_68.1
theorem dL_law_1766 : decode cL_law 1766 = .ok (.iconst 2, 1) := dLb_68.2.1
theorem dL_law_1767 : decode cL_law 1767 = .ok (.iadd, 1) := dLb_68.2.2.1
theorem dL_law_1768 : decode cL_law 1768 = .ok (.iaload, 1) := dLb_68.2.2.2.1
theorem dL_law_1769 : decode cL_law 1769 = .ok (.aload_n 3, 1) := dLb_68.2.2.2.2.1
theorem dL_law_1770 : decode cL_law 1770 = .ok (.invokestatic 279, 3) := dLb_68.2.2.2.2.2.1
theorem dL_law_1773 : decode cL_law 1773 = .ok (.istore 5, 2) := dLb_68.2.2.2.2.2.2.1
theorem dL_law_1775 : decode cL_law 1775 = .ok (.aload_n 2, 1) := dLb_68.2.2.2.2.2.2.2.1
theorem dL_law_1776 : decode cL_law 1776 = .ok (.aload_n 0, 1) := dLb_68.2.2.2.2.2.2.2.2.1
theorem dL_law_1777 : decode cL_law 1777 = .ok (.iload 4, 2) := dLb_68.2.2.2.2.2.2.2.2.2.1
theorem dL_law_1779 : decode cL_law 1779 = .ok (.iconst 1, 1) := dLb_68.2.2.2.2.2.2.2.2.2.2.1
theorem dL_law_1780 : decode cL_law 1780 = .ok (.iadd, 1) := dLb_68.2.2.2.2.2.2.2.2.2.2.2.1
theorem dL_law_1781 : decode cL_law 1781 = .ok (.iaload, 1) := dLb_68.2.2.2.2.2.2.2.2.2.2.2.2.1
theorem dL_law_1782 : decode cL_law 1782 = .ok (.aload_n 0, 1) := dLb_68.2.2.2.2.2.2.2.2.2.2.2.2.2.1
theorem dL_law_1783 : decode cL_law 1783 = .ok (.iload 4, 2) := dLb_68.2.2.2.2.2.2.2.2.2.2.2.2.2.2.1
theorem dL_law_1785 : decode cL_law 1785 = .ok (.iconst 2, 1) := dLb_68.2.2.2.2.2.2.2.2.2.2.2.2.2.2.2
theorem dLb_69 : (decode cL_law 1786 = .ok (.iadd, 1)) ∧ (decode cL_law 1787 = .ok (.iaload, 1)) ∧ (decode cL_law 1788 = .ok (.invokevirtual 281, 3)) ∧ (decode cL_law 1791 = .ok (.istore 6, 2)) ∧ (decode cL_law 1793 = .ok (.goto 298, 3)) ∧ (decode cL_law 1796 = .ok (.aload_n 1, 1)) ∧ (decode cL_law 1797 = .ok (.aload_n 0, 1)) ∧ (decode cL_law 1798 = .ok (.iload 4, 2)) ∧ (decode cL_law 1800 = .ok (.iconst 1, 1)) ∧ (decode cL_law 1801 = .ok (.iadd, 1)) ∧ (decode cL_law 1802 = .ok (.iaload, 1)) ∧ (decode cL_law 1803 = .ok (.aload_n 0, 1)) ∧ (decode cL_law 1804 = .ok (.iload 4, 2)) ∧ (decode cL_law 1806 = .ok (.iconst 2, 1)) ∧ (decode cL_law 1807 = .ok (.iadd, 1)) ∧ (decode cL_law 1808 = .ok (.iaload, 1)) := by decide +kernel
theorem dL_law_1786 : decode cL_law 1786 = .ok (.iadd, 1) := dLb_69.1
theorem dL_law_1787 : decode cL_law 1787 = .ok (.iaload, 1) := dLb_69.2.1
theorem dL_law_1788 : decode cL_law 1788 = .ok (.invokevirtual 281, 3) := dLb_69.2.2.1
theorem dL_law_1791 : decode cL_law 1791 = .ok (.istore 6, 2) := dLb_69.2.2.2.1
theorem dL_law_1793 : decode cL_law 1793 = .ok (.goto 298, 3) := dLb_69.2.2.2.2.1
theorem dL_law_1796 : decode cL_law 1796 = .ok (.aload_n 1, 1) := dLb_69.2.2.2.2.2.1
theorem dL_law_1797 : decode cL_law 1797 = .ok (.aload_n 0, 1) := dLb_69.2.2.2.2.2.2.1
theorem dL_law_1798 : decode cL_law 1798 = .ok (.iload 4, 2) := dLb_69.2.2.2.2.2.2.2.1
theorem dL_law_1800 : decode cL_law 1800 = .ok (.iconst 1, 1) := dLb_69.2.2.2.2.2.2.2.2.1
theorem dL_law_1801 : decode cL_law 1801 = .ok (.iadd, 1) := dLb_69.2.2.2.2.2.2.2.2.2.1
theorem dL_law_1802 : decode cL_law 1802 = .ok (.iaload, 1) := dLb_69.2.2.2.2.2.2.2.2.2.2.1
theorem dL_law_1803 : decode cL_law 1803 = .ok (.aload_n 0, 1) := dLb_69.2.2.2.2.2.2.2.2.2.2.2.1
theorem dL_law_1804 : decode cL_law 1804 = .ok (.iload 4, 2) := dLb_69.2.2.2.2.2.2.2.2.2.2.2.2.1
theorem dL_law_1806 : decode cL_law 1806 = .ok (.iconst 2, 1) := dLb_69.2.2.2.2.2.2.2.2.2.2.2.2.2.1
theorem dL_law_1807 : decode cL_law 1807 = .ok (.iadd, 1) := dLb_69.2.2.2.2.2.2.2.2.2.2.2.2.2.2.1
theorem dL_law_1808 : decode cL_law 1808 = .ok (.iaload, 1) := dLb_69.2.2.2.2.2.2.2.2.2.2.2.2.2.2.2
theorem dLb_70 : (decode cL_law 1809 = .ok (.aload_n 3, 1)) ∧ (decode cL_law 1810 = .ok (.invokestatic 282, 3)) ∧ (decode cL_law 1813 = .ok (.istore 5, 2)) ∧ (decode cL_law 1815 = .ok (.aload_n 2, 1)) ∧ (decode cL_law 1816 = .ok (.aload_n 0, 1)) ∧ (decode cL_law 1817 = .ok (.iload 4, 2)) ∧ (decode cL_law 1819 = .ok (.iconst 1, 1)) ∧ (decode cL_law 1820 = .ok (.iadd, 1)) ∧ (decode cL_law 1821 = .ok (.iaload, 1)) ∧ (decode cL_law 1822 = .ok (.aload_n 0, 1)) ∧ (decode cL_law 1823 = .ok (.iload 4, 2)) ∧ (decode cL_law 1825 = .ok (.iconst 2, 1)) ∧ (decode cL_law 1826 = .ok (.iadd, 1)) ∧ (decode cL_law 1827 = .ok (.iaload, 1)) ∧ (decode cL_law 1828 = .ok (.invokevirtual 284, 3)) ∧ (decode cL_law 1831 = .ok (.istore 6, 2)) := by decide +kernel
theorem dL_law_1809 : decode cL_law 1809 = .ok (.aload_n 3, 1) := dLb_70.1
theorem dL_law_1810 : decode cL_law 1810 = .ok (.invokestatic 282, 3) := dLb_70.2.1
theorem dL_law_1813 : decode cL_law 1813 = .ok (.istore 5, 2) := dLb_70.2.2.1
theorem dL_law_1815 : decode cL_law 1815 = .ok (.aload_n 2, 1) := dLb_70.2.2.2.1
theorem dL_law_1816 : decode cL_law 1816 = .ok (.aload_n 0, 1) := dLb_70.2.2.2.2.1
theorem dL_law_1817 : decode cL_law 1817 = .ok (.iload 4, 2) := dLb_70.2.2.2.2.2.1
theorem dL_law_1819 : decode cL_law 1819 = .ok (.iconst 1, 1) := dLb_70.2.2.2.2.2.2.1
theorem dL_law_1820 : decode cL_law 1820 = .ok (.iadd, 1) := dLb_70.2.2.2.2.2.2.2.1
theorem dL_law_1821 : decode cL_law 1821 = .ok (.iaload, 1) := dLb_70.2.2.2.2.2.2.2.2.1
theorem dL_law_1822 : decode cL_law 1822 = .ok (.aload_n 0, 1) := dLb_70.2.2.2.2.2.2.2.2.2.1
theorem dL_law_1823 : decode cL_law 1823 = .ok (.iload 4, 2) := dLb_70.2.2.2.2.2.2.2.2.2.2.1
theorem dL_law_1825 : decode cL_law 1825 = .ok (.iconst 2, 1) := dLb_70.2.2.2.2.2.2.2.2.2.2.2.1
theorem dL_law_1826 : decode cL_law 1826 = .ok (.iadd, 1) := dLb_70.2.2.2.2.2.2.2.2.2.2.2.2.1
theorem dL_law_1827 : decode cL_law 1827 = .ok (.iaload, 1) := dLb_70.2.2.2.2.2.2.2.2.2.2.2.2.2.1
theorem dL_law_1828 : decode cL_law 1828 = .ok (.invokevirtual 284, 3) := dLb_70.2.2.2.2.2.2.2.2.2.2.2.2.2.2.1
theorem dL_law_1831 : decode cL_law 1831 = .ok (.istore 6, 2) := dLb_70.2.2.2.2.2.2.2.2.2.2.2.2.2.2.2
theorem dLb_71 : (decode cL_law 1833 = .ok (.goto 258, 3)) ∧ (decode cL_law 1836 = .ok (.aload_n 1, 1)) ∧ (decode cL_law 1837 = .ok (.aload_n 0, 1)) ∧ (decode cL_law 1838 = .ok (.iload 4, 2)) ∧ (decode cL_law 1840 = .ok (.iconst 1, 1)) ∧ (decode cL_law 1841 = .ok (.iadd, 1)) ∧ (decode cL_law 1842 = .ok (.iaload, 1)) ∧ (decode cL_law 1843 = .ok (.aload_n 0, 1)) ∧ (decode cL_law 1844 = .ok (.iload 4, 2)) ∧ (decode cL_law 1846 = .ok (.iconst 2, 1)) ∧ (decode cL_law 1847 = .ok (.iadd, 1)) ∧ (decode cL_law 1848 = .ok (.iaload, 1)) ∧ (decode cL_law 1849 = .ok (.aload_n 0, 1)) ∧ (decode cL_law 1850 = .ok (.iload 4, 2)) ∧ (decode cL_law 1852 = .ok (.iconst 3, 1)) ∧ (decode cL_law 1853 = .ok (.iadd, 1)) := by decide +kernel
theorem dL_law_1833 : decode cL_law 1833 = .ok (.goto 258, 3) := dLb_71.1
theorem dL_law_1836 : decode cL_law 1836 = .ok (.aload_n 1, 1) := dLb_71.2.1
theorem dL_law_1837 : decode cL_law 1837 = .ok (.aload_n 0, 1) := dLb_71.2.2.1
theorem dL_law_1838 : decode cL_law 1838 = .ok (.iload 4, 2) := dLb_71.2.2.2.1
theorem dL_law_1840 : decode cL_law 1840 = .ok (.iconst 1, 1) := dLb_71.2.2.2.2.1
theorem dL_law_1841 : decode cL_law 1841 = .ok (.iadd, 1) := dLb_71.2.2.2.2.2.1
theorem dL_law_1842 : decode cL_law 1842 = .ok (.iaload, 1) := dLb_71.2.2.2.2.2.2.1
theorem dL_law_1843 : decode cL_law 1843 = .ok (.aload_n 0, 1) := dLb_71.2.2.2.2.2.2.2.1
theorem dL_law_1844 : decode cL_law 1844 = .ok (.iload 4, 2) := dLb_71.2.2.2.2.2.2.2.2.1
theorem dL_law_1846 : decode cL_law 1846 = .ok (.iconst 2, 1) := dLb_71.2.2.2.2.2.2.2.2.2.1
theorem dL_law_1847 : decode cL_law 1847 = .ok (.iadd, 1) := dLb_71.2.2.2.2.2.2.2.2.2.2.1
theorem dL_law_1848 : decode cL_law 1848 = .ok (.iaload, 1) := dLb_71.2.2.2.2.2.2.2.2.2.2.2.1
theorem dL_law_1849 : decode cL_law 1849 = .ok (.aload_n 0, 1) := dLb_71.2.2.2.2.2.2.2.2.2.2.2.2.1
theorem dL_law_1850 : decode cL_law 1850 = .ok (.iload 4, 2) := dLb_71.2.2.2.2.2.2.2.2.2.2.2.2.2.1
theorem dL_law_1852 : decode cL_law 1852 = .ok (.iconst 3, 1) := dLb_71.2.2.2.2.2.2.2.2.2.2.2.2.2.2.1
theorem dL_law_1853 : decode cL_law 1853 = .ok (.iadd, 1) := dLb_71.2.2.2.2.2.2.2.2.2.2.2.2.2.2.2
theorem dLb_72 : (decode cL_law 1854 = .ok (.iaload, 1)) ∧ (decode cL_law 1855 = .ok (.aload_n 3, 1)) ∧ (decode cL_law 1856 = .ok (.invokestatic 285, 3)) ∧ (decode cL_law 1859 = .ok (.istore 5, 2)) ∧ (decode cL_law 1861 = .ok (.aload_n 2, 1)) ∧ (decode cL_law 1862 = .ok (.aload_n 0, 1)) ∧ (decode cL_law 1863 = .ok (.iload 4, 2)) ∧ (decode cL_law 1865 = .ok (.iconst 1, 1)) ∧ (decode cL_law 1866 = .ok (.iadd, 1)) ∧ (decode cL_law 1867 = .ok (.iaload, 1)) ∧ (decode cL_law 1868 = .ok (.aload_n 0, 1)) ∧ (decode cL_law 1869 = .ok (.iload 4, 2)) ∧ (decode cL_law 1871 = .ok (.iconst 2, 1)) ∧ (decode cL_law 1872 = .ok (.iadd, 1)) ∧ (decode cL_law 1873 = .ok (.iaload, 1)) ∧ (decode cL_law 1874 = .ok (.aload_n 0, 1)) := by decide +kernel
theorem dL_law_1854 : decode cL_law 1854 = .ok (.iaload, 1) := dLb_72.1
theorem dL_law_1855 : decode cL_law 1855 = .ok (.aload_n 3, 1) := dLb_72.2.1
theorem dL_law_1856 : decode cL_law 1856 = .ok (.invokestatic 285, 3) := dLb_72.2.2.1
theorem dL_law_1859 : decode cL_law 1859 = .ok (.istore 5, 2) := dLb_72.2.2.2.1
theorem dL_law_1861 : decode cL_law 1861 = .ok (.aload_n 2, 1) := dLb_72.2.2.2.2.1
theorem dL_law_1862 : decode cL_law 1862 = .ok (.aload_n 0, 1) := dLb_72.2.2.2.2.2.1
theorem dL_law_1863 : decode cL_law 1863 = .ok (.iload 4, 2) := dLb_72.2.2.2.2.2.2.1
theorem dL_law_1865 : decode cL_law 1865 = .ok (.iconst 1, 1) := dLb_72.2.2.2.2.2.2.2.1
theorem dL_law_1866 : decode cL_law 1866 = .ok (.iadd, 1) := dLb_72.2.2.2.2.2.2.2.2.1
theorem dL_law_1867 : decode cL_law 1867 = .ok (.iaload, 1) := dLb_72.2.2.2.2.2.2.2.2.2.1
theorem dL_law_1868 : decode cL_law 1868 = .ok (.aload_n 0, 1) := dLb_72.2.2.2.2.2.2.2.2.2.2.1
theorem dL_law_1869 : decode cL_law 1869 = .ok (.iload 4, 2) := dLb_72.2.2.2.2.2.2.2.2.2.2.2.1
theorem dL_law_1871 : decode cL_law 1871 = .ok (.iconst 2, 1) := dLb_72.2.2.2.2.2.2.2.2.2.2.2.2.1
theorem dL_law_1872 : decode cL_law 1872 = .ok (.iadd, 1) := dLb_72.2.2.2.2.2.2.2.2.2.2.2.2.2.1
theorem dL_law_1873 : decode cL_law 1873 = .ok (.iaload, 1) := dLb_72.2.2.2.2.2.2.2.2.2.2.2.2.2.2.1
theorem dL_law_1874 : decode cL_law 1874 = .ok (.aload_n 0, 1) := dLb_72.2.2.2.2.2.2.2.2.2.2.2.2.2.2.2
theorem dLb_73 : (decode cL_law 1875 = .ok (.iload 4, 2)) ∧ (decode cL_law 1877 = .ok (.iconst 3, 1)) ∧ (decode cL_law 1878 = .ok (.iadd, 1)) ∧ (decode cL_law 1879 = .ok (.iaload, 1)) ∧ (decode cL_law 1880 = .ok (.invokevirtual 287, 3)) ∧ (decode cL_law 1883 = .ok (.istore 6, 2)) ∧ (decode cL_law 1885 = .ok (.goto 206, 3)) ∧ (decode cL_law 1888 = .ok (.aload_n 1, 1)) ∧ (decode cL_law 1889 = .ok (.aload_n 0, 1)) ∧ (decode cL_law 1890 = .ok (.iload 4, 2)) ∧ (decode cL_law 1892 = .ok (.iconst 1, 1)) ∧ (decode cL_law 1893 = .ok (.iadd, 1)) ∧ (decode cL_law 1894 = .ok (.iaload, 1)) ∧ (decode cL_law 1895 = .ok (.aload_n 3, 1)) ∧ (decode cL_law 1896 = .ok (.invokestatic 288, 3)) ∧ (decode cL_law 1899 = .ok (.istore 5, 2)) := by decide +kernel
theorem dL_law_1875 : decode cL_law 1875 = .ok (.iload 4, 2) := dLb_73.1
theorem dL_law_1877 : decode cL_law 1877 = .ok (.iconst 3, 1) := dLb_73.2.1
theorem dL_law_1878 : decode cL_law 1878 = .ok (.iadd, 1) := dLb_73.2.2.1
theorem dL_law_1879 : decode cL_law 1879 = .ok (.iaload, 1) := dLb_73.2.2.2.1
theorem dL_law_1880 : decode cL_law 1880 = .ok (.invokevirtual 287, 3) := dLb_73.2.2.2.2.1
theorem dL_law_1883 : decode cL_law 1883 = .ok (.istore 6, 2) := dLb_73.2.2.2.2.2.1
theorem dL_law_1885 : decode cL_law 1885 = .ok (.goto 206, 3) := dLb_73.2.2.2.2.2.2.1
theorem dL_law_1888 : decode cL_law 1888 = .ok (.aload_n 1, 1) := dLb_73.2.2.2.2.2.2.2.1
theorem dL_law_1889 : decode cL_law 1889 = .ok (.aload_n 0, 1) := dLb_73.2.2.2.2.2.2.2.2.1
theorem dL_law_1890 : decode cL_law 1890 = .ok (.iload 4, 2) := dLb_73.2.2.2.2.2.2.2.2.2.1
theorem dL_law_1892 : decode cL_law 1892 = .ok (.iconst 1, 1) := dLb_73.2.2.2.2.2.2.2.2.2.2.1
theorem dL_law_1893 : decode cL_law 1893 = .ok (.iadd, 1) := dLb_73.2.2.2.2.2.2.2.2.2.2.2.1
theorem dL_law_1894 : decode cL_law 1894 = .ok (.iaload, 1) := dLb_73.2.2.2.2.2.2.2.2.2.2.2.2.1
theorem dL_law_1895 : decode cL_law 1895 = .ok (.aload_n 3, 1) := dLb_73.2.2.2.2.2.2.2.2.2.2.2.2.2.1
theorem dL_law_1896 : decode cL_law 1896 = .ok (.invokestatic 288, 3) := dLb_73.2.2.2.2.2.2.2.2.2.2.2.2.2.2.1
theorem dL_law_1899 : decode cL_law 1899 = .ok (.istore 5, 2) := dLb_73.2.2.2.2.2.2.2.2.2.2.2.2.2.2.2
theorem dLb_74 : (decode cL_law 1901 = .ok (.aload_n 2, 1)) ∧ (decode cL_law 1902 = .ok (.aload_n 0, 1)) ∧ (decode cL_law 1903 = .ok (.iload 4, 2)) ∧ (decode cL_law 1905 = .ok (.iconst 1, 1)) ∧ (decode cL_law 1906 = .ok (.iadd, 1)) ∧ (decode cL_law 1907 = .ok (.iaload, 1)) ∧ (decode cL_law 1908 = .ok (.invokevirtual 290, 3)) ∧ (decode cL_law 1911 = .ok (.istore 6, 2)) ∧ (decode cL_law 1913 = .ok (.goto 178, 3)) ∧ (decode cL_law 1916 = .ok (.aload_n 1, 1)) ∧ (decode cL_law 1917 = .ok (.aload_n 0, 1)) ∧ (decode cL_law 1918 = .ok (.iload 4, 2)) ∧ (decode cL_law 1920 = .ok (.iconst 1, 1)) ∧ (decode cL_law 1921 = .ok (.iadd, 1)) ∧ (decode cL_law 1922 = .ok (.iaload, 1)) ∧ (decode cL_law 1923 = .ok (.aload_n 0, 1)) := by decide +kernel
theorem dL_law_1901 : decode cL_law 1901 = .ok (.aload_n 2, 1) := dLb_74.1
theorem dL_law_1902 : decode cL_law 1902 = .ok (.aload_n 0, 1) := dLb_74.2.1
theorem dL_law_1903 : decode cL_law 1903 = .ok (.iload 4, 2) := dLb_74.2.2.1
theorem dL_law_1905 : decode cL_law 1905 = .ok (.iconst 1, 1) := dLb_74.2.2.2.1
theorem dL_law_1906 : decode cL_law 1906 = .ok (.iadd, 1) := dLb_74.2.2.2.2.1
theorem dL_law_1907 : decode cL_law 1907 = .ok (.iaload, 1) := dLb_74.2.2.2.2.2.1
theorem dL_law_1908 : decode cL_law 1908 = .ok (.invokevirtual 290, 3) := dLb_74.2.2.2.2.2.2.1
theorem dL_law_1911 : decode cL_law 1911 = .ok (.istore 6, 2) := dLb_74.2.2.2.2.2.2.2.1
theorem dL_law_1913 : decode cL_law 1913 = .ok (.goto 178, 3) := dLb_74.2.2.2.2.2.2.2.2.1
theorem dL_law_1916 : decode cL_law 1916 = .ok (.aload_n 1, 1) := dLb_74.2.2.2.2.2.2.2.2.2.1
theorem dL_law_1917 : decode cL_law 1917 = .ok (.aload_n 0, 1) := dLb_74.2.2.2.2.2.2.2.2.2.2.1
theorem dL_law_1918 : decode cL_law 1918 = .ok (.iload 4, 2) := dLb_74.2.2.2.2.2.2.2.2.2.2.2.1
theorem dL_law_1920 : decode cL_law 1920 = .ok (.iconst 1, 1) := dLb_74.2.2.2.2.2.2.2.2.2.2.2.2.1
theorem dL_law_1921 : decode cL_law 1921 = .ok (.iadd, 1) := dLb_74.2.2.2.2.2.2.2.2.2.2.2.2.2.1
theorem dL_law_1922 : decode cL_law 1922 = .ok (.iaload, 1) := dLb_74.2.2.2.2.2.2.2.2.2.2.2.2.2.2.1
theorem dL_law_1923 : decode cL_law 1923 = .ok (.aload_n 0, 1) := dLb_74.2.2.2.2.2.2.2.2.2.2.2.2.2.2.2
theorem dLb_75 : (decode cL_law 1924 = .ok (.iload 4, 2)) ∧ (decode cL_law 1926 = .ok (.iconst 2, 1)) ∧ (decode cL_law 1927 = .ok (.iadd, 1)) ∧ (decode cL_law 1928 = .ok (.iaload, 1)) ∧ (decode cL_law 1929 = .ok (.aload_n 0, 1)) ∧ (decode cL_law 1930 = .ok (.iload 4, 2)) ∧ (decode cL_law 1932 = .ok (.iconst 3, 1)) ∧ (decode cL_law 1933 = .ok (.iadd, 1)) ∧ (decode cL_law 1934 = .ok (.iaload, 1)) ∧ (decode cL_law 1935 = .ok (.aload_n 3, 1)) ∧ (decode cL_law 1936 = .ok (.invokestatic 291, 3)) ∧ (decode cL_law 1939 = .ok (.istore 5, 2)) ∧ (decode cL_law 1941 = .ok (.aload_n 2, 1)) ∧ (decode cL_law 1942 = .ok (.aload_n 0, 1)) ∧ (decode cL_law 1943 = .ok (.iload 4, 2)) ∧ (decode cL_law 1945 = .ok (.iconst 1, 1)) := by decide +kernel
theorem dL_law_1924 : decode cL_law 1924 = .ok (.iload 4, 2) := dLb_75.1
theorem dL_law_1926 : decode cL_law 1926 = .ok (.iconst 2, 1) := dLb_75.2.1
theorem dL_law_1927 : decode cL_law 1927 = .ok (.iadd, 1) := dLb_75.2.2.1
theorem dL_law_1928 : decode cL_law 1928 = .ok (.iaload, 1) := dLb_75.2.2.2.1
theorem dL_law_1929 : decode cL_law 1929 = .ok (.aload_n 0, 1) := dLb_75.2.2.2.2.1
theorem dL_law_1930 : decode cL_law 1930 = .ok (.iload 4, 2) := dLb_75.2.2.2.2.2.1
theorem dL_law_1932 : decode cL_law 1932 = .ok (.iconst 3, 1) := dLb_75.2.2.2.2.2.2.1
theorem dL_law_1933 : decode cL_law 1933 = .ok (.iadd, 1) := dLb_75.2.2.2.2.2.2.2.1
theorem dL_law_1934 : decode cL_law 1934 = .ok (.iaload, 1) := dLb_75.2.2.2.2.2.2.2.2.1
theorem dL_law_1935 : decode cL_law 1935 = .ok (.aload_n 3, 1) := dLb_75.2.2.2.2.2.2.2.2.2.1
theorem dL_law_1936 : decode cL_law 1936 = .ok (.invokestatic 291, 3) := dLb_75.2.2.2.2.2.2.2.2.2.2.1
theorem dL_law_1939 : decode cL_law 1939 = .ok (.istore 5, 2) := dLb_75.2.2.2.2.2.2.2.2.2.2.2.1
theorem dL_law_1941 : decode cL_law 1941 = .ok (.aload_n 2, 1) := dLb_75.2.2.2.2.2.2.2.2.2.2.2.2.1
theorem dL_law_1942 : decode cL_law 1942 = .ok (.aload_n 0, 1) := dLb_75.2.2.2.2.2.2.2.2.2.2.2.2.2.1
theorem dL_law_1943 : decode cL_law 1943 = .ok (.iload 4, 2) := dLb_75.2.2.2.2.2.2.2.2.2.2.2.2.2.2.1
theorem dL_law_1945 : decode cL_law 1945 = .ok (.iconst 1, 1) := dLb_75.2.2.2.2.2.2.2.2.2.2.2.2.2.2.2
theorem dLb_76 : (decode cL_law 1946 = .ok (.iadd, 1)) ∧ (decode cL_law 1947 = .ok (.iaload, 1)) ∧ (decode cL_law 1948 = .ok (.aload_n 0, 1)) ∧ (decode cL_law 1949 = .ok (.iload 4, 2)) ∧ (decode cL_law 1951 = .ok (.iconst 2, 1)) ∧ (decode cL_law 1952 = .ok (.iadd, 1)) ∧ (decode cL_law 1953 = .ok (.iaload, 1)) ∧ (decode cL_law 1954 = .ok (.aload_n 0, 1)) ∧ (decode cL_law 1955 = .ok (.iload 4, 2)) ∧ (decode cL_law 1957 = .ok (.iconst 3, 1)) ∧ (decode cL_law 1958 = .ok (.iadd, 1)) ∧ (decode cL_law 1959 = .ok (.iaload, 1)) ∧ (decode cL_law 1960 = .ok (.invokevirtual 293, 3)) ∧ (decode cL_law 1963 = .ok (.istore 6, 2)) ∧ (decode cL_law 1965 = .ok (.goto 126, 3)) ∧ (decode cL_law 1968 = .ok (.aload_n 1, 1)) := by decide +kernel
theorem dL_law_1946 : decode cL_law 1946 = .ok (.iadd, 1) := dLb_76.1
theorem dL_law_1947 : decode cL_law 1947 = .ok (.iaload, 1) := dLb_76.2.1
theorem dL_law_1948 : decode cL_law 1948 = .ok (.aload_n 0, 1) := dLb_76.2.2.1
theorem dL_law_1949 : decode cL_law 1949 = .ok (.iload 4, 2) := dLb_76.2.2.2.1
theorem dL_law_1951 : decode cL_law 1951 = .ok (.iconst 2, 1) := dLb_76.2.2.2.2.1
theorem dL_law_1952 : decode cL_law 1952 = .ok (.iadd, 1) := dLb_76.2.2.2.2.2.1
theorem dL_law_1953 : decode cL_law 1953 = .ok (.iaload, 1) := dLb_76.2.2.2.2.2.2.1
theorem dL_law_1954 : decode cL_law 1954 = .ok (.aload_n 0, 1) := dLb_76.2.2.2.2.2.2.2.1
theorem dL_law_1955 : decode cL_law 1955 = .ok (.iload 4, 2) := dLb_76.2.2.2.2.2.2.2.2.1
theorem dL_law_1957 : decode cL_law 1957 = .ok (.iconst 3, 1) := dLb_76.2.2.2.2.2.2.2.2.2.1
theorem dL_law_1958 : decode cL_law 1958 = .ok (.iadd, 1) := dLb_76.2.2.2.2.2.2.2.2.2.2.1
theorem dL_law_1959 : decode cL_law 1959 = .ok (.iaload, 1) := dLb_76.2.2.2.2.2.2.2.2.2.2.2.1
theorem dL_law_1960 : decode cL_law 1960 = .ok (.invokevirtual 293, 3) := dLb_76.2.2.2.2.2.2.2.2.2.2.2.2.1
theorem dL_law_1963 : decode cL_law 1963 = .ok (.istore 6, 2) := dLb_76.2.2.2.2.2.2.2.2.2.2.2.2.2.1
theorem dL_law_1965 : decode cL_law 1965 = .ok (.goto 126, 3) := dLb_76.2.2.2.2.2.2.2.2.2.2.2.2.2.2.1
theorem dL_law_1968 : decode cL_law 1968 = .ok (.aload_n 1, 1) := dLb_76.2.2.2.2.2.2.2.2.2.2.2.2.2.2.2
theorem dLb_77 : (decode cL_law 1969 = .ok (.invokevirtual 294, 3)) ∧ (decode cL_law 1972 = .ok (.pop, 1)) ∧ (decode cL_law 1973 = .ok (.aload_n 2, 1)) ∧ (decode cL_law 1974 = .ok (.invokevirtual 297, 3)) ∧ (decode cL_law 1977 = .ok (.pop, 1)) ∧ (decode cL_law 1978 = .ok (.goto 113, 3)) ∧ (decode cL_law 1981 = .ok (.aload_n 1, 1)) ∧ (decode cL_law 1982 = .ok (.aload_n 0, 1)) ∧ (decode cL_law 1983 = .ok (.iload 4, 2)) ∧ (decode cL_law 1985 = .ok (.iconst 1, 1)) ∧ (decode cL_law 1986 = .ok (.iadd, 1)) ∧ (decode cL_law 1987 = .ok (.iaload, 1)) ∧ (decode cL_law 1988 = .ok (.aload_n 3, 1)) ∧ (decode cL_law 1989 = .ok (.invokestatic 298, 3)) ∧ (decode cL_law 1992 = .ok (.istore 5, 2)) ∧ (decode cL_law 1994 = .ok (.aload_n 2, 1)) := by decide +kernel
theorem dL_law_1969 : decode cL_law 1969 = .ok (.invokevirtual 294, 3) := dLb_77.1
theorem dL_law_1972 : decode cL_law 1972 = .ok (.pop, 1) := dLb_77.2.1
theorem dL_law_1973 : decode cL_law 1973 = .ok (.aload_n 2, 1) := dLb_77.2.2.1
theorem dL_law_1974 : decode cL_law 1974 = .ok (.invokevirtual 297, 3) := dLb_77.2.2.2.1
theorem dL_law_1977 : decode cL_law 1977 = .ok (.pop, 1) := dLb_77.2.2.2.2.1
theorem dL_law_1978 : decode cL_law 1978 = .ok (.goto 113, 3) := dLb_77.2.2.2.2.2.1
theorem dL_law_1981 : decode cL_law 1981 = .ok (.aload_n 1, 1) := dLb_77.2.2.2.2.2.2.1
theorem dL_law_1982 : decode cL_law 1982 = .ok (.aload_n 0, 1) := dLb_77.2.2.2.2.2.2.2.1
theorem dL_law_1983 : decode cL_law 1983 = .ok (.iload 4, 2) := dLb_77.2.2.2.2.2.2.2.2.1
theorem dL_law_1985 : decode cL_law 1985 = .ok (.iconst 1, 1) := dLb_77.2.2.2.2.2.2.2.2.2.1
theorem dL_law_1986 : decode cL_law 1986 = .ok (.iadd, 1) := dLb_77.2.2.2.2.2.2.2.2.2.2.1
theorem dL_law_1987 : decode cL_law 1987 = .ok (.iaload, 1) := dLb_77.2.2.2.2.2.2.2.2.2.2.2.1
theorem dL_law_1988 : decode cL_law 1988 = .ok (.aload_n 3, 1) := dLb_77.2.2.2.2.2.2.2.2.2.2.2.2.1
theorem dL_law_1989 : decode cL_law 1989 = .ok (.invokestatic 298, 3) := dLb_77.2.2.2.2.2.2.2.2.2.2.2.2.2.1
theorem dL_law_1992 : decode cL_law 1992 = .ok (.istore 5, 2) := dLb_77.2.2.2.2.2.2.2.2.2.2.2.2.2.2.1
theorem dL_law_1994 : decode cL_law 1994 = .ok (.aload_n 2, 1) := dLb_77.2.2.2.2.2.2.2.2.2.2.2.2.2.2.2
theorem dLb_78 : (decode cL_law 1995 = .ok (.aload_n 0, 1)) ∧ (decode cL_law 1996 = .ok (.iload 4, 2)) ∧ (decode cL_law 1998 = .ok (.iconst 1, 1)) ∧ (decode cL_law 1999 = .ok (.iadd, 1)) ∧ (decode cL_law 2000 = .ok (.iaload, 1)) ∧ (decode cL_law 2001 = .ok (.invokevirtual 300, 3)) ∧ (decode cL_law 2004 = .ok (.istore 6, 2)) ∧ (decode cL_law 2006 = .ok (.goto 85, 3)) ∧ (decode cL_law 2009 = .ok (.aload_n 1, 1)) ∧ (decode cL_law 2010 = .ok (.aload_n 0, 1)) ∧ (decode cL_law 2011 = .ok (.iload 4, 2)) ∧ (decode cL_law 2013 = .ok (.iconst 1, 1)) ∧ (decode cL_law 2014 = .ok (.iadd, 1)) ∧ (decode cL_law 2015 = .ok (.iaload, 1)) ∧ (decode cL_law 2016 = .ok (.aload_n 3, 1)) ∧ (decode cL_law 2017 = .ok (.invokestatic 301, 3)) := by decide +kernel
theorem dL_law_1995 : decode cL_law 1995 = .ok (.aload_n 0, 1) := dLb_78.1
theorem dL_law_1996 : decode cL_law 1996 = .ok (.iload 4, 2) := dLb_78.2.1
theorem dL_law_1998 : decode cL_law 1998 = .ok (.iconst 1, 1) := dLb_78.2.2.1
theorem dL_law_1999 : decode cL_law 1999 = .ok (.iadd, 1) := dLb_78.2.2.2.1
theorem dL_law_2000 : decode cL_law 2000 = .ok (.iaload, 1) := dLb_78.2.2.2.2.1
theorem dL_law_2001 : decode cL_law 2001 = .ok (.invokevirtual 300, 3) := dLb_78.2.2.2.2.2.1
theorem dL_law_2004 : decode cL_law 2004 = .ok (.istore 6, 2) := dLb_78.2.2.2.2.2.2.1
theorem dL_law_2006 : decode cL_law 2006 = .ok (.goto 85, 3) := dLb_78.2.2.2.2.2.2.2.1
theorem dL_law_2009 : decode cL_law 2009 = .ok (.aload_n 1, 1) := dLb_78.2.2.2.2.2.2.2.2.1
theorem dL_law_2010 : decode cL_law 2010 = .ok (.aload_n 0, 1) := dLb_78.2.2.2.2.2.2.2.2.2.1
theorem dL_law_2011 : decode cL_law 2011 = .ok (.iload 4, 2) := dLb_78.2.2.2.2.2.2.2.2.2.2.1
theorem dL_law_2013 : decode cL_law 2013 = .ok (.iconst 1, 1) := dLb_78.2.2.2.2.2.2.2.2.2.2.2.1
theorem dL_law_2014 : decode cL_law 2014 = .ok (.iadd, 1) := dLb_78.2.2.2.2.2.2.2.2.2.2.2.2.1
theorem dL_law_2015 : decode cL_law 2015 = .ok (.iaload, 1) := dLb_78.2.2.2.2.2.2.2.2.2.2.2.2.2.1
theorem dL_law_2016 : decode cL_law 2016 = .ok (.aload_n 3, 1) := dLb_78.2.2.2.2.2.2.2.2.2.2.2.2.2.2.1
theorem dL_law_2017 : decode cL_law 2017 = .ok (.invokestatic 301, 3) := dLb_78.2.2.2.2.2.2.2.2.2.2.2.2.2.2.2
theorem dLb_79 : (decode cL_law 2020 = .ok (.istore 5, 2)) ∧ (decode cL_law 2022 = .ok (.aload_n 2, 1)) ∧ (decode cL_law 2023 = .ok (.aload_n 0, 1)) ∧ (decode cL_law 2024 = .ok (.iload 4, 2)) ∧ (decode cL_law 2026 = .ok (.iconst 1, 1)) ∧ (decode cL_law 2027 = .ok (.iadd, 1)) ∧ (decode cL_law 2028 = .ok (.iaload, 1)) ∧ (decode cL_law 2029 = .ok (.invokevirtual 303, 3)) ∧ (decode cL_law 2032 = .ok (.istore 6, 2)) ∧ (decode cL_law 2034 = .ok (.goto 57, 3)) ∧ (decode cL_law 2037 = .ok (.aload_n 1, 1)) ∧ (decode cL_law 2038 = .ok (.aload_n 0, 1)) ∧ (decode cL_law 2039 = .ok (.iload 4, 2)) ∧ (decode cL_law 2041 = .ok (.iconst 1, 1)) ∧ (decode cL_law 2042 = .ok (.iadd, 1)) ∧ (decode cL_law 2043 = .ok (.iaload, 1)) := by decide +kernel
theorem dL_law_2020 : decode cL_law 2020 = .ok (.istore 5, 2) := dLb_79.1
theorem dL_law_2022 : decode cL_law 2022 = .ok (.aload_n 2, 1) := dLb_79.2.1
theorem dL_law_2023 : decode cL_law 2023 = .ok (.aload_n 0, 1) := dLb_79.2.2.1
theorem dL_law_2024 : decode cL_law 2024 = .ok (.iload 4, 2) := dLb_79.2.2.2.1
theorem dL_law_2026 : decode cL_law 2026 = .ok (.iconst 1, 1) := dLb_79.2.2.2.2.1
theorem dL_law_2027 : decode cL_law 2027 = .ok (.iadd, 1) := dLb_79.2.2.2.2.2.1
theorem dL_law_2028 : decode cL_law 2028 = .ok (.iaload, 1) := dLb_79.2.2.2.2.2.2.1
theorem dL_law_2029 : decode cL_law 2029 = .ok (.invokevirtual 303, 3) := dLb_79.2.2.2.2.2.2.2.1
theorem dL_law_2032 : decode cL_law 2032 = .ok (.istore 6, 2) := dLb_79.2.2.2.2.2.2.2.2.1
theorem dL_law_2034 : decode cL_law 2034 = .ok (.goto 57, 3) := dLb_79.2.2.2.2.2.2.2.2.2.1
theorem dL_law_2037 : decode cL_law 2037 = .ok (.aload_n 1, 1) := dLb_79.2.2.2.2.2.2.2.2.2.2.1
theorem dL_law_2038 : decode cL_law 2038 = .ok (.aload_n 0, 1) := dLb_79.2.2.2.2.2.2.2.2.2.2.2.1
theorem dL_law_2039 : decode cL_law 2039 = .ok (.iload 4, 2) := dLb_79.2.2.2.2.2.2.2.2.2.2.2.2.1
theorem dL_law_2041 : decode cL_law 2041 = .ok (.iconst 1, 1) := dLb_79.2.2.2.2.2.2.2.2.2.2.2.2.2.1
theorem dL_law_2042 : decode cL_law 2042 = .ok (.iadd, 1) := dLb_79.2.2.2.2.2.2.2.2.2.2.2.2.2.2.1
theorem dL_law_2043 : decode cL_law 2043 = .ok (.iaload, 1) := dLb_79.2.2.2.2.2.2.2.2.2.2.2.2.2.2.2
theorem dLb_80 : (decode cL_law 2044 = .ok (.aload_n 3, 1)) ∧ (decode cL_law 2045 = .ok (.invokestatic 304, 3)) ∧ (decode cL_law 2048 = .ok (.istore 5, 2)) ∧ (decode cL_law 2050 = .ok (.aload_n 2, 1)) ∧ (decode cL_law 2051 = .ok (.aload_n 0, 1)) ∧ (decode cL_law 2052 = .ok (.iload 4, 2)) ∧ (decode cL_law 2054 = .ok (.iconst 1, 1)) ∧ (decode cL_law 2055 = .ok (.iadd, 1)) ∧ (decode cL_law 2056 = .ok (.iaload, 1)) ∧ (decode cL_law 2057 = .ok (.invokevirtual 306, 3)) ∧ (decode cL_law 2060 = .ok (.istore 6, 2)) ∧ (decode cL_law 2062 = .ok (.goto 29, 3)) ∧ (decode cL_law 2065 = .ok (.aload_n 1, 1)) ∧ (decode cL_law 2066 = .ok (.invokevirtual 307, 3)) ∧ (decode cL_law 2069 = .ok (.pop, 1)) ∧ (decode cL_law 2070 = .ok (.aload_n 2, 1)) := by decide +kernel
theorem dL_law_2044 : decode cL_law 2044 = .ok (.aload_n 3, 1) := dLb_80.1
theorem dL_law_2045 : decode cL_law 2045 = .ok (.invokestatic 304, 3) := dLb_80.2.1
theorem dL_law_2048 : decode cL_law 2048 = .ok (.istore 5, 2) := dLb_80.2.2.1
theorem dL_law_2050 : decode cL_law 2050 = .ok (.aload_n 2, 1) := dLb_80.2.2.2.1
theorem dL_law_2051 : decode cL_law 2051 = .ok (.aload_n 0, 1) := dLb_80.2.2.2.2.1
theorem dL_law_2052 : decode cL_law 2052 = .ok (.iload 4, 2) := dLb_80.2.2.2.2.2.1
theorem dL_law_2054 : decode cL_law 2054 = .ok (.iconst 1, 1) := dLb_80.2.2.2.2.2.2.1
theorem dL_law_2055 : decode cL_law 2055 = .ok (.iadd, 1) := dLb_80.2.2.2.2.2.2.2.1
theorem dL_law_2056 : decode cL_law 2056 = .ok (.iaload, 1) := dLb_80.2.2.2.2.2.2.2.2.1
theorem dL_law_2057 : decode cL_law 2057 = .ok (.invokevirtual 306, 3) := dLb_80.2.2.2.2.2.2.2.2.2.1
theorem dL_law_2060 : decode cL_law 2060 = .ok (.istore 6, 2) := dLb_80.2.2.2.2.2.2.2.2.2.2.1
theorem dL_law_2062 : decode cL_law 2062 = .ok (.goto 29, 3) := dLb_80.2.2.2.2.2.2.2.2.2.2.2.1
theorem dL_law_2065 : decode cL_law 2065 = .ok (.aload_n 1, 1) := dLb_80.2.2.2.2.2.2.2.2.2.2.2.2.1
theorem dL_law_2066 : decode cL_law 2066 = .ok (.invokevirtual 307, 3) := dLb_80.2.2.2.2.2.2.2.2.2.2.2.2.2.1
theorem dL_law_2069 : decode cL_law 2069 = .ok (.pop, 1) := dLb_80.2.2.2.2.2.2.2.2.2.2.2.2.2.2.1
theorem dL_law_2070 : decode cL_law 2070 = .ok (.aload_n 2, 1) := dLb_80.2.2.2.2.2.2.2.2.2.2.2.2.2.2.2
theorem dLb_81 : (decode cL_law 2071 = .ok (.invokevirtual 311, 3)) ∧ (decode cL_law 2074 = .ok (.pop, 1)) ∧ (decode cL_law 2075 = .ok (.goto 16, 3)) ∧ (decode cL_law 2078 = .ok (.aload_n 1, 1)) ∧ (decode cL_law 2079 = .ok (.invokevirtual 312, 3)) ∧ (decode cL_law 2082 = .ok (.pop2, 1)) ∧ (decode cL_law 2083 = .ok (.aload_n 2, 1)) ∧ (decode cL_law 2084 = .ok (.invokevirtual 316, 3)) ∧ (decode cL_law 2087 = .ok (.pop2, 1)) ∧ (decode cL_law 2088 = .ok (.goto 3, 3)) ∧ (decode cL_law 2091 = .ok (.iinc 4 6, 3)) ∧ (decode cL_law 2094 = .ok (.goto (-2067), 3)) ∧ (decode cL_law 2097 = .ok (.iconst 1, 1)) ∧ (decode cL_law 2098 = .ok (.ireturn, 1)) := by decide +kernel
theorem dL_law_2071 : decode cL_law 2071 = .ok (.invokevirtual 311, 3) := dLb_81.1
theorem dL_law_2074 : decode cL_law 2074 = .ok (.pop, 1) := dLb_81.2.1
theorem dL_law_2075 : decode cL_law 2075 = .ok (.goto 16, 3) := dLb_81.2.2.1
theorem dL_law_2078 : decode cL_law 2078 = .ok (.aload_n 1, 1) := dLb_81.2.2.2.1
theorem dL_law_2079 : decode cL_law 2079 = .ok (.invokevirtual 312, 3) := dLb_81.2.2.2.2.1
theorem dL_law_2082 : decode cL_law 2082 = .ok (.pop2, 1) := dLb_81.2.2.2.2.2.1
theorem dL_law_2083 : decode cL_law 2083 = .ok (.aload_n 2, 1) := dLb_81.2.2.2.2.2.2.1
theorem dL_law_2084 : decode cL_law 2084 = .ok (.invokevirtual 316, 3) := dLb_81.2.2.2.2.2.2.2.1
theorem dL_law_2087 : decode cL_law 2087 = .ok (.pop2, 1) := dLb_81.2.2.2.2.2.2.2.2.1
theorem dL_law_2088 : decode cL_law 2088 = .ok (.goto 3, 3) := dLb_81.2.2.2.2.2.2.2.2.2.1
theorem dL_law_2091 : decode cL_law 2091 = .ok (.iinc 4 6, 3) := dLb_81.2.2.2.2.2.2.2.2.2.2.1
theorem dL_law_2094 : decode cL_law 2094 = .ok (.goto (-2067), 3) := dLb_81.2.2.2.2.2.2.2.2.2.2.2.1
theorem dL_law_2097 : decode cL_law 2097 = .ok (.iconst 1, 1) := dLb_81.2.2.2.2.2.2.2.2.2.2.2.2.1
theorem dL_law_2098 : decode cL_law 2098 = .ok (.ireturn, 1) := dLb_81.2.2.2.2.2.2.2.2.2.2.2.2.2
