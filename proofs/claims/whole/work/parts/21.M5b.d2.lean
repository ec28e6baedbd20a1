theorem d_M_join_217 : decode b_M_join 217 = .ok (.goto 10, 3) := by decide +kernel
theorem d_M_join_220 : decode b_M_join 220 = .ok (.aload_n 0, 1) := by decide +kernel
theorem d_M_join_221 : decode b_M_join 221 = .ok (.getfield 45, 3) := by decide +kernel
theorem d_M_join_224 : decode b_M_join 224 = .ok (.iload 4, 2) := by decide +kernel
theorem d_M_join_226 : decode b_M_join 226 = .ok (.iaload, 1) := by decide +kernel
theorem d_M_join_227 : decode b_M_join 227 = .ok (.iastore, 1) := by decide +kernel
theorem d_M_join_228 : decode b_M_join 228 = .ok (.aload_n 0, 1) := by decide +kernel
theorem d_M_join_229 : decode b_M_join 229 = .ok (.getfield 51, 3) := by decide +kernel
theorem d_M_join_232 : decode b_M_join 232 = .ok (.iload_n 3, 1) := by decide +kernel
theorem d_M_join_233 : decode b_M_join 233 = .ok (.lload 7, 2) := by decide +kernel
theorem d_M_join_235 : decode b_M_join 235 = .ok (.lload 9, 2) := by decide +kernel
theorem d_M_join_237 : decode b_M_join 237 = .ok (.lsub, 1) := by decide +kernel
theorem d_M_join_238 : decode b_M_join 238 = .ok (.lastore, 1) := by decide +kernel
theorem d_M_join_239 : decode b_M_join 239 = .ok (.goto 194, 3) := by decide +kernel
theorem d_M_join_242 : decode b_M_join 242 = .ok (.iload_n 2, 1) := by decide +kernel
theorem d_M_join_243 : decode b_M_join 243 = .ok (.bipush 47, 2) := by decide +kernel
theorem d_M_join_245 : decode b_M_join 245 = .ok (.if_icmp .eq 9, 3) := by decide +kernel
theorem d_M_join_248 : decode b_M_join 248 = .ok (.iload_n 2, 1) := by decide +kernel
theorem d_M_join_249 : decode b_M_join 249 = .ok (.bipush 37, 2) := by decide +kernel
theorem d_M_join_251 : decode b_M_join 251 = .ok (.if_icmp .ne 14, 3) := by decide +kernel
theorem d_M_join_254 : decode b_M_join 254 = .ok (.lload 9, 2) := by decide +kernel
theorem d_M_join_256 : decode b_M_join 256 = .ok (.lconst 0, 1) := by decide +kernel
theorem d_M_join_257 : decode b_M_join 257 = .ok (.lcmp, 1) := by decide +kernel
theorem d_M_join_258 : decode b_M_join 258 = .ok (.ifCond .ne 7, 3) := by decide +kernel
theorem d_M_join_261 : decode b_M_join 261 = .ok (.iconst 1, 1) := by decide +kernel
theorem d_M_join_262 : decode b_M_join 262 = .ok (.goto 4, 3) := by decide +kernel
theorem d_M_join_265 : decode b_M_join 265 = .ok (.iconst 0, 1) := by decide +kernel
theorem d_M_join_266 : decode b_M_join 266 = .ok (.istore 11, 2) := by decide +kernel
theorem d_M_join_268 : decode b_M_join 268 = .ok (.aload_n 0, 1) := by decide +kernel
theorem d_M_join_269 : decode b_M_join 269 = .ok (.aload_n 0, 1) := by decide +kernel
theorem d_M_join_270 : decode b_M_join 270 = .ok (.getfield 156, 3) := by decide +kernel
theorem d_M_join_273 : decode b_M_join 273 = .ok (.ifCond .ne 18, 3) := by decide +kernel
theorem d_M_join_276 : decode b_M_join 276 = .ok (.iload 5, 2) := by decide +kernel
theorem d_M_join_278 : decode b_M_join 278 = .ok (.ifCond .eq 13, 3) := by decide +kernel
theorem d_M_join_281 : decode b_M_join 281 = .ok (.iload 6, 2) := by decide +kernel
theorem d_M_join_283 : decode b_M_join 283 = .ok (.ifCond .eq 8, 3) := by decide +kernel
theorem d_M_join_286 : decode b_M_join 286 = .ok (.iload 11, 2) := by decide +kernel
theorem d_M_join_288 : decode b_M_join 288 = .ok (.ifCond .eq 7, 3) := by decide +kernel
theorem d_M_join_291 : decode b_M_join 291 = .ok (.iconst 1, 1) := by decide +kernel
theorem d_M_join_292 : decode b_M_join 292 = .ok (.goto 4, 3) := by decide +kernel
theorem d_M_join_295 : decode b_M_join 295 = .ok (.iconst 0, 1) := by decide +kernel
theorem d_M_join_296 : decode b_M_join 296 = .ok (.putfield 156, 3) := by decide +kernel
theorem d_M_join_299 : decode b_M_join 299 = .ok (.iload 11, 2) := by decide +kernel
theorem d_M_join_301 : decode b_M_join 301 = .ok (.ifCond .eq 7, 3) := by decide +kernel
theorem d_M_join_304 : decode b_M_join 304 = .ok (.lconst 1, 1) := by decide +kernel
theorem d_M_join_305 : decode b_M_join 305 = .ok (.goto 5, 3) := by decide +kernel
theorem d_M_join_308 : decode b_M_join 308 = .ok (.lload 9, 2) := by decide +kernel
theorem d_M_join_310 : decode b_M_join 310 = .ok (.lstore 9, 2) := by decide +kernel
theorem d_M_join_312 : decode b_M_join 312 = .ok (.aload_n 0, 1) := by decide +kernel
theorem d_M_join_313 : decode b_M_join 313 = .ok (.getfield 51, 3) := by decide +kernel
theorem d_M_join_316 : decode b_M_join 316 = .ok (.iload_n 3, 1) := by decide +kernel
theorem d_M_join_317 : decode b_M_join 317 = .ok (.iload_n 2, 1) := by decide +kernel
theorem d_M_join_318 : decode b_M_join 318 = .ok (.bipush 42, 2) := by decide +kernel
theorem d_M_join_320 : decode b_M_join 320 = .ok (.if_icmp .ne 11, 3) := by decide +kernel
theorem d_M_join_323 : decode b_M_join 323 = .ok (.lload 7, 2) := by decide +kernel
theorem d_M_join_325 : decode b_M_join 325 = .ok (.lload 9, 2) := by decide +kernel
theorem d_M_join_327 : decode b_M_join 327 = .ok (.lmul, 1) := by decide +kernel
theorem d_M_join_328 : decode b_M_join 328 = .ok (.goto 104, 3) := by decide +kernel
theorem d_M_join_331 : decode b_M_join 331 = .ok (.iload_n 2, 1) := by decide +kernel
theorem d_M_join_332 : decode b_M_join 332 = .ok (.bipush 47, 2) := by decide +kernel
