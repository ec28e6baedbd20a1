theorem d_W_law_223 : decode code 223 = .ok (.iconst 2, 1) := by decide +kernel
theorem d_W_law_224 : decode code 224 = .ok (.iadd, 1) := by decide +kernel
theorem d_W_law_225 : decode code 225 = .ok (.iaload, 1) := by decide +kernel
theorem d_W_law_226 : decode code 226 = .ok (.i2l, 1) := by decide +kernel
theorem d_W_law_227 : decode code 227 = .ok (.ldc2_w 19, 3) := by decide +kernel
theorem d_W_law_230 : decode code 230 = .ok (.land, 1) := by decide +kernel
theorem d_W_law_231 : decode code 231 = .ok (.lor, 1) := by decide +kernel
theorem d_W_law_232 : decode code 232 = .ok (.invokevirtual 40, 3) := by decide +kernel
theorem d_W_law_235 : decode code 235 = .ok (.if_icmp .eq 166, 3) := by decide +kernel
theorem d_W_law_238 : decode code 238 = .ok (.iconst 0, 1) := by decide +kernel
theorem d_W_law_239 : decode code 239 = .ok (.ireturn, 1) := by decide +kernel
theorem d_W_law_240 : decode code 240 = .ok (.aload_n 1, 1) := by decide +kernel
theorem d_W_law_241 : decode code 241 = .ok (.aload_n 0, 1) := by decide +kernel
theorem d_W_law_242 : decode code 242 = .ok (.iload 4, 2) := by decide +kernel
theorem d_W_law_244 : decode code 244 = .ok (.iconst 1, 1) := by decide +kernel
theorem d_W_law_245 : decode code 245 = .ok (.iadd, 1) := by decide +kernel
theorem d_W_law_246 : decode code 246 = .ok (.iaload, 1) := by decide +kernel
theorem d_W_law_247 : decode code 247 = .ok (.ifCond .eq 7, 3) := by decide +kernel
theorem d_W_law_250 : decode code 250 = .ok (.iconst 1, 1) := by decide +kernel
theorem d_W_law_251 : decode code 251 = .ok (.goto 4, 3) := by decide +kernel
theorem d_W_law_254 : decode code 254 = .ok (.iconst 0, 1) := by decide +kernel
theorem d_W_law_255 : decode code 255 = .ok (.aload_n 3, 1) := by decide +kernel
theorem d_W_law_256 : decode code 256 = .ok (.invokestatic 41, 3) := by decide +kernel
theorem d_W_law_259 : decode code 259 = .ok (.istore 5, 2) := by decide +kernel
theorem d_W_law_261 : decode code 261 = .ok (.aload_n 2, 1) := by decide +kernel
theorem d_W_law_262 : decode code 262 = .ok (.aload_n 0, 1) := by decide +kernel
theorem d_W_law_263 : decode code 263 = .ok (.iload 4, 2) := by decide +kernel
theorem d_W_law_265 : decode code 265 = .ok (.iconst 1, 1) := by decide +kernel
theorem d_W_law_266 : decode code 266 = .ok (.iadd, 1) := by decide +kernel
theorem d_W_law_267 : decode code 267 = .ok (.iaload, 1) := by decide +kernel
theorem d_W_law_268 : decode code 268 = .ok (.ifCond .eq 7, 3) := by decide +kernel
theorem d_W_law_271 : decode code 271 = .ok (.iconst 1, 1) := by decide +kernel
theorem d_W_law_272 : decode code 272 = .ok (.goto 4, 3) := by decide +kernel
theorem d_W_law_275 : decode code 275 = .ok (.iconst 0, 1) := by decide +kernel
theorem d_W_law_276 : decode code 276 = .ok (.invokevirtual 46, 3) := by decide +kernel
theorem d_W_law_279 : decode code 279 = .ok (.istore 6, 2) := by decide +kernel
theorem d_W_law_281 : decode code 281 = .ok (.aload_n 2, 1) := by decide +kernel
theorem d_W_law_282 : decode code 282 = .ok (.invokevirtual 47, 3) := by decide +kernel
theorem d_W_law_285 : decode code 285 = .ok (.iload 5, 2) := by decide +kernel
theorem d_W_law_287 : decode code 287 = .ok (.if_icmp .eq 5, 3) := by decide +kernel
theorem d_W_law_290 : decode code 290 = .ok (.iconst 0, 1) := by decide +kernel
theorem d_W_law_291 : decode code 291 = .ok (.ireturn, 1) := by decide +kernel
theorem d_W_law_292 : decode code 292 = .ok (.iload 5, 2) := by decide +kernel
theorem d_W_law_294 : decode code 294 = .ok (.ifCond .ne 15, 3) := by decide +kernel
theorem d_W_law_297 : decode code 297 = .ok (.aload_n 3, 1) := by decide +kernel
theorem d_W_law_298 : decode code 298 = .ok (.iconst 0, 1) := by decide +kernel
theorem d_W_law_299 : decode code 299 = .ok (.laload, 1) := by decide +kernel
theorem d_W_law_300 : decode code 300 = .ok (.iload 6, 2) := by decide +kernel
theorem d_W_law_302 : decode code 302 = .ok (.i2l, 1) := by decide +kernel
theorem d_W_law_303 : decode code 303 = .ok (.lcmp, 1) := by decide +kernel
theorem d_W_law_304 : decode code 304 = .ok (.ifCond .eq 5, 3) := by decide +kernel
theorem d_W_law_307 : decode code 307 = .ok (.iconst 0, 1) := by decide +kernel
theorem d_W_law_308 : decode code 308 = .ok (.ireturn, 1) := by decide +kernel
theorem d_W_law_309 : decode code 309 = .ok (.goto 92, 3) := by decide +kernel
theorem d_W_law_312 : decode code 312 = .ok (.aload_n 1, 1) := by decide +kernel
theorem d_W_law_313 : decode code 313 = .ok (.invokevirtual 50, 3) := by decide +kernel
theorem d_W_law_316 : decode code 316 = .ok (.aload_n 2, 1) := by decide +kernel
theorem d_W_law_317 : decode code 317 = .ok (.invokevirtual 53, 3) := by decide +kernel
theorem d_W_law_320 : decode code 320 = .ok (.if_icmp .eq 81, 3) := by decide +kernel
theorem d_W_law_323 : decode code 323 = .ok (.iconst 0, 1) := by decide +kernel
