theorem dX10_toldAhead_59 : decode cX10_toldAhead 59 = .ok (.getfield 174, 3) := by decide +kernel
theorem dX10_toldAhead_62 : decode cX10_toldAhead 62 = .ok (.invokestatic 211, 3) := by decide +kernel
theorem dX10_toldAhead_65 : decode cX10_toldAhead 65 = .ok (.ireturn, 1) := by decide +kernel
theorem dX10_isFull_0 : decode cX10_isFull 0 = .ok (.iload_n 1, 1) := by decide +kernel
theorem dX10_isFull_1 : decode cX10_isFull 1 = .ok (.ifCond .ne 12, 3) := by decide +kernel
theorem dX10_isFull_4 : decode cX10_isFull 4 = .ok (.aload_n 0, 1) := by decide +kernel
theorem dX10_isFull_5 : decode cX10_isFull 5 = .ok (.iconst 0, 1) := by decide +kernel
theorem dX10_isFull_6 : decode cX10_isFull 6 = .ok (.invokevirtual 215, 3) := by decide +kernel
theorem dX10_isFull_9 : decode cX10_isFull 9 = .ok (.iconst 5, 1) := by decide +kernel
theorem dX10_isFull_10 : decode cX10_isFull 10 = .ok (.if_icmp .eq 33, 3) := by decide +kernel
theorem dX10_isFull_13 : decode cX10_isFull 13 = .ok (.iload_n 1, 1) := by decide +kernel
theorem dX10_isFull_14 : decode cX10_isFull 14 = .ok (.iconst 1, 1) := by decide +kernel
theorem dX10_isFull_15 : decode cX10_isFull 15 = .ok (.if_icmp .ne 13, 3) := by decide +kernel
theorem dX10_isFull_18 : decode cX10_isFull 18 = .ok (.aload_n 0, 1) := by decide +kernel
theorem dX10_isFull_19 : decode cX10_isFull 19 = .ok (.iconst 1, 1) := by decide +kernel
theorem dX10_isFull_20 : decode cX10_isFull 20 = .ok (.invokevirtual 215, 3) := by decide +kernel
theorem dX10_isFull_23 : decode cX10_isFull 23 = .ok (.bipush 6, 2) := by decide +kernel
theorem dX10_isFull_25 : decode cX10_isFull 25 = .ok (.if_icmp .eq 18, 3) := by decide +kernel
theorem dX10_isFull_28 : decode cX10_isFull 28 = .ok (.iload_n 1, 1) := by decide +kernel
theorem dX10_isFull_29 : decode cX10_isFull 29 = .ok (.iconst 2, 1) := by decide +kernel
theorem dX10_isFull_30 : decode cX10_isFull 30 = .ok (.if_icmp .ne 17, 3) := by decide +kernel
theorem dX10_isFull_33 : decode cX10_isFull 33 = .ok (.aload_n 0, 1) := by decide +kernel
theorem dX10_isFull_34 : decode cX10_isFull 34 = .ok (.iconst 2, 1) := by decide +kernel
theorem dX10_isFull_35 : decode cX10_isFull 35 = .ok (.invokevirtual 215, 3) := by decide +kernel
theorem dX10_isFull_38 : decode cX10_isFull 38 = .ok (.bipush 12, 2) := by decide +kernel
theorem dX10_isFull_40 : decode cX10_isFull 40 = .ok (.if_icmp .ne 7, 3) := by decide +kernel
theorem dX10_isFull_43 : decode cX10_isFull 43 = .ok (.iconst 1, 1) := by decide +kernel
theorem dX10_isFull_44 : decode cX10_isFull 44 = .ok (.goto 4, 3) := by decide +kernel
theorem dX10_isFull_47 : decode cX10_isFull 47 = .ok (.iconst 0, 1) := by decide +kernel
theorem dX10_isFull_48 : decode cX10_isFull 48 = .ok (.ireturn, 1) := by decide +kernel
theorem dX10_line_0 : decode cX10_line 0 = .ok (.aload_n 0, 1) := by decide +kernel
theorem dX10_line_1 : decode cX10_line 1 = .ok (.getfield 164, 3) := by decide +kernel
theorem dX10_line_4 : decode cX10_line 4 = .ok (.ifCond .ne 12, 3) := by decide +kernel
theorem dX10_line_7 : decode cX10_line 7 = .ok (.aload_n 0, 1) := by decide +kernel
theorem dX10_line_8 : decode cX10_line 8 = .ok (.getfield 174, 3) := by decide +kernel
theorem dX10_line_11 : decode cX10_line 11 = .ok (.bipush 7, 2) := by decide +kernel
theorem dX10_line_13 : decode cX10_line 13 = .ok (.if_icmp .le 9, 3) := by decide +kernel
theorem dX10_line_16 : decode cX10_line 16 = .ok (.aload_n 0, 1) := by decide +kernel
theorem dX10_line_17 : decode cX10_line 17 = .ok (.iconst 1, 1) := by decide +kernel
theorem dX10_line_18 : decode cX10_line 18 = .ok (.invokevirtual 208, 3) := by decide +kernel
theorem dX10_line_21 : decode cX10_line 21 = .ok (.return_, 1) := by decide +kernel
theorem dX10_line_22 : decode cX10_line 22 = .ok (.aload_n 0, 1) := by decide +kernel
theorem dX10_line_23 : decode cX10_line 23 = .ok (.getfield 174, 3) := by decide +kernel
theorem dX10_line_26 : decode cX10_line 26 = .ok (.istore_n 1, 1) := by decide +kernel
theorem dX10_line_27 : decode cX10_line 27 = .ok (.aload_n 0, 1) := by decide +kernel
theorem dX10_line_28 : decode cX10_line 28 = .ok (.iload_n 1, 1) := by decide +kernel
theorem dX10_line_29 : decode cX10_line 29 = .ok (.invokevirtual 219, 3) := by decide +kernel
theorem dX10_line_32 : decode cX10_line 32 = .ok (.ifCond .eq 11, 3) := by decide +kernel
theorem dX10_line_35 : decode cX10_line 35 = .ok (.aload_n 0, 1) := by decide +kernel
theorem dX10_line_36 : decode cX10_line 36 = .ok (.iconst 2, 1) := by decide +kernel
theorem dX10_line_37 : decode cX10_line 37 = .ok (.invokevirtual 208, 3) := by decide +kernel
theorem dX10_line_40 : decode cX10_line 40 = .ok (.goto 31, 3) := by decide +kernel
theorem dX10_line_43 : decode cX10_line 43 = .ok (.iload_n 1, 1) := by decide +kernel
theorem dX10_line_44 : decode cX10_line 44 = .ok (.iconst 3, 1) := by decide +kernel
theorem dX10_line_45 : decode cX10_line 45 = .ok (.if_icmp .lt 26, 3) := by decide +kernel
theorem dX10_line_48 : decode cX10_line 48 = .ok (.iload_n 1, 1) := by decide +kernel
theorem dX10_line_49 : decode cX10_line 49 = .ok (.bipush 6, 2) := by decide +kernel
theorem dX10_line_51 : decode cX10_line 51 = .ok (.if_icmp .gt 20, 3) := by decide +kernel
theorem dX10_line_54 : decode cX10_line 54 = .ok (.aload_n 0, 1) := by decide +kernel
theorem dX10_line_55 : decode cX10_line 55 = .ok (.getfield 222, 3) := by decide +kernel
theorem dX10_line_58 : decode cX10_line 58 = .ok (.iload_n 1, 1) := by decide +kernel
theorem dX10_line_59 : decode cX10_line 59 = .ok (.ishr, 1) := by decide +kernel
theorem dX10_line_60 : decode cX10_line 60 = .ok (.iconst 1, 1) := by decide +kernel
theorem dX10_line_61 : decode cX10_line 61 = .ok (.iand, 1) := by decide +kernel
theorem dX10_line_62 : decode cX10_line 62 = .ok (.iconst 1, 1) := by decide +kernel
theorem dX10_line_63 : decode cX10_line 63 = .ok (.if_icmp .ne 8, 3) := by decide +kernel
theorem dX10_line_66 : decode cX10_line 66 = .ok (.aload_n 0, 1) := by decide +kernel
theorem dX10_line_67 : decode cX10_line 67 = .ok (.iconst 3, 1) := by decide +kernel
theorem dX10_line_68 : decode cX10_line 68 = .ok (.invokevirtual 208, 3) := by decide +kernel
theorem dX10_line_71 : decode cX10_line 71 = .ok (.aload_n 0, 1) := by decide +kernel
theorem dX10_line_72 : decode cX10_line 72 = .ok (.getfield 199, 3) := by decide +kernel
theorem dX10_line_75 : decode cX10_line 75 = .ok (.ifCond .eq 4, 3) := by decide +kernel
theorem dX10_line_78 : decode cX10_line 78 = .ok (.return_, 1) := by decide +kernel
theorem dX10_line_79 : decode cX10_line 79 = .ok (.aload_n 0, 1) := by decide +kernel
theorem dX10_line_80 : decode cX10_line 80 = .ok (.dup, 1) := by decide +kernel
theorem dX10_line_81 : decode cX10_line 81 = .ok (.getfield 222, 3) := by decide +kernel
theorem dX10_line_84 : decode cX10_line 84 = .ok (.iconst 1, 1) := by decide +kernel
theorem dX10_line_85 : decode cX10_line 85 = .ok (.iload_n 1, 1) := by decide +kernel
theorem dX10_line_86 : decode cX10_line 86 = .ok (.ishl, 1) := by decide +kernel
theorem dX10_line_87 : decode cX10_line 87 = .ok (.ior, 1) := by decide +kernel
theorem dX10_line_88 : decode cX10_line 88 = .ok (.putfield 222, 3) := by decide +kernel
theorem dX10_line_91 : decode cX10_line 91 = .ok (.aload_n 0, 1) := by decide +kernel
theorem dX10_line_92 : decode cX10_line 92 = .ok (.invokevirtual 205, 3) := by decide +kernel
theorem dX10_line_95 : decode cX10_line 95 = .ok (.iload_n 1, 1) := by decide +kernel
theorem dX10_line_96 : decode cX10_line 96 = .ok (.tableswitch 306 0 6 #[44, 126, 210, 217, 245, 274, 290], 44) := by decide +kernel
theorem dX10_line_140 : decode cX10_line 140 = .ok (.iconst 5, 1) := by decide +kernel
theorem dX10_line_141 : decode cX10_line 141 = .ok (.aload_n 0, 1) := by decide +kernel
theorem dX10_line_142 : decode cX10_line 142 = .ok (.iconst 0, 1) := by decide +kernel
theorem dX10_line_143 : decode cX10_line 143 = .ok (.invokevirtual 215, 3) := by decide +kernel
theorem dX10_line_146 : decode cX10_line 146 = .ok (.iadd, 1) := by decide +kernel
theorem dX10_line_147 : decode cX10_line 147 = .ok (.istore_n 2, 1) := by decide +kernel
theorem dX10_line_148 : decode cX10_line 148 = .ok (.aload_n 0, 1) := by decide +kernel
theorem dX10_line_149 : decode cX10_line 149 = .ok (.getfield 16, 3) := by decide +kernel
theorem dX10_line_152 : decode cX10_line 152 = .ok (.iload_n 2, 1) := by decide +kernel
theorem dX10_line_153 : decode cX10_line 153 = .ok (.aload_n 0, 1) := by decide +kernel
theorem dX10_line_154 : decode cX10_line 154 = .ok (.aload_n 0, 1) := by decide +kernel
theorem dX10_line_155 : decode cX10_line 155 = .ok (.getfield 16, 3) := by decide +kernel
theorem dX10_line_158 : decode cX10_line 158 = .ok (.iconst 5, 1) := by decide +kernel
theorem dX10_line_159 : decode cX10_line 159 = .ok (.aload_n 0, 1) := by decide +kernel
theorem dX10_line_160 : decode cX10_line 160 = .ok (.iconst 0, 1) := by decide +kernel
theorem dX10_line_161 : decode cX10_line 161 = .ok (.invokevirtual 215, 3) := by decide +kernel
theorem dX10_line_164 : decode cX10_line 164 = .ok (.invokevirtual 225, 3) := by decide +kernel
theorem dX10_line_167 : decode cX10_line 167 = .ok (.iastore, 1) := by decide +kernel
theorem dX10_line_168 : decode cX10_line 168 = .ok (.aload_n 0, 1) := by decide +kernel
theorem dX10_line_169 : decode cX10_line 169 = .ok (.getfield 19, 3) := by decide +kernel
theorem dX10_line_172 : decode cX10_line 172 = .ok (.iload_n 2, 1) := by decide +kernel
theorem dX10_line_173 : decode cX10_line 173 = .ok (.aload_n 0, 1) := by decide +kernel
theorem dX10_line_174 : decode cX10_line 174 = .ok (.iconst 0, 1) := by decide +kernel
theorem dX10_line_175 : decode cX10_line 175 = .ok (.bipush 99, 2) := by decide +kernel
theorem dX10_line_177 : decode cX10_line 177 = .ok (.invokevirtual 229, 3) := by decide +kernel
theorem dX10_line_180 : decode cX10_line 180 = .ok (.iastore, 1) := by decide +kernel
theorem dX10_line_181 : decode cX10_line 181 = .ok (.aload_n 0, 1) := by decide +kernel
theorem dX10_line_182 : decode cX10_line 182 = .ok (.getfield 22, 3) := by decide +kernel
theorem dX10_line_185 : decode cX10_line 185 = .ok (.iload_n 2, 1) := by decide +kernel
theorem dX10_line_186 : decode cX10_line 186 = .ok (.aload_n 0, 1) := by decide +kernel
theorem dX10_line_187 : decode cX10_line 187 = .ok (.iconst 0, 1) := by decide +kernel
theorem dX10_line_188 : decode cX10_line 188 = .ok (.bipush 99, 2) := by decide +kernel
theorem dX10_line_190 : decode cX10_line 190 = .ok (.invokevirtual 229, 3) := by decide +kernel
theorem dX10_line_193 : decode cX10_line 193 = .ok (.iastore, 1) := by decide +kernel
theorem dX10_line_194 : decode cX10_line 194 = .ok (.aload_n 0, 1) := by decide +kernel
theorem dX10_line_195 : decode cX10_line 195 = .ok (.getfield 25, 3) := by decide +kernel
theorem dX10_line_198 : decode cX10_line 198 = .ok (.iload_n 2, 1) := by decide +kernel
theorem dX10_line_199 : decode cX10_line 199 = .ok (.aload_n 0, 1) := by decide +kernel
theorem dX10_line_200 : decode cX10_line 200 = .ok (.iconst 0, 1) := by decide +kernel
theorem dX10_line_201 : decode cX10_line 201 = .ok (.bipush 99, 2) := by decide +kernel
theorem dX10_line_203 : decode cX10_line 203 = .ok (.invokevirtual 229, 3) := by decide +kernel
theorem dX10_line_206 : decode cX10_line 206 = .ok (.iastore, 1) := by decide +kernel
theorem dX10_line_207 : decode cX10_line 207 = .ok (.aload_n 0, 1) := by decide +kernel
theorem dX10_line_208 : decode cX10_line 208 = .ok (.iconst 0, 1) := by decide +kernel
theorem dX10_line_209 : decode cX10_line 209 = .ok (.aload_n 0, 1) := by decide +kernel
theorem dX10_line_210 : decode cX10_line 210 = .ok (.iconst 0, 1) := by decide +kernel
theorem dX10_line_211 : decode cX10_line 211 = .ok (.invokevirtual 215, 3) := by decide +kernel
theorem dX10_line_214 : decode cX10_line 214 = .ok (.iconst 1, 1) := by decide +kernel
theorem dX10_line_215 : decode cX10_line 215 = .ok (.iadd, 1) := by decide +kernel
theorem dX10_line_216 : decode cX10_line 216 = .ok (.invokevirtual 233, 3) := by decide +kernel
theorem dX10_line_219 : decode cX10_line 219 = .ok (.goto 187, 3) := by decide +kernel
theorem dX10_line_222 : decode cX10_line 222 = .ok (.bipush 6, 2) := by decide +kernel
theorem dX10_line_224 : decode cX10_line 224 = .ok (.aload_n 0, 1) := by decide +kernel
theorem dX10_line_225 : decode cX10_line 225 = .ok (.iconst 1, 1) := by decide +kernel
theorem dX10_line_226 : decode cX10_line 226 = .ok (.invokevirtual 215, 3) := by decide +kernel
theorem dX10_line_229 : decode cX10_line 229 = .ok (.iadd, 1) := by decide +kernel
theorem dX10_line_230 : decode cX10_line 230 = .ok (.istore_n 3, 1) := by decide +kernel
theorem dX10_line_231 : decode cX10_line 231 = .ok (.aload_n 0, 1) := by decide +kernel
theorem dX10_line_232 : decode cX10_line 232 = .ok (.getfield 28, 3) := by decide +kernel
theorem dX10_line_235 : decode cX10_line 235 = .ok (.iload_n 3, 1) := by decide +kernel
theorem dX10_line_236 : decode cX10_line 236 = .ok (.aload_n 0, 1) := by decide +kernel
theorem dX10_line_237 : decode cX10_line 237 = .ok (.aload_n 0, 1) := by decide +kernel
theorem dX10_line_238 : decode cX10_line 238 = .ok (.getfield 28, 3) := by decide +kernel
theorem dX10_line_241 : decode cX10_line 241 = .ok (.bipush 6, 2) := by decide +kernel
theorem dX10_line_243 : decode cX10_line 243 = .ok (.aload_n 0, 1) := by decide +kernel
theorem dX10_line_244 : decode cX10_line 244 = .ok (.iconst 1, 1) := by decide +kernel
theorem dX10_line_245 : decode cX10_line 245 = .ok (.invokevirtual 215, 3) := by decide +kernel
theorem dX10_line_248 : decode cX10_line 248 = .ok (.invokevirtual 225, 3) := by decide +kernel
theorem dX10_line_251 : decode cX10_line 251 = .ok (.iastore, 1) := by decide +kernel
theorem dX10_line_252 : decode cX10_line 252 = .ok (.aload_n 0, 1) := by decide +kernel
theorem dX10_line_253 : decode cX10_line 253 = .ok (.getfield 31, 3) := by decide +kernel
theorem dX10_line_256 : decode cX10_line 256 = .ok (.iload_n 3, 1) := by decide +kernel
theorem dX10_line_257 : decode cX10_line 257 = .ok (.aload_n 0, 1) := by decide +kernel
theorem dX10_line_258 : decode cX10_line 258 = .ok (.iconst 0, 1) := by decide +kernel
theorem dX10_line_259 : decode cX10_line 259 = .ok (.bipush 20, 2) := by decide +kernel
theorem dX10_line_261 : decode cX10_line 261 = .ok (.invokevirtual 229, 3) := by decide +kernel
theorem dX10_line_264 : decode cX10_line 264 = .ok (.iastore, 1) := by decide +kernel
theorem dX10_line_265 : decode cX10_line 265 = .ok (.aload_n 0, 1) := by decide +kernel
theorem dX10_line_266 : decode cX10_line 266 = .ok (.getfield 34, 3) := by decide +kernel
theorem dX10_line_269 : decode cX10_line 269 = .ok (.iload_n 3, 1) := by decide +kernel
theorem dX10_line_270 : decode cX10_line 270 = .ok (.aload_n 0, 1) := by decide +kernel
theorem dX10_line_271 : decode cX10_line 271 = .ok (.iconst 0, 1) := by decide +kernel
theorem dX10_line_272 : decode cX10_line 272 = .ok (.bipush 20, 2) := by decide +kernel
theorem dX10_line_274 : decode cX10_line 274 = .ok (.invokevirtual 229, 3) := by decide +kernel
theorem dX10_line_277 : decode cX10_line 277 = .ok (.iastore, 1) := by decide +kernel
theorem dX10_line_278 : decode cX10_line 278 = .ok (.aload_n 0, 1) := by decide +kernel
theorem dX10_line_279 : decode cX10_line 279 = .ok (.getfield 37, 3) := by decide +kernel
theorem dX10_line_282 : decode cX10_line 282 = .ok (.iload_n 3, 1) := by decide +kernel
theorem dX10_line_283 : decode cX10_line 283 = .ok (.aload_n 0, 1) := by decide +kernel
theorem dX10_line_284 : decode cX10_line 284 = .ok (.iconst 0, 1) := by decide +kernel
theorem dX10_line_285 : decode cX10_line 285 = .ok (.bipush 9, 2) := by decide +kernel
theorem dX10_line_287 : decode cX10_line 287 = .ok (.invokevirtual 229, 3) := by decide +kernel
theorem dX10_line_290 : decode cX10_line 290 = .ok (.iastore, 1) := by decide +kernel
theorem dX10_line_291 : decode cX10_line 291 = .ok (.aload_n 0, 1) := by decide +kernel
theorem dX10_line_292 : decode cX10_line 292 = .ok (.iconst 1, 1) := by decide +kernel
theorem dX10_line_293 : decode cX10_line 293 = .ok (.aload_n 0, 1) := by decide +kernel
theorem dX10_line_294 : decode cX10_line 294 = .ok (.iconst 1, 1) := by decide +kernel
theorem dX10_line_295 : decode cX10_line 295 = .ok (.invokevirtual 215, 3) := by decide +kernel
theorem dX10_line_298 : decode cX10_line 298 = .ok (.iconst 1, 1) := by decide +kernel
theorem dX10_line_299 : decode cX10_line 299 = .ok (.iadd, 1) := by decide +kernel
theorem dX10_line_300 : decode cX10_line 300 = .ok (.invokevirtual 233, 3) := by decide +kernel
theorem dX10_line_303 : decode cX10_line 303 = .ok (.goto 103, 3) := by decide +kernel
theorem dX10_line_306 : decode cX10_line 306 = .ok (.aload_n 0, 1) := by decide +kernel
theorem dX10_line_307 : decode cX10_line 307 = .ok (.invokevirtual 237, 3) := by decide +kernel
theorem dX10_line_310 : decode cX10_line 310 = .ok (.goto 96, 3) := by decide +kernel
theorem dX10_line_313 : decode cX10_line 313 = .ok (.aload_n 0, 1) := by decide +kernel
theorem dX10_line_314 : decode cX10_line 314 = .ok (.iconst 3, 1) := by decide +kernel
theorem dX10_line_315 : decode cX10_line 315 = .ok (.aload_n 0, 1) := by decide +kernel
theorem dX10_line_316 : decode cX10_line 316 = .ok (.iconst 0, 1) := by decide +kernel
theorem dX10_line_317 : decode cX10_line 317 = .ok (.sipush 999, 3) := by decide +kernel
theorem dX10_line_320 : decode cX10_line 320 = .ok (.invokevirtual 229, 3) := by decide +kernel
theorem dX10_line_323 : decode cX10_line 323 = .ok (.invokevirtual 233, 3) := by decide +kernel
theorem dX10_line_326 : decode cX10_line 326 = .ok (.aload_n 0, 1) := by decide +kernel
theorem dX10_line_327 : decode cX10_line 327 = .ok (.iconst 4, 1) := by decide +kernel
theorem dX10_line_328 : decode cX10_line 328 = .ok (.aload_n 0, 1) := by decide +kernel
theorem dX10_line_329 : decode cX10_line 329 = .ok (.iconst 1, 1) := by decide +kernel
theorem dX10_line_330 : decode cX10_line 330 = .ok (.bipush 14, 2) := by decide +kernel
theorem dX10_line_332 : decode cX10_line 332 = .ok (.invokevirtual 229, 3) := by decide +kernel
theorem dX10_line_335 : decode cX10_line 335 = .ok (.invokevirtual 233, 3) := by decide +kernel
theorem dX10_line_338 : decode cX10_line 338 = .ok (.goto 68, 3) := by decide +kernel
theorem dX10_line_341 : decode cX10_line 341 = .ok (.aload_n 0, 1) := by decide +kernel
theorem dX10_line_342 : decode cX10_line 342 = .ok (.iconst 5, 1) := by decide +kernel
theorem dX10_line_343 : decode cX10_line 343 = .ok (.aload_n 0, 1) := by decide +kernel
theorem dX10_line_344 : decode cX10_line 344 = .ok (.iconst 0, 1) := by decide +kernel
theorem dX10_line_345 : decode cX10_line 345 = .ok (.bipush 99, 2) := by decide +kernel
theorem dX10_line_347 : decode cX10_line 347 = .ok (.invokevirtual 229, 3) := by decide +kernel
theorem dX10_line_350 : decode cX10_line 350 = .ok (.invokevirtual 233, 3) := by decide +kernel
theorem dX10_line_353 : decode cX10_line 353 = .ok (.aload_n 0, 1) := by decide +kernel
theorem dX10_line_354 : decode cX10_line 354 = .ok (.bipush 6, 2) := by decide +kernel
theorem dX10_line_356 : decode cX10_line 356 = .ok (.aload_n 0, 1) := by decide +kernel
theorem dX10_line_357 : decode cX10_line 357 = .ok (.iconst 0, 1) := by decide +kernel
theorem dX10_line_358 : decode cX10_line 358 = .ok (.sipush 999, 3) := by decide +kernel
theorem dX10_line_361 : decode cX10_line 361 = .ok (.invokevirtual 229, 3) := by decide +kernel
theorem dX10_line_364 : decode cX10_line 364 = .ok (.invokevirtual 233, 3) := by decide +kernel
theorem dX10_line_367 : decode cX10_line 367 = .ok (.goto 39, 3) := by decide +kernel
theorem dX10_line_370 : decode cX10_line 370 = .ok (.aload_n 0, 1) := by decide +kernel
theorem dX10_line_371 : decode cX10_line 371 = .ok (.bipush 7, 2) := by decide +kernel
theorem dX10_line_373 : decode cX10_line 373 = .ok (.aload_n 0, 1) := by decide +kernel
theorem dX10_line_374 : decode cX10_line 374 = .ok (.iconst 0, 1) := by decide +kernel
theorem dX10_line_375 : decode cX10_line 375 = .ok (.bipush 100, 2) := by decide +kernel
theorem dX10_line_377 : decode cX10_line 377 = .ok (.invokevirtual 229, 3) := by decide +kernel
theorem dX10_line_380 : decode cX10_line 380 = .ok (.invokevirtual 233, 3) := by decide +kernel
theorem dX10_line_383 : decode cX10_line 383 = .ok (.goto 23, 3) := by decide +kernel
theorem dX10_line_386 : decode cX10_line 386 = .ok (.aload_n 0, 1) := by decide +kernel
theorem dX10_line_387 : decode cX10_line 387 = .ok (.bipush 8, 2) := by decide +kernel
theorem dX10_line_389 : decode cX10_line 389 = .ok (.aload_n 0, 1) := by decide +kernel
theorem dX10_line_390 : decode cX10_line 390 = .ok (.iconst 0, 1) := by decide +kernel
theorem dX10_line_391 : decode cX10_line 391 = .ok (.ldc 183, 2) := by decide +kernel
theorem dX10_line_393 : decode cX10_line 393 = .ok (.invokevirtual 229, 3) := by decide +kernel
theorem dX10_line_396 : decode cX10_line 396 = .ok (.invokevirtual 233, 3) := by decide +kernel
theorem dX10_line_399 : decode cX10_line 399 = .ok (.goto 7, 3) := by decide +kernel
theorem dX10_line_402 : decode cX10_line 402 = .ok (.aload_n 0, 1) := by decide +kernel
theorem dX10_line_403 : decode cX10_line 403 = .ok (.invokevirtual 240, 3) := by decide +kernel
theorem dX10_line_406 : decode cX10_line 406 = .ok (.aload_n 0, 1) := by decide +kernel
theorem dX10_line_407 : decode cX10_line 407 = .ok (.getfield 199, 3) := by decide +kernel
theorem dX10_line_410 : decode cX10_line 410 = .ok (.ifCond .eq 4, 3) := by decide +kernel
theorem dX10_line_413 : decode cX10_line 413 = .ok (.return_, 1) := by decide +kernel
theorem dX10_line_414 : decode cX10_line 414 = .ok (.aload_n 0, 1) := by decide +kernel
theorem dX10_line_415 : decode cX10_line 415 = .ok (.bipush 59, 2) := by decide +kernel
theorem dX10_line_417 : decode cX10_line 417 = .ok (.invokevirtual 243, 3) := by decide +kernel
theorem dX10_line_420 : decode cX10_line 420 = .ok (.ifCond .ne 11, 3) := by decide +kernel
theorem dX10_line_423 : decode cX10_line 423 = .ok (.aload_n 0, 1) := by decide +kernel
theorem dX10_line_424 : decode cX10_line 424 = .ok (.iconst 1, 1) := by decide +kernel
theorem dX10_line_425 : decode cX10_line 425 = .ok (.invokevirtual 208, 3) := by decide +kernel
theorem dX10_line_428 : decode cX10_line 428 = .ok (.goto 7, 3) := by decide +kernel
theorem dX10_line_431 : decode cX10_line 431 = .ok (.aload_n 0, 1) := by decide +kernel
theorem dX10_line_432 : decode cX10_line 432 = .ok (.invokevirtual 205, 3) := by decide +kernel
theorem dX10_line_435 : decode cX10_line 435 = .ok (.aload_n 0, 1) := by decide +kernel
theorem dX10_line_436 : decode cX10_line 436 = .ok (.dup, 1) := by decide +kernel
theorem dX10_line_437 : decode cX10_line 437 = .ok (.getfield 246, 3) := by decide +kernel
theorem dX10_line_440 : decode cX10_line 440 = .ok (.iconst 1, 1) := by decide +kernel
theorem dX10_line_441 : decode cX10_line 441 = .ok (.iadd, 1) := by decide +kernel
theorem dX10_line_442 : decode cX10_line 442 = .ok (.putfield 246, 3) := by decide +kernel
theorem dX10_line_445 : decode cX10_line 445 = .ok (.return_, 1) := by decide +kernel
theorem dX10_planLine_0 : decode cX10_planLine 0 = .ok (.aload_n 0, 1) := by decide +kernel
theorem dX10_planLine_1 : decode cX10_planLine 1 = .ok (.aload_n 0, 1) := by decide +kernel
theorem dX10_planLine_2 : decode cX10_planLine 2 = .ok (.getfield 16, 3) := by decide +kernel
theorem dX10_planLine_5 : decode cX10_planLine 5 = .ok (.iconst 5, 1) := by decide +kernel
theorem dX10_planLine_6 : decode cX10_planLine 6 = .ok (.aload_n 0, 1) := by decide +kernel
theorem dX10_planLine_7 : decode cX10_planLine 7 = .ok (.iconst 0, 1) := by decide +kernel
theorem dX10_planLine_8 : decode cX10_planLine 8 = .ok (.invokevirtual 215, 3) := by decide +kernel
theorem dX10_planLine_11 : decode cX10_planLine 11 = .ok (.invokevirtual 249, 3) := by decide +kernel
theorem dX10_planLine_14 : decode cX10_planLine 14 = .ok (.istore_n 1, 1) := by decide +kernel
theorem dX10_planLine_15 : decode cX10_planLine 15 = .ok (.aload_n 0, 1) := by decide +kernel
theorem dX10_planLine_16 : decode cX10_planLine 16 = .ok (.invokevirtual 252, 3) := by decide +kernel
theorem dX10_planLine_19 : decode cX10_planLine 19 = .ok (.aload_n 0, 1) := by decide +kernel
theorem dX10_planLine_20 : decode cX10_planLine 20 = .ok (.aload_n 0, 1) := by decide +kernel
theorem dX10_planLine_21 : decode cX10_planLine 21 = .ok (.getfield 28, 3) := by decide +kernel
theorem dX10_planLine_24 : decode cX10_planLine 24 = .ok (.bipush 6, 2) := by decide +kernel
theorem dX10_planLine_26 : decode cX10_planLine 26 = .ok (.aload_n 0, 1) := by decide +kernel
theorem dX10_planLine_27 : decode cX10_planLine 27 = .ok (.iconst 1, 1) := by decide +kernel
theorem dX10_planLine_28 : decode cX10_planLine 28 = .ok (.invokevirtual 215, 3) := by decide +kernel
theorem dX10_planLine_31 : decode cX10_planLine 31 = .ok (.invokevirtual 249, 3) := by decide +kernel
theorem dX10_planLine_34 : decode cX10_planLine 34 = .ok (.istore_n 2, 1) := by decide +kernel
theorem dX10_planLine_35 : decode cX10_planLine 35 = .ok (.bipush 30, 2) := by decide +kernel
theorem dX10_planLine_37 : decode cX10_planLine 37 = .ok (.bipush 6, 2) := by decide +kernel
theorem dX10_planLine_39 : decode cX10_planLine 39 = .ok (.iload_n 1, 1) := by decide +kernel
theorem dX10_planLine_40 : decode cX10_planLine 40 = .ok (.imul, 1) := by decide +kernel
theorem dX10_planLine_41 : decode cX10_planLine 41 = .ok (.iadd, 1) := by decide +kernel
theorem dX10_planLine_42 : decode cX10_planLine 42 = .ok (.iload_n 2, 1) := by decide +kernel
theorem dX10_planLine_43 : decode cX10_planLine 43 = .ok (.iadd, 1) := by decide +kernel
theorem dX10_planLine_44 : decode cX10_planLine 44 = .ok (.istore_n 3, 1) := by decide +kernel
theorem dX10_planLine_45 : decode cX10_planLine 45 = .ok (.aload_n 0, 1) := by decide +kernel
theorem dX10_planLine_46 : decode cX10_planLine 46 = .ok (.getfield 199, 3) := by decide +kernel
theorem dX10_planLine_49 : decode cX10_planLine 49 = .ok (.ifCond .ne 17, 3) := by decide +kernel
theorem dX10_planLine_52 : decode cX10_planLine 52 = .ok (.aload_n 0, 1) := by decide +kernel
theorem dX10_planLine_53 : decode cX10_planLine 53 = .ok (.getfield 40, 3) := by decide +kernel
theorem dX10_planLine_56 : decode cX10_planLine 56 = .ok (.iload_n 3, 1) := by decide +kernel
theorem dX10_planLine_57 : decode cX10_planLine 57 = .ok (.iaload, 1) := by decide +kernel
theorem dX10_planLine_58 : decode cX10_planLine 58 = .ok (.ifCond .le 8, 3) := by decide +kernel
theorem dX10_planLine_61 : decode cX10_planLine 61 = .ok (.aload_n 0, 1) := by decide +kernel
theorem dX10_planLine_62 : decode cX10_planLine 62 = .ok (.iconst 3, 1) := by decide +kernel
theorem dX10_planLine_63 : decode cX10_planLine 63 = .ok (.invokevirtual 208, 3) := by decide +kernel
theorem dX10_planLine_66 : decode cX10_planLine 66 = .ok (.aload_n 0, 1) := by decide +kernel
theorem dX10_planLine_67 : decode cX10_planLine 67 = .ok (.invokevirtual 252, 3) := by decide +kernel
theorem dX10_planLine_70 : decode cX10_planLine 70 = .ok (.aload_n 0, 1) := by decide +kernel
theorem dX10_planLine_71 : decode cX10_planLine 71 = .ok (.iconst 1, 1) := by decide +kernel
theorem dX10_planLine_72 : decode cX10_planLine 72 = .ok (.bipush 9, 2) := by decide +kernel
theorem dX10_planLine_74 : decode cX10_planLine 74 = .ok (.invokevirtual 229, 3) := by decide +kernel
theorem dX10_planLine_77 : decode cX10_planLine 77 = .ok (.istore 4, 2) := by decide +kernel
theorem dX10_planLine_79 : decode cX10_planLine 79 = .ok (.aload_n 0, 1) := by decide +kernel
theorem dX10_planLine_80 : decode cX10_planLine 80 = .ok (.getfield 199, 3) := by decide +kernel
theorem dX10_planLine_83 : decode cX10_planLine 83 = .ok (.ifCond .eq 4, 3) := by decide +kernel
theorem dX10_planLine_86 : decode cX10_planLine 86 = .ok (.return_, 1) := by decide +kernel
theorem dX10_planLine_87 : decode cX10_planLine 87 = .ok (.aload_n 0, 1) := by decide +kernel
theorem dX10_planLine_88 : decode cX10_planLine 88 = .ok (.getfield 40, 3) := by decide +kernel
theorem dX10_planLine_91 : decode cX10_planLine 91 = .ok (.iload_n 3, 1) := by decide +kernel
theorem dX10_planLine_92 : decode cX10_planLine 92 = .ok (.iload 4, 2) := by decide +kernel
theorem dX10_planLine_94 : decode cX10_planLine 94 = .ok (.iastore, 1) := by decide +kernel
theorem dX10_planLine_95 : decode cX10_planLine 95 = .ok (.aload_n 0, 1) := by decide +kernel
theorem dX10_planLine_96 : decode cX10_planLine 96 = .ok (.iconst 2, 1) := by decide +kernel
theorem dX10_planLine_97 : decode cX10_planLine 97 = .ok (.aload_n 0, 1) := by decide +kernel
theorem dX10_planLine_98 : decode cX10_planLine 98 = .ok (.iconst 2, 1) := by decide +kernel
theorem dX10_planLine_99 : decode cX10_planLine 99 = .ok (.invokevirtual 215, 3) := by decide +kernel
theorem dX10_planLine_102 : decode cX10_planLine 102 = .ok (.iconst 1, 1) := by decide +kernel
theorem dX10_planLine_103 : decode cX10_planLine 103 = .ok (.iadd, 1) := by decide +kernel
theorem dX10_planLine_104 : decode cX10_planLine 104 = .ok (.invokevirtual 233, 3) := by decide +kernel
theorem dX10_planLine_107 : decode cX10_planLine 107 = .ok (.return_, 1) := by decide +kernel
theorem dX10_lawLine_0 : decode cX10_lawLine 0 = .ok (.aload_n 0, 1) := by decide +kernel
theorem dX10_lawLine_1 : decode cX10_lawLine 1 = .ok (.getfield 164, 3) := by decide +kernel
theorem dX10_lawLine_4 : decode cX10_lawLine 4 = .ok (.ifCond .ne 21, 3) := by decide +kernel
theorem dX10_lawLine_7 : decode cX10_lawLine 7 = .ok (.aload_n 0, 1) := by decide +kernel
theorem dX10_lawLine_8 : decode cX10_lawLine 8 = .ok (.getfield 174, 3) := by decide +kernel
theorem dX10_lawLine_11 : decode cX10_lawLine 11 = .ok (.bipush 8, 2) := by decide +kernel
theorem dX10_lawLine_13 : decode cX10_lawLine 13 = .ok (.if_icmp .lt 12, 3) := by decide +kernel
theorem dX10_lawLine_16 : decode cX10_lawLine 16 = .ok (.aload_n 0, 1) := by decide +kernel
theorem dX10_lawLine_17 : decode cX10_lawLine 17 = .ok (.getfield 174, 3) := by decide +kernel
theorem dX10_lawLine_20 : decode cX10_lawLine 20 = .ok (.bipush 10, 2) := by decide +kernel
theorem dX10_lawLine_22 : decode cX10_lawLine 22 = .ok (.if_icmp .le 8, 3) := by decide +kernel
theorem dX10_lawLine_25 : decode cX10_lawLine 25 = .ok (.aload_n 0, 1) := by decide +kernel
theorem dX10_lawLine_26 : decode cX10_lawLine 26 = .ok (.iconst 1, 1) := by decide +kernel
theorem dX10_lawLine_27 : decode cX10_lawLine 27 = .ok (.invokevirtual 208, 3) := by decide +kernel
theorem dX10_lawLine_30 : decode cX10_lawLine 30 = .ok (.aload_n 0, 1) := by decide +kernel
theorem dX10_lawLine_31 : decode cX10_lawLine 31 = .ok (.getfield 174, 3) := by decide +kernel
theorem dX10_lawLine_34 : decode cX10_lawLine 34 = .ok (.bipush 8, 2) := by decide +kernel
theorem dX10_lawLine_36 : decode cX10_lawLine 36 = .ok (.isub, 1) := by decide +kernel
theorem dX10_lawLine_37 : decode cX10_lawLine 37 = .ok (.istore_n 1, 1) := by decide +kernel
theorem dX10_lawLine_38 : decode cX10_lawLine 38 = .ok (.aload_n 0, 1) := by decide +kernel
theorem dX10_lawLine_39 : decode cX10_lawLine 39 = .ok (.getfield 199, 3) := by decide +kernel
theorem dX10_lawLine_42 : decode cX10_lawLine 42 = .ok (.ifCond .ne 23, 3) := by decide +kernel
theorem dX10_lawLine_45 : decode cX10_lawLine 45 = .ok (.aload_n 0, 1) := by decide +kernel
theorem dX10_lawLine_46 : decode cX10_lawLine 46 = .ok (.getfield 222, 3) := by decide +kernel
theorem dX10_lawLine_49 : decode cX10_lawLine 49 = .ok (.bipush 16, 2) := by decide +kernel
theorem dX10_lawLine_51 : decode cX10_lawLine 51 = .ok (.iload_n 1, 1) := by decide +kernel
theorem dX10_lawLine_52 : decode cX10_lawLine 52 = .ok (.iadd, 1) := by decide +kernel
theorem dX10_lawLine_53 : decode cX10_lawLine 53 = .ok (.ishr, 1) := by decide +kernel
theorem dX10_lawLine_54 : decode cX10_lawLine 54 = .ok (.iconst 1, 1) := by decide +kernel
theorem dX10_lawLine_55 : decode cX10_lawLine 55 = .ok (.iand, 1) := by decide +kernel
theorem dX10_lawLine_56 : decode cX10_lawLine 56 = .ok (.iconst 1, 1) := by decide +kernel
theorem dX10_lawLine_57 : decode cX10_lawLine 57 = .ok (.if_icmp .ne 8, 3) := by decide +kernel
theorem dX10_lawLine_60 : decode cX10_lawLine 60 = .ok (.aload_n 0, 1) := by decide +kernel
theorem dX10_lawLine_61 : decode cX10_lawLine 61 = .ok (.iconst 3, 1) := by decide +kernel
theorem dX10_lawLine_62 : decode cX10_lawLine 62 = .ok (.invokevirtual 208, 3) := by decide +kernel
theorem dX10_lawLine_65 : decode cX10_lawLine 65 = .ok (.aload_n 0, 1) := by decide +kernel
theorem dX10_lawLine_66 : decode cX10_lawLine 66 = .ok (.getfield 199, 3) := by decide +kernel
theorem dX10_lawLine_69 : decode cX10_lawLine 69 = .ok (.ifCond .eq 4, 3) := by decide +kernel
theorem dX10_lawLine_72 : decode cX10_lawLine 72 = .ok (.return_, 1) := by decide +kernel
theorem dX10_lawLine_73 : decode cX10_lawLine 73 = .ok (.aload_n 0, 1) := by decide +kernel
theorem dX10_lawLine_74 : decode cX10_lawLine 74 = .ok (.dup, 1) := by decide +kernel
theorem dX10_lawLine_75 : decode cX10_lawLine 75 = .ok (.getfield 222, 3) := by decide +kernel
theorem dX10_lawLine_78 : decode cX10_lawLine 78 = .ok (.iconst 1, 1) := by decide +kernel
theorem dX10_lawLine_79 : decode cX10_lawLine 79 = .ok (.bipush 16, 2) := by decide +kernel
theorem dX10_lawLine_81 : decode cX10_lawLine 81 = .ok (.iload_n 1, 1) := by decide +kernel
theorem dX10_lawLine_82 : decode cX10_lawLine 82 = .ok (.iadd, 1) := by decide +kernel
theorem dX10_lawLine_83 : decode cX10_lawLine 83 = .ok (.ishl, 1) := by decide +kernel
theorem dX10_lawLine_84 : decode cX10_lawLine 84 = .ok (.ior, 1) := by decide +kernel
theorem dX10_lawLine_85 : decode cX10_lawLine 85 = .ok (.putfield 222, 3) := by decide +kernel
theorem dX10_lawLine_88 : decode cX10_lawLine 88 = .ok (.aload_n 0, 1) := by decide +kernel
theorem dX10_lawLine_89 : decode cX10_lawLine 89 = .ok (.invokevirtual 205, 3) := by decide +kernel
theorem dX10_lawLine_92 : decode cX10_lawLine 92 = .ok (.aload_n 0, 1) := by decide +kernel
theorem dX10_lawLine_93 : decode cX10_lawLine 93 = .ok (.getfield 43, 3) := by decide +kernel
theorem dX10_lawLine_96 : decode cX10_lawLine 96 = .ok (.iconst 3, 1) := by decide +kernel
theorem dX10_lawLine_97 : decode cX10_lawLine 97 = .ok (.iload_n 1, 1) := by decide +kernel
theorem dX10_lawLine_98 : decode cX10_lawLine 98 = .ok (.iadd, 1) := by decide +kernel
theorem dX10_lawLine_99 : decode cX10_lawLine 99 = .ok (.aload_n 0, 1) := by decide +kernel
theorem dX10_lawLine_100 : decode cX10_lawLine 100 = .ok (.bipush 9, 2) := by decide +kernel
theorem dX10_lawLine_102 : decode cX10_lawLine 102 = .ok (.invokevirtual 215, 3) := by decide +kernel
theorem dX10_lawLine_105 : decode cX10_lawLine 105 = .ok (.iastore, 1) := by decide +kernel
theorem dX10_lawLine_106 : decode cX10_lawLine 106 = .ok (.aload_n 0, 1) := by decide +kernel
theorem dX10_lawLine_107 : decode cX10_lawLine 107 = .ok (.invokevirtual 255, 3) := by decide +kernel
theorem dX10_lawLine_110 : decode cX10_lawLine 110 = .ok (.aload_n 0, 1) := by decide +kernel
theorem dX10_lawLine_111 : decode cX10_lawLine 111 = .ok (.getfield 46, 3) := by decide +kernel
theorem dX10_lawLine_114 : decode cX10_lawLine 114 = .ok (.iconst 3, 1) := by decide +kernel
theorem dX10_lawLine_115 : decode cX10_lawLine 115 = .ok (.iload_n 1, 1) := by decide +kernel
theorem dX10_lawLine_116 : decode cX10_lawLine 116 = .ok (.iadd, 1) := by decide +kernel
theorem dX10_lawLine_117 : decode cX10_lawLine 117 = .ok (.aload_n 0, 1) := by decide +kernel
theorem dX10_lawLine_118 : decode cX10_lawLine 118 = .ok (.bipush 9, 2) := by decide +kernel
theorem dX10_lawLine_120 : decode cX10_lawLine 120 = .ok (.invokevirtual 215, 3) := by decide +kernel
theorem dX10_lawLine_123 : decode cX10_lawLine 123 = .ok (.iastore, 1) := by decide +kernel
theorem dX10_lawLine_124 : decode cX10_lawLine 124 = .ok (.return_, 1) := by decide +kernel
theorem dX10_puts_0 : decode cX10_puts 0 = .ok (.aload_n 0, 1) := by decide +kernel
theorem dX10_puts_1 : decode cX10_puts 1 = .ok (.getfield 199, 3) := by decide +kernel
theorem dX10_puts_4 : decode cX10_puts 4 = .ok (.ifCond .eq 4, 3) := by decide +kernel
theorem dX10_puts_7 : decode cX10_puts 7 = .ok (.return_, 1) := by decide +kernel
theorem dX10_puts_8 : decode cX10_puts 8 = .ok (.aload_n 0, 1) := by decide +kernel
theorem dX10_puts_9 : decode cX10_puts 9 = .ok (.getfield 49, 3) := by decide +kernel
theorem dX10_puts_12 : decode cX10_puts 12 = .ok (.bipush 64, 2) := by decide +kernel
theorem dX10_puts_14 : decode cX10_puts 14 = .ok (.aload_n 0, 1) := by decide +kernel
theorem dX10_puts_15 : decode cX10_puts 15 = .ok (.bipush 9, 2) := by decide +kernel
theorem dX10_puts_17 : decode cX10_puts 17 = .ok (.invokevirtual 215, 3) := by decide +kernel
theorem dX10_puts_20 : decode cX10_puts 20 = .ok (.iadd, 1) := by decide +kernel
theorem dX10_puts_21 : decode cX10_puts 21 = .ok (.iload_n 1, 1) := by decide +kernel
theorem dX10_puts_22 : decode cX10_puts 22 = .ok (.iastore, 1) := by decide +kernel
theorem dX10_puts_23 : decode cX10_puts 23 = .ok (.aload_n 0, 1) := by decide +kernel
theorem dX10_puts_24 : decode cX10_puts 24 = .ok (.getfield 52, 3) := by decide +kernel
theorem dX10_puts_27 : decode cX10_puts 27 = .ok (.bipush 64, 2) := by decide +kernel
theorem dX10_puts_29 : decode cX10_puts 29 = .ok (.aload_n 0, 1) := by decide +kernel
theorem dX10_puts_30 : decode cX10_puts 30 = .ok (.bipush 9, 2) := by decide +kernel
theorem dX10_puts_32 : decode cX10_puts 32 = .ok (.invokevirtual 215, 3) := by decide +kernel
theorem dX10_puts_35 : decode cX10_puts 35 = .ok (.iadd, 1) := by decide +kernel
theorem dX10_puts_36 : decode cX10_puts 36 = .ok (.iload_n 2, 1) := by decide +kernel
theorem dX10_puts_37 : decode cX10_puts 37 = .ok (.iastore, 1) := by decide +kernel
theorem dX10_puts_38 : decode cX10_puts 38 = .ok (.aload_n 0, 1) := by decide +kernel
theorem dX10_puts_39 : decode cX10_puts 39 = .ok (.bipush 9, 2) := by decide +kernel
theorem dX10_puts_41 : decode cX10_puts 41 = .ok (.aload_n 0, 1) := by decide +kernel
theorem dX10_puts_42 : decode cX10_puts 42 = .ok (.bipush 9, 2) := by decide +kernel
theorem dX10_puts_44 : decode cX10_puts 44 = .ok (.invokevirtual 215, 3) := by decide +kernel
theorem dX10_puts_47 : decode cX10_puts 47 = .ok (.iconst 1, 1) := by decide +kernel
theorem dX10_puts_48 : decode cX10_puts 48 = .ok (.iadd, 1) := by decide +kernel
theorem dX10_puts_49 : decode cX10_puts 49 = .ok (.invokevirtual 233, 3) := by decide +kernel
theorem dX10_puts_52 : decode cX10_puts 52 = .ok (.return_, 1) := by decide +kernel
theorem dX10_knot_0 : decode cX10_knot 0 = .ok (.aload_n 0, 1) := by decide +kernel
theorem dX10_knot_1 : decode cX10_knot 1 = .ok (.getfield 199, 3) := by decide +kernel
theorem dX10_knot_4 : decode cX10_knot 4 = .ok (.ifCond .eq 4, 3) := by decide +kernel
theorem dX10_knot_7 : decode cX10_knot 7 = .ok (.return_, 1) := by decide +kernel
theorem dX10_knot_8 : decode cX10_knot 8 = .ok (.aload_n 0, 1) := by decide +kernel
theorem dX10_knot_9 : decode cX10_knot 9 = .ok (.getfield 258, 3) := by decide +kernel
theorem dX10_knot_12 : decode cX10_knot 12 = .ok (.bipush 64, 2) := by decide +kernel
theorem dX10_knot_14 : decode cX10_knot 14 = .ok (.if_icmp .ne 11, 3) := by decide +kernel
theorem dX10_knot_17 : decode cX10_knot 17 = .ok (.aload_n 0, 1) := by decide +kernel
theorem dX10_knot_18 : decode cX10_knot 18 = .ok (.iconst 2, 1) := by decide +kernel
theorem dX10_knot_19 : decode cX10_knot 19 = .ok (.invokevirtual 208, 3) := by decide +kernel
theorem dX10_knot_22 : decode cX10_knot 22 = .ok (.goto 13, 3) := by decide +kernel
theorem dX10_knot_25 : decode cX10_knot 25 = .ok (.aload_n 0, 1) := by decide +kernel
theorem dX10_knot_26 : decode cX10_knot 26 = .ok (.dup, 1) := by decide +kernel
theorem dX10_knot_27 : decode cX10_knot 27 = .ok (.getfield 258, 3) := by decide +kernel
theorem dX10_knot_30 : decode cX10_knot 30 = .ok (.iconst 1, 1) := by decide +kernel
theorem dX10_knot_31 : decode cX10_knot 31 = .ok (.iadd, 1) := by decide +kernel
theorem dX10_knot_32 : decode cX10_knot 32 = .ok (.putfield 258, 3) := by decide +kernel
theorem dX10_knot_35 : decode cX10_knot 35 = .ok (.return_, 1) := by decide +kernel
theorem dX10_expression_0 : decode cX10_expression 0 = .ok (.aload_n 0, 1) := by decide +kernel
theorem dX10_expression_1 : decode cX10_expression 1 = .ok (.invokevirtual 261, 3) := by decide +kernel
theorem dX10_expression_4 : decode cX10_expression 4 = .ok (.aload_n 0, 1) := by decide +kernel
theorem dX10_expression_5 : decode cX10_expression 5 = .ok (.bipush 11, 2) := by decide +kernel
theorem dX10_expression_7 : decode cX10_expression 7 = .ok (.invokevirtual 264, 3) := by decide +kernel
theorem dX10_expression_10 : decode cX10_expression 10 = .ok (.ifCond .eq 26, 3) := by decide +kernel
theorem dX10_expression_13 : decode cX10_expression 13 = .ok (.aload_n 0, 1) := by decide +kernel
theorem dX10_expression_14 : decode cX10_expression 14 = .ok (.invokevirtual 267, 3) := by decide +kernel
theorem dX10_expression_17 : decode cX10_expression 17 = .ok (.aload_n 0, 1) := by decide +kernel
theorem dX10_expression_18 : decode cX10_expression 18 = .ok (.invokevirtual 252, 3) := by decide +kernel
theorem dX10_expression_21 : decode cX10_expression 21 = .ok (.aload_n 0, 1) := by decide +kernel
theorem dX10_expression_22 : decode cX10_expression 22 = .ok (.invokevirtual 261, 3) := by decide +kernel
theorem dX10_expression_25 : decode cX10_expression 25 = .ok (.aload_n 0, 1) := by decide +kernel
theorem dX10_expression_26 : decode cX10_expression 26 = .ok (.iconst 2, 1) := by decide +kernel
theorem dX10_expression_27 : decode cX10_expression 27 = .ok (.sipush 262, 3) := by decide +kernel
theorem dX10_expression_30 : decode cX10_expression 30 = .ok (.invokevirtual 270, 3) := by decide +kernel
theorem dX10_expression_33 : decode cX10_expression 33 = .ok (.goto (-29), 3) := by decide +kernel
theorem dX10_expression_36 : decode cX10_expression 36 = .ok (.return_, 1) := by decide +kernel
theorem dX10_conjunction_0 : decode cX10_conjunction 0 = .ok (.aload_n 0, 1) := by decide +kernel
theorem dX10_conjunction_1 : decode cX10_conjunction 1 = .ok (.invokevirtual 273, 3) := by decide +kernel
theorem dX10_conjunction_4 : decode cX10_conjunction 4 = .ok (.aload_n 0, 1) := by decide +kernel
theorem dX10_conjunction_5 : decode cX10_conjunction 5 = .ok (.bipush 12, 2) := by decide +kernel
theorem dX10_conjunction_7 : decode cX10_conjunction 7 = .ok (.invokevirtual 264, 3) := by decide +kernel
theorem dX10_conjunction_10 : decode cX10_conjunction 10 = .ok (.ifCond .eq 26, 3) := by decide +kernel
theorem dX10_conjunction_13 : decode cX10_conjunction 13 = .ok (.aload_n 0, 1) := by decide +kernel
theorem dX10_conjunction_14 : decode cX10_conjunction 14 = .ok (.invokevirtual 267, 3) := by decide +kernel
theorem dX10_conjunction_17 : decode cX10_conjunction 17 = .ok (.aload_n 0, 1) := by decide +kernel
theorem dX10_conjunction_18 : decode cX10_conjunction 18 = .ok (.invokevirtual 252, 3) := by decide +kernel
theorem dX10_conjunction_21 : decode cX10_conjunction 21 = .ok (.aload_n 0, 1) := by decide +kernel
theorem dX10_conjunction_22 : decode cX10_conjunction 22 = .ok (.invokevirtual 273, 3) := by decide +kernel
theorem dX10_conjunction_25 : decode cX10_conjunction 25 = .ok (.aload_n 0, 1) := by decide +kernel
theorem dX10_conjunction_26 : decode cX10_conjunction 26 = .ok (.iconst 2, 1) := by decide +kernel
theorem dX10_conjunction_27 : decode cX10_conjunction 27 = .ok (.sipush 261, 3) := by decide +kernel
theorem dX10_conjunction_30 : decode cX10_conjunction 30 = .ok (.invokevirtual 270, 3) := by decide +kernel
theorem dX10_conjunction_33 : decode cX10_conjunction 33 = .ok (.goto (-29), 3) := by decide +kernel
theorem dX10_conjunction_36 : decode cX10_conjunction 36 = .ok (.return_, 1) := by decide +kernel
theorem dX10_negation_0 : decode cX10_negation 0 = .ok (.aload_n 0, 1) := by decide +kernel
theorem dX10_negation_1 : decode cX10_negation 1 = .ok (.bipush 13, 2) := by decide +kernel
theorem dX10_negation_3 : decode cX10_negation 3 = .ok (.invokevirtual 264, 3) := by decide +kernel
theorem dX10_negation_6 : decode cX10_negation 6 = .ok (.ifCond .eq 24, 3) := by decide +kernel
theorem dX10_negation_9 : decode cX10_negation 9 = .ok (.aload_n 0, 1) := by decide +kernel
theorem dX10_negation_10 : decode cX10_negation 10 = .ok (.invokevirtual 267, 3) := by decide +kernel
theorem dX10_negation_13 : decode cX10_negation 13 = .ok (.aload_n 0, 1) := by decide +kernel
theorem dX10_negation_14 : decode cX10_negation 14 = .ok (.invokevirtual 252, 3) := by decide +kernel
theorem dX10_negation_17 : decode cX10_negation 17 = .ok (.aload_n 0, 1) := by decide +kernel
theorem dX10_negation_18 : decode cX10_negation 18 = .ok (.invokevirtual 273, 3) := by decide +kernel
theorem dX10_negation_21 : decode cX10_negation 21 = .ok (.aload_n 0, 1) := by decide +kernel
theorem dX10_negation_22 : decode cX10_negation 22 = .ok (.iconst 2, 1) := by decide +kernel
theorem dX10_negation_23 : decode cX10_negation 23 = .ok (.sipush 260, 3) := by decide +kernel
theorem dX10_negation_26 : decode cX10_negation 26 = .ok (.invokevirtual 270, 3) := by decide +kernel
theorem dX10_negation_29 : decode cX10_negation 29 = .ok (.return_, 1) := by decide +kernel
theorem dX10_negation_30 : decode cX10_negation 30 = .ok (.aload_n 0, 1) := by decide +kernel
theorem dX10_negation_31 : decode cX10_negation 31 = .ok (.invokevirtual 276, 3) := by decide +kernel
theorem dX10_negation_34 : decode cX10_negation 34 = .ok (.aload_n 0, 1) := by decide +kernel
theorem dX10_negation_35 : decode cX10_negation 35 = .ok (.getfield 199, 3) := by decide +kernel
theorem dX10_negation_38 : decode cX10_negation 38 = .ok (.ifCond .ne 48, 3) := by decide +kernel
theorem dX10_negation_41 : decode cX10_negation 41 = .ok (.aload_n 0, 1) := by decide +kernel
theorem dX10_negation_42 : decode cX10_negation 42 = .ok (.getfield 164, 3) := by decide +kernel
theorem dX10_negation_45 : decode cX10_negation 45 = .ok (.iconst 3, 1) := by decide +kernel
theorem dX10_negation_46 : decode cX10_negation 46 = .ok (.if_icmp .ne 40, 3) := by decide +kernel
theorem dX10_negation_49 : decode cX10_negation 49 = .ok (.aload_n 0, 1) := by decide +kernel
theorem dX10_negation_50 : decode cX10_negation 50 = .ok (.getfield 174, 3) := by decide +kernel
theorem dX10_negation_53 : decode cX10_negation 53 = .ok (.bipush 60, 2) := by decide +kernel
theorem dX10_negation_55 : decode cX10_negation 55 = .ok (.if_icmp .eq 32, 3) := by decide +kernel
theorem dX10_negation_58 : decode cX10_negation 58 = .ok (.aload_n 0, 1) := by decide +kernel
theorem dX10_negation_59 : decode cX10_negation 59 = .ok (.getfield 174, 3) := by decide +kernel
theorem dX10_negation_62 : decode cX10_negation 62 = .ok (.bipush 62, 2) := by decide +kernel
theorem dX10_negation_64 : decode cX10_negation 64 = .ok (.if_icmp .eq 23, 3) := by decide +kernel
theorem dX10_negation_67 : decode cX10_negation 67 = .ok (.aload_n 0, 1) := by decide +kernel
theorem dX10_negation_68 : decode cX10_negation 68 = .ok (.getfield 174, 3) := by decide +kernel
theorem dX10_negation_71 : decode cX10_negation 71 = .ok (.bipush 61, 2) := by decide +kernel
theorem dX10_negation_73 : decode cX10_negation 73 = .ok (.if_icmp .eq 14, 3) := by decide +kernel
theorem dX10_negation_76 : decode cX10_negation 76 = .ok (.aload_n 0, 1) := by decide +kernel
theorem dX10_negation_77 : decode cX10_negation 77 = .ok (.getfield 174, 3) := by decide +kernel
theorem dX10_negation_80 : decode cX10_negation 80 = .ok (.sipush 256, 3) := by decide +kernel
theorem dX10_negation_83 : decode cX10_negation 83 = .ok (.if_icmp .ge 4, 3) := by decide +kernel
theorem dX10_negation_86 : decode cX10_negation 86 = .ok (.return_, 1) := by decide +kernel
theorem dX10_negation_87 : decode cX10_negation 87 = .ok (.aload_n 0, 1) := by decide +kernel
theorem dX10_negation_88 : decode cX10_negation 88 = .ok (.getfield 174, 3) := by decide +kernel
theorem dX10_negation_91 : decode cX10_negation 91 = .ok (.istore_n 1, 1) := by decide +kernel
theorem dX10_negation_92 : decode cX10_negation 92 = .ok (.aload_n 0, 1) := by decide +kernel
theorem dX10_negation_93 : decode cX10_negation 93 = .ok (.invokevirtual 267, 3) := by decide +kernel
theorem dX10_negation_96 : decode cX10_negation 96 = .ok (.aload_n 0, 1) := by decide +kernel
theorem dX10_negation_97 : decode cX10_negation 97 = .ok (.invokevirtual 252, 3) := by decide +kernel
theorem dX10_negation_100 : decode cX10_negation 100 = .ok (.aload_n 0, 1) := by decide +kernel
theorem dX10_negation_101 : decode cX10_negation 101 = .ok (.invokevirtual 276, 3) := by decide +kernel
theorem dX10_negation_104 : decode cX10_negation 104 = .ok (.aload_n 0, 1) := by decide +kernel
theorem dX10_negation_105 : decode cX10_negation 105 = .ok (.iconst 2, 1) := by decide +kernel
theorem dX10_negation_106 : decode cX10_negation 106 = .ok (.iload_n 1, 1) := by decide +kernel
theorem dX10_negation_107 : decode cX10_negation 107 = .ok (.invokevirtual 270, 3) := by decide +kernel
theorem dX10_negation_110 : decode cX10_negation 110 = .ok (.return_, 1) := by decide +kernel
theorem dX10_sum_0 : decode cX10_sum 0 = .ok (.aload_n 0, 1) := by decide +kernel
theorem dX10_sum_1 : decode cX10_sum 1 = .ok (.invokevirtual 279, 3) := by decide +kernel
theorem dX10_sum_4 : decode cX10_sum 4 = .ok (.aload_n 0, 1) := by decide +kernel
theorem dX10_sum_5 : decode cX10_sum 5 = .ok (.bipush 43, 2) := by decide +kernel
theorem dX10_sum_7 : decode cX10_sum 7 = .ok (.invokevirtual 243, 3) := by decide +kernel
theorem dX10_sum_10 : decode cX10_sum 10 = .ok (.ifCond .ne 12, 3) := by decide +kernel
theorem dX10_sum_13 : decode cX10_sum 13 = .ok (.aload_n 0, 1) := by decide +kernel
theorem dX10_sum_14 : decode cX10_sum 14 = .ok (.bipush 45, 2) := by decide +kernel
theorem dX10_sum_16 : decode cX10_sum 16 = .ok (.invokevirtual 243, 3) := by decide +kernel
theorem dX10_sum_19 : decode cX10_sum 19 = .ok (.ifCond .eq 29, 3) := by decide +kernel
theorem dX10_sum_22 : decode cX10_sum 22 = .ok (.aload_n 0, 1) := by decide +kernel
theorem dX10_sum_23 : decode cX10_sum 23 = .ok (.getfield 174, 3) := by decide +kernel
theorem dX10_sum_26 : decode cX10_sum 26 = .ok (.istore_n 1, 1) := by decide +kernel
theorem dX10_sum_27 : decode cX10_sum 27 = .ok (.aload_n 0, 1) := by decide +kernel
theorem dX10_sum_28 : decode cX10_sum 28 = .ok (.invokevirtual 267, 3) := by decide +kernel
theorem dX10_sum_31 : decode cX10_sum 31 = .ok (.aload_n 0, 1) := by decide +kernel
theorem dX10_sum_32 : decode cX10_sum 32 = .ok (.invokevirtual 252, 3) := by decide +kernel
theorem dX10_sum_35 : decode cX10_sum 35 = .ok (.aload_n 0, 1) := by decide +kernel
theorem dX10_sum_36 : decode cX10_sum 36 = .ok (.invokevirtual 279, 3) := by decide +kernel
theorem dX10_sum_39 : decode cX10_sum 39 = .ok (.aload_n 0, 1) := by decide +kernel
theorem dX10_sum_40 : decode cX10_sum 40 = .ok (.iconst 2, 1) := by decide +kernel
theorem dX10_sum_41 : decode cX10_sum 41 = .ok (.iload_n 1, 1) := by decide +kernel
theorem dX10_sum_42 : decode cX10_sum 42 = .ok (.invokevirtual 270, 3) := by decide +kernel
theorem dX10_sum_45 : decode cX10_sum 45 = .ok (.goto (-41), 3) := by decide +kernel
theorem dX10_sum_48 : decode cX10_sum 48 = .ok (.return_, 1) := by decide +kernel
theorem dX10_product_0 : decode cX10_product 0 = .ok (.aload_n 0, 1) := by decide +kernel
theorem dX10_product_1 : decode cX10_product 1 = .ok (.invokevirtual 282, 3) := by decide +kernel
theorem dX10_product_4 : decode cX10_product 4 = .ok (.aload_n 0, 1) := by decide +kernel
theorem dX10_product_5 : decode cX10_product 5 = .ok (.bipush 42, 2) := by decide +kernel
theorem dX10_product_7 : decode cX10_product 7 = .ok (.invokevirtual 243, 3) := by decide +kernel
theorem dX10_product_10 : decode cX10_product 10 = .ok (.ifCond .ne 12, 3) := by decide +kernel
theorem dX10_product_13 : decode cX10_product 13 = .ok (.aload_n 0, 1) := by decide +kernel
theorem dX10_product_14 : decode cX10_product 14 = .ok (.bipush 47, 2) := by decide +kernel
theorem dX10_product_16 : decode cX10_product 16 = .ok (.invokevirtual 243, 3) := by decide +kernel
theorem dX10_product_19 : decode cX10_product 19 = .ok (.ifCond .eq 29, 3) := by decide +kernel
theorem dX10_product_22 : decode cX10_product 22 = .ok (.aload_n 0, 1) := by decide +kernel
theorem dX10_product_23 : decode cX10_product 23 = .ok (.getfield 174, 3) := by decide +kernel
theorem dX10_product_26 : decode cX10_product 26 = .ok (.istore_n 1, 1) := by decide +kernel
theorem dX10_product_27 : decode cX10_product 27 = .ok (.aload_n 0, 1) := by decide +kernel
theorem dX10_product_28 : decode cX10_product 28 = .ok (.invokevirtual 267, 3) := by decide +kernel
theorem dX10_product_31 : decode cX10_product 31 = .ok (.aload_n 0, 1) := by decide +kernel
theorem dX10_product_32 : decode cX10_product 32 = .ok (.invokevirtual 252, 3) := by decide +kernel
theorem dX10_product_35 : decode cX10_product 35 = .ok (.aload_n 0, 1) := by decide +kernel
theorem dX10_product_36 : decode cX10_product 36 = .ok (.invokevirtual 282, 3) := by decide +kernel
theorem dX10_product_39 : decode cX10_product 39 = .ok (.aload_n 0, 1) := by decide +kernel
theorem dX10_product_40 : decode cX10_product 40 = .ok (.iconst 2, 1) := by decide +kernel
theorem dX10_product_41 : decode cX10_product 41 = .ok (.iload_n 1, 1) := by decide +kernel
theorem dX10_product_42 : decode cX10_product 42 = .ok (.invokevirtual 270, 3) := by decide +kernel
theorem dX10_product_45 : decode cX10_product 45 = .ok (.goto (-41), 3) := by decide +kernel
theorem dX10_product_48 : decode cX10_product 48 = .ok (.return_, 1) := by decide +kernel
theorem dX10_primary_0 : decode cX10_primary 0 = .ok (.aload_n 0, 1) := by decide +kernel
theorem dX10_primary_1 : decode cX10_primary 1 = .ok (.getfield 199, 3) := by decide +kernel
theorem dX10_primary_4 : decode cX10_primary 4 = .ok (.ifCond .eq 4, 3) := by decide +kernel
theorem dX10_primary_7 : decode cX10_primary 7 = .ok (.return_, 1) := by decide +kernel
theorem dX10_primary_8 : decode cX10_primary 8 = .ok (.aload_n 0, 1) := by decide +kernel
theorem dX10_primary_9 : decode cX10_primary 9 = .ok (.bipush 40, 2) := by decide +kernel
theorem dX10_primary_11 : decode cX10_primary 11 = .ok (.invokevirtual 243, 3) := by decide +kernel
theorem dX10_primary_14 : decode cX10_primary 14 = .ok (.ifCond .eq 87, 3) := by decide +kernel
theorem dX10_primary_17 : decode cX10_primary 17 = .ok (.aload_n 0, 1) := by decide +kernel
theorem dX10_primary_18 : decode cX10_primary 18 = .ok (.getfield 285, 3) := by decide +kernel
theorem dX10_primary_21 : decode cX10_primary 21 = .ok (.bipush 8, 2) := by decide +kernel
theorem dX10_primary_23 : decode cX10_primary 23 = .ok (.if_icmp .ne 8, 3) := by decide +kernel
theorem dX10_primary_26 : decode cX10_primary 26 = .ok (.aload_n 0, 1) := by decide +kernel
theorem dX10_primary_27 : decode cX10_primary 27 = .ok (.iconst 2, 1) := by decide +kernel
theorem dX10_primary_28 : decode cX10_primary 28 = .ok (.invokevirtual 208, 3) := by decide +kernel
theorem dX10_primary_31 : decode cX10_primary 31 = .ok (.aload_n 0, 1) := by decide +kernel
theorem dX10_primary_32 : decode cX10_primary 32 = .ok (.getfield 199, 3) := by decide +kernel
theorem dX10_primary_35 : decode cX10_primary 35 = .ok (.ifCond .eq 4, 3) := by decide +kernel
theorem dX10_primary_38 : decode cX10_primary 38 = .ok (.return_, 1) := by decide +kernel
theorem dX10_primary_39 : decode cX10_primary 39 = .ok (.aload_n 0, 1) := by decide +kernel
theorem dX10_primary_40 : decode cX10_primary 40 = .ok (.dup, 1) := by decide +kernel
theorem dX10_primary_41 : decode cX10_primary 41 = .ok (.getfield 285, 3) := by decide +kernel
theorem dX10_primary_44 : decode cX10_primary 44 = .ok (.iconst 1, 1) := by decide +kernel
theorem dX10_primary_45 : decode cX10_primary 45 = .ok (.iadd, 1) := by decide +kernel
theorem dX10_primary_46 : decode cX10_primary 46 = .ok (.putfield 285, 3) := by decide +kernel
theorem dX10_primary_49 : decode cX10_primary 49 = .ok (.aload_n 0, 1) := by decide +kernel
theorem dX10_primary_50 : decode cX10_primary 50 = .ok (.invokevirtual 205, 3) := by decide +kernel
theorem dX10_primary_53 : decode cX10_primary 53 = .ok (.aload_n 0, 1) := by decide +kernel
theorem dX10_primary_54 : decode cX10_primary 54 = .ok (.invokevirtual 255, 3) := by decide +kernel
theorem dX10_primary_57 : decode cX10_primary 57 = .ok (.aload_n 0, 1) := by decide +kernel
theorem dX10_primary_58 : decode cX10_primary 58 = .ok (.getfield 199, 3) := by decide +kernel
theorem dX10_primary_61 : decode cX10_primary 61 = .ok (.ifCond .ne 17, 3) := by decide +kernel
theorem dX10_primary_64 : decode cX10_primary 64 = .ok (.aload_n 0, 1) := by decide +kernel
theorem dX10_primary_65 : decode cX10_primary 65 = .ok (.bipush 41, 2) := by decide +kernel
theorem dX10_primary_67 : decode cX10_primary 67 = .ok (.invokevirtual 243, 3) := by decide +kernel
theorem dX10_primary_70 : decode cX10_primary 70 = .ok (.ifCond .ne 8, 3) := by decide +kernel
theorem dX10_primary_73 : decode cX10_primary 73 = .ok (.aload_n 0, 1) := by decide +kernel
theorem dX10_primary_74 : decode cX10_primary 74 = .ok (.iconst 1, 1) := by decide +kernel
theorem dX10_primary_75 : decode cX10_primary 75 = .ok (.invokevirtual 208, 3) := by decide +kernel
theorem dX10_primary_78 : decode cX10_primary 78 = .ok (.aload_n 0, 1) := by decide +kernel
theorem dX10_primary_79 : decode cX10_primary 79 = .ok (.getfield 199, 3) := by decide +kernel
theorem dX10_primary_82 : decode cX10_primary 82 = .ok (.ifCond .eq 4, 3) := by decide +kernel
theorem dX10_primary_85 : decode cX10_primary 85 = .ok (.return_, 1) := by decide +kernel
theorem dX10_primary_86 : decode cX10_primary 86 = .ok (.aload_n 0, 1) := by decide +kernel
theorem dX10_primary_87 : decode cX10_primary 87 = .ok (.dup, 1) := by decide +kernel
theorem dX10_primary_88 : decode cX10_primary 88 = .ok (.getfield 285, 3) := by decide +kernel
theorem dX10_primary_91 : decode cX10_primary 91 = .ok (.iconst 1, 1) := by decide +kernel
theorem dX10_primary_92 : decode cX10_primary 92 = .ok (.isub, 1) := by decide +kernel
theorem dX10_primary_93 : decode cX10_primary 93 = .ok (.putfield 285, 3) := by decide +kernel
theorem dX10_primary_96 : decode cX10_primary 96 = .ok (.aload_n 0, 1) := by decide +kernel
theorem dX10_primary_97 : decode cX10_primary 97 = .ok (.invokevirtual 205, 3) := by decide +kernel
theorem dX10_primary_100 : decode cX10_primary 100 = .ok (.return_, 1) := by decide +kernel
theorem dX10_primary_101 : decode cX10_primary 101 = .ok (.aload_n 0, 1) := by decide +kernel
theorem dX10_primary_102 : decode cX10_primary 102 = .ok (.getfield 164, 3) := by decide +kernel
theorem dX10_primary_105 : decode cX10_primary 105 = .ok (.iconst 2, 1) := by decide +kernel
theorem dX10_primary_106 : decode cX10_primary 106 = .ok (.if_icmp .ne 7, 3) := by decide +kernel
theorem dX10_primary_109 : decode cX10_primary 109 = .ok (.iconst 1, 1) := by decide +kernel
theorem dX10_primary_110 : decode cX10_primary 110 = .ok (.goto 4, 3) := by decide +kernel
theorem dX10_primary_113 : decode cX10_primary 113 = .ok (.iconst 0, 1) := by decide +kernel
theorem dX10_primary_114 : decode cX10_primary 114 = .ok (.istore_n 1, 1) := by decide +kernel
theorem dX10_primary_115 : decode cX10_primary 115 = .ok (.iload_n 1, 1) := by decide +kernel
theorem dX10_primary_116 : decode cX10_primary 116 = .ok (.ifCond .eq 21, 3) := by decide +kernel
theorem dX10_primary_119 : decode cX10_primary 119 = .ok (.aload_n 0, 1) := by decide +kernel
theorem dX10_primary_120 : decode cX10_primary 120 = .ok (.getfield 174, 3) := by decide +kernel
theorem dX10_primary_123 : decode cX10_primary 123 = .ok (.sipush 9999, 3) := by decide +kernel
theorem dX10_primary_126 : decode cX10_primary 126 = .ok (.if_icmp .le 11, 3) := by decide +kernel
theorem dX10_primary_129 : decode cX10_primary 129 = .ok (.aload_n 0, 1) := by decide +kernel
theorem dX10_primary_130 : decode cX10_primary 130 = .ok (.iconst 2, 1) := by decide +kernel
theorem dX10_primary_131 : decode cX10_primary 131 = .ok (.invokevirtual 208, 3) := by decide +kernel
theorem dX10_primary_134 : decode cX10_primary 134 = .ok (.goto 28, 3) := by decide +kernel
theorem dX10_primary_137 : decode cX10_primary 137 = .ok (.iload_n 1, 1) := by decide +kernel
theorem dX10_primary_138 : decode cX10_primary 138 = .ok (.ifCond .ne 24, 3) := by decide +kernel
theorem dX10_primary_141 : decode cX10_primary 141 = .ok (.aload_n 0, 1) := by decide +kernel
theorem dX10_primary_142 : decode cX10_primary 142 = .ok (.getfield 164, 3) := by decide +kernel
theorem dX10_primary_145 : decode cX10_primary 145 = .ok (.ifCond .ne 12, 3) := by decide +kernel
theorem dX10_primary_148 : decode cX10_primary 148 = .ok (.aload_n 0, 1) := by decide +kernel
theorem dX10_primary_149 : decode cX10_primary 149 = .ok (.getfield 174, 3) := by decide +kernel
theorem dX10_primary_152 : decode cX10_primary 152 = .ok (.bipush 14, 2) := by decide +kernel
theorem dX10_primary_154 : decode cX10_primary 154 = .ok (.if_icmp .ge 8, 3) := by decide +kernel
theorem dX10_primary_157 : decode cX10_primary 157 = .ok (.aload_n 0, 1) := by decide +kernel
theorem dX10_primary_158 : decode cX10_primary 158 = .ok (.iconst 1, 1) := by decide +kernel
theorem dX10_primary_159 : decode cX10_primary 159 = .ok (.invokevirtual 208, 3) := by decide +kernel
theorem dX10_primary_162 : decode cX10_primary 162 = .ok (.aload_n 0, 1) := by decide +kernel
theorem dX10_primary_163 : decode cX10_primary 163 = .ok (.invokevirtual 267, 3) := by decide +kernel
theorem dX10_primary_166 : decode cX10_primary 166 = .ok (.aload_n 0, 1) := by decide +kernel
theorem dX10_primary_167 : decode cX10_primary 167 = .ok (.iload_n 1, 1) := by decide +kernel
theorem dX10_primary_168 : decode cX10_primary 168 = .ok (.ifCond .eq 7, 3) := by decide +kernel
theorem dX10_primary_171 : decode cX10_primary 171 = .ok (.iconst 0, 1) := by decide +kernel
theorem dX10_primary_172 : decode cX10_primary 172 = .ok (.goto 4, 3) := by decide +kernel
theorem dX10_primary_175 : decode cX10_primary 175 = .ok (.iconst 1, 1) := by decide +kernel
theorem dX10_primary_176 : decode cX10_primary 176 = .ok (.iload_n 1, 1) := by decide +kernel
theorem dX10_primary_177 : decode cX10_primary 177 = .ok (.ifCond .eq 10, 3) := by decide +kernel
theorem dX10_primary_180 : decode cX10_primary 180 = .ok (.aload_n 0, 1) := by decide +kernel
theorem dX10_primary_181 : decode cX10_primary 181 = .ok (.getfield 174, 3) := by decide +kernel
theorem dX10_primary_184 : decode cX10_primary 184 = .ok (.goto 10, 3) := by decide +kernel
theorem dX10_primary_187 : decode cX10_primary 187 = .ok (.aload_n 0, 1) := by decide +kernel
theorem dX10_primary_188 : decode cX10_primary 188 = .ok (.getfield 174, 3) := by decide +kernel
theorem dX10_primary_191 : decode cX10_primary 191 = .ok (.bipush 14, 2) := by decide +kernel
theorem dX10_primary_193 : decode cX10_primary 193 = .ok (.isub, 1) := by decide +kernel
theorem dX10_primary_194 : decode cX10_primary 194 = .ok (.invokevirtual 270, 3) := by decide +kernel
theorem dX10_primary_197 : decode cX10_primary 197 = .ok (.aload_n 0, 1) := by decide +kernel
theorem dX10_primary_198 : decode cX10_primary 198 = .ok (.invokevirtual 252, 3) := by decide +kernel
theorem dX10_primary_201 : decode cX10_primary 201 = .ok (.return_, 1) := by decide +kernel
theorem dX10_half_0 : decode cX10_half 0 = .ok (.aload_n 0, 1) := by decide +kernel
theorem dX10_half_1 : decode cX10_half 1 = .ok (.arraylength, 1) := by decide +kernel
theorem dX10_half_2 : decode cX10_half 2 = .ok (.iconst 2, 1) := by decide +kernel
theorem dX10_half_3 : decode cX10_half 3 = .ok (.idiv, 1) := by decide +kernel
theorem dX10_half_4 : decode cX10_half 4 = .ok (.istore_n 1, 1) := by decide +kernel
theorem dX10_half_5 : decode cX10_half 5 = .ok (.iconst 0, 1) := by decide +kernel
theorem dX10_half_6 : decode cX10_half 6 = .ok (.istore_n 2, 1) := by decide +kernel
theorem dX10_half_7 : decode cX10_half 7 = .ok (.iload_n 2, 1) := by decide +kernel
theorem dX10_half_8 : decode cX10_half 8 = .ok (.iload_n 1, 1) := by decide +kernel
theorem dX10_half_9 : decode cX10_half 9 = .ok (.if_icmp .ge 17, 3) := by decide +kernel
theorem dX10_half_12 : decode cX10_half 12 = .ok (.aload_n 0, 1) := by decide +kernel
theorem dX10_half_13 : decode cX10_half 13 = .ok (.iload_n 2, 1) := by decide +kernel
theorem dX10_half_14 : decode cX10_half 14 = .ok (.aload_n 0, 1) := by decide +kernel
theorem dX10_half_15 : decode cX10_half 15 = .ok (.iload_n 1, 1) := by decide +kernel
theorem dX10_half_16 : decode cX10_half 16 = .ok (.iload_n 2, 1) := by decide +kernel
theorem dX10_half_17 : decode cX10_half 17 = .ok (.iadd, 1) := by decide +kernel
theorem dX10_half_18 : decode cX10_half 18 = .ok (.iaload, 1) := by decide +kernel
theorem dX10_half_19 : decode cX10_half 19 = .ok (.iastore, 1) := by decide +kernel
theorem dX10_half_20 : decode cX10_half 20 = .ok (.iinc 2 1, 3) := by decide +kernel
theorem dX10_half_23 : decode cX10_half 23 = .ok (.goto (-16), 3) := by decide +kernel
theorem dX10_half_26 : decode cX10_half 26 = .ok (.return_, 1) := by decide +kernel
theorem dX10_text_0 : decode cX10_text 0 = .ok (.aload_n 0, 1) := by decide +kernel
theorem dX10_text_1 : decode cX10_text 1 = .ok (.iconst 0, 1) := by decide +kernel
theorem dX10_text_2 : decode cX10_text 2 = .ok (.putfield 145, 3) := by decide +kernel
theorem dX10_text_5 : decode cX10_text 5 = .ok (.iload_n 1, 1) := by decide +kernel
theorem dX10_text_6 : decode cX10_text 6 = .ok (.ifCond .lt 11, 3) := by decide +kernel
theorem dX10_text_9 : decode cX10_text 9 = .ok (.iload_n 1, 1) := by decide +kernel
theorem dX10_text_10 : decode cX10_text 10 = .ok (.aload_n 0, 1) := by decide +kernel
theorem dX10_text_11 : decode cX10_text 11 = .ok (.getfield 148, 3) := by decide +kernel
theorem dX10_text_14 : decode cX10_text 14 = .ok (.if_icmp .le 6, 3) := by decide +kernel
theorem dX10_text_17 : decode cX10_text 17 = .ok (.bipush (-2), 2) := by decide +kernel
theorem dX10_text_19 : decode cX10_text 19 = .ok (.ireturn, 1) := by decide +kernel
theorem dX10_text_20 : decode cX10_text 20 = .ok (.aload_n 0, 1) := by decide +kernel
theorem dX10_text_21 : decode cX10_text 21 = .ok (.iload_n 1, 1) := by decide +kernel
theorem dX10_text_22 : decode cX10_text 22 = .ok (.putfield 154, 3) := by decide +kernel
theorem dX10_text_25 : decode cX10_text 25 = .ok (.aload_n 0, 1) := by decide +kernel
theorem dX10_text_26 : decode cX10_text 26 = .ok (.iconst 0, 1) := by decide +kernel
theorem dX10_text_27 : decode cX10_text 27 = .ok (.putfield 148, 3) := by decide +kernel
theorem dX10_text_30 : decode cX10_text 30 = .ok (.aload_n 0, 1) := by decide +kernel
theorem dX10_text_31 : decode cX10_text 31 = .ok (.iconst 0, 1) := by decide +kernel
theorem dX10_text_32 : decode cX10_text 32 = .ok (.putfield 151, 3) := by decide +kernel
theorem dX10_text_35 : decode cX10_text 35 = .ok (.aload_n 0, 1) := by decide +kernel
theorem dX10_text_36 : decode cX10_text 36 = .ok (.iconst 0, 1) := by decide +kernel
theorem dX10_text_37 : decode cX10_text 37 = .ok (.putfield 199, 3) := by decide +kernel
theorem dX10_text_40 : decode cX10_text 40 = .ok (.aload_n 0, 1) := by decide +kernel
theorem dX10_text_41 : decode cX10_text 41 = .ok (.iconst (-1), 1) := by decide +kernel
theorem dX10_text_42 : decode cX10_text 42 = .ok (.putfield 202, 3) := by decide +kernel
theorem dX10_text_45 : decode cX10_text 45 = .ok (.iconst 0, 1) := by decide +kernel
theorem dX10_text_46 : decode cX10_text 46 = .ok (.istore_n 2, 1) := by decide +kernel
theorem dX10_text_47 : decode cX10_text 47 = .ok (.iload_n 2, 1) := by decide +kernel
theorem dX10_text_48 : decode cX10_text 48 = .ok (.bipush 10, 2) := by decide +kernel
theorem dX10_text_50 : decode cX10_text 50 = .ok (.if_icmp .ge 25, 3) := by decide +kernel
theorem dX10_text_53 : decode cX10_text 53 = .ok (.aload_n 0, 1) := by decide +kernel
theorem dX10_text_54 : decode cX10_text 54 = .ok (.iload_n 2, 1) := by decide +kernel
theorem dX10_text_55 : decode cX10_text 55 = .ok (.iload_n 2, 1) := by decide +kernel
theorem dX10_text_56 : decode cX10_text 56 = .ok (.iconst 4, 1) := by decide +kernel
theorem dX10_text_57 : decode cX10_text 57 = .ok (.if_icmp .ne 8, 3) := by decide +kernel
theorem dX10_text_60 : decode cX10_text 60 = .ok (.bipush 7, 2) := by decide +kernel
theorem dX10_text_62 : decode cX10_text 62 = .ok (.goto 4, 3) := by decide +kernel
theorem dX10_text_65 : decode cX10_text 65 = .ok (.iconst 0, 1) := by decide +kernel
theorem dX10_text_66 : decode cX10_text 66 = .ok (.invokevirtual 233, 3) := by decide +kernel
theorem dX10_text_69 : decode cX10_text 69 = .ok (.iinc 2 1, 3) := by decide +kernel
theorem dX10_text_72 : decode cX10_text 72 = .ok (.goto (-25), 3) := by decide +kernel
theorem dX10_text_75 : decode cX10_text 75 = .ok (.bipush 30, 2) := by decide +kernel
theorem dX10_text_77 : decode cX10_text 77 = .ok (.istore_n 2, 1) := by decide +kernel
theorem dX10_text_78 : decode cX10_text 78 = .ok (.iload_n 2, 1) := by decide +kernel
theorem dX10_text_79 : decode cX10_text 79 = .ok (.bipush 60, 2) := by decide +kernel
theorem dX10_text_81 : decode cX10_text 81 = .ok (.if_icmp .ge 16, 3) := by decide +kernel
theorem dX10_text_84 : decode cX10_text 84 = .ok (.aload_n 0, 1) := by decide +kernel
theorem dX10_text_85 : decode cX10_text 85 = .ok (.getfield 40, 3) := by decide +kernel
theorem dX10_text_88 : decode cX10_text 88 = .ok (.iload_n 2, 1) := by decide +kernel
theorem dX10_text_89 : decode cX10_text 89 = .ok (.iconst 0, 1) := by decide +kernel
theorem dX10_text_90 : decode cX10_text 90 = .ok (.iastore, 1) := by decide +kernel
theorem dX10_text_91 : decode cX10_text 91 = .ok (.iinc 2 1, 3) := by decide +kernel
theorem dX10_text_94 : decode cX10_text 94 = .ok (.goto (-16), 3) := by decide +kernel
theorem dX10_text_97 : decode cX10_text 97 = .ok (.iconst 3, 1) := by decide +kernel
theorem dX10_text_98 : decode cX10_text 98 = .ok (.istore_n 2, 1) := by decide +kernel
theorem dX10_text_99 : decode cX10_text 99 = .ok (.iload_n 2, 1) := by decide +kernel
theorem dX10_text_100 : decode cX10_text 100 = .ok (.bipush 6, 2) := by decide +kernel
theorem dX10_text_102 : decode cX10_text 102 = .ok (.if_icmp .ge 23, 3) := by decide +kernel
theorem dX10_text_105 : decode cX10_text 105 = .ok (.aload_n 0, 1) := by decide +kernel
theorem dX10_text_106 : decode cX10_text 106 = .ok (.getfield 43, 3) := by decide +kernel
theorem dX10_text_109 : decode cX10_text 109 = .ok (.iload_n 2, 1) := by decide +kernel
theorem dX10_text_110 : decode cX10_text 110 = .ok (.iconst 0, 1) := by decide +kernel
theorem dX10_text_111 : decode cX10_text 111 = .ok (.iastore, 1) := by decide +kernel
theorem dX10_text_112 : decode cX10_text 112 = .ok (.aload_n 0, 1) := by decide +kernel
theorem dX10_text_113 : decode cX10_text 113 = .ok (.getfield 46, 3) := by decide +kernel
theorem dX10_text_116 : decode cX10_text 116 = .ok (.iload_n 2, 1) := by decide +kernel
theorem dX10_text_117 : decode cX10_text 117 = .ok (.iconst 0, 1) := by decide +kernel
theorem dX10_text_118 : decode cX10_text 118 = .ok (.iastore, 1) := by decide +kernel
theorem dX10_text_119 : decode cX10_text 119 = .ok (.iinc 2 1, 3) := by decide +kernel
theorem dX10_text_122 : decode cX10_text 122 = .ok (.goto (-23), 3) := by decide +kernel
theorem dX10_text_125 : decode cX10_text 125 = .ok (.aload_n 0, 1) := by decide +kernel
theorem dX10_text_126 : decode cX10_text 126 = .ok (.iconst 0, 1) := by decide +kernel
theorem dX10_text_127 : decode cX10_text 127 = .ok (.putfield 222, 3) := by decide +kernel
theorem dX10_text_130 : decode cX10_text 130 = .ok (.aload_n 0, 1) := by decide +kernel
theorem dX10_text_131 : decode cX10_text 131 = .ok (.iconst 0, 1) := by decide +kernel
theorem dX10_text_132 : decode cX10_text 132 = .ok (.putfield 246, 3) := by decide +kernel
theorem dX10_text_135 : decode cX10_text 135 = .ok (.aload_n 0, 1) := by decide +kernel
theorem dX10_text_136 : decode cX10_text 136 = .ok (.iconst 0, 1) := by decide +kernel
theorem dX10_text_137 : decode cX10_text 137 = .ok (.putfield 285, 3) := by decide +kernel
theorem dX10_text_140 : decode cX10_text 140 = .ok (.aload_n 0, 1) := by decide +kernel
theorem dX10_text_141 : decode cX10_text 141 = .ok (.iconst 0, 1) := by decide +kernel
theorem dX10_text_142 : decode cX10_text 142 = .ok (.putfield 258, 3) := by decide +kernel
theorem dX10_text_145 : decode cX10_text 145 = .ok (.aload_n 0, 1) := by decide +kernel
theorem dX10_text_146 : decode cX10_text 146 = .ok (.invokevirtual 205, 3) := by decide +kernel
theorem dX10_text_149 : decode cX10_text 149 = .ok (.aload_n 0, 1) := by decide +kernel
theorem dX10_text_150 : decode cX10_text 150 = .ok (.getfield 199, 3) := by decide +kernel
theorem dX10_text_153 : decode cX10_text 153 = .ok (.ifCond .ne 18, 3) := by decide +kernel
theorem dX10_text_156 : decode cX10_text 156 = .ok (.aload_n 0, 1) := by decide +kernel
theorem dX10_text_157 : decode cX10_text 157 = .ok (.getfield 164, 3) := by decide +kernel
theorem dX10_text_160 : decode cX10_text 160 = .ok (.iconst 4, 1) := by decide +kernel
theorem dX10_text_161 : decode cX10_text 161 = .ok (.if_icmp .eq 10, 3) := by decide +kernel
theorem dX10_text_164 : decode cX10_text 164 = .ok (.aload_n 0, 1) := by decide +kernel
theorem dX10_text_165 : decode cX10_text 165 = .ok (.invokevirtual 288, 3) := by decide +kernel
theorem dX10_text_168 : decode cX10_text 168 = .ok (.goto (-19), 3) := by decide +kernel
theorem dX10_text_171 : decode cX10_text 171 = .ok (.aload_n 0, 1) := by decide +kernel
theorem dX10_text_172 : decode cX10_text 172 = .ok (.aload_n 0, 1) := by decide +kernel
theorem dX10_text_173 : decode cX10_text 173 = .ok (.getfield 199, 3) := by decide +kernel
theorem dX10_text_176 : decode cX10_text 176 = .ok (.putfield 291, 3) := by decide +kernel
theorem dX10_text_179 : decode cX10_text 179 = .ok (.aload_n 0, 1) := by decide +kernel
theorem dX10_text_180 : decode cX10_text 180 = .ok (.aload_n 0, 1) := by decide +kernel
theorem dX10_text_181 : decode cX10_text 181 = .ok (.getfield 202, 3) := by decide +kernel
theorem dX10_text_184 : decode cX10_text 184 = .ok (.putfield 55, 3) := by decide +kernel
theorem dX10_text_187 : decode cX10_text 187 = .ok (.aload_n 0, 1) := by decide +kernel
theorem dX10_text_188 : decode cX10_text 188 = .ok (.getfield 199, 3) := by decide +kernel
theorem dX10_text_191 : decode cX10_text 191 = .ok (.ifCond .eq 5, 3) := by decide +kernel
theorem dX10_text_194 : decode cX10_text 194 = .ok (.iconst (-1), 1) := by decide +kernel
theorem dX10_text_195 : decode cX10_text 195 = .ok (.ireturn, 1) := by decide +kernel
theorem dX10_text_196 : decode cX10_text 196 = .ok (.aload_n 0, 1) := by decide +kernel
theorem dX10_text_197 : decode cX10_text 197 = .ok (.getfield 13, 3) := by decide +kernel
theorem dX10_text_200 : decode cX10_text 200 = .ok (.invokestatic 294, 3) := by decide +kernel
theorem dX10_text_203 : decode cX10_text 203 = .ok (.aload_n 0, 1) := by decide +kernel
theorem dX10_text_204 : decode cX10_text 204 = .ok (.getfield 16, 3) := by decide +kernel
theorem dX10_text_207 : decode cX10_text 207 = .ok (.invokestatic 294, 3) := by decide +kernel
theorem dX10_text_210 : decode cX10_text 210 = .ok (.aload_n 0, 1) := by decide +kernel
theorem dX10_text_211 : decode cX10_text 211 = .ok (.getfield 19, 3) := by decide +kernel
theorem dX10_text_214 : decode cX10_text 214 = .ok (.invokestatic 294, 3) := by decide +kernel
theorem dX10_text_217 : decode cX10_text 217 = .ok (.aload_n 0, 1) := by decide +kernel
theorem dX10_text_218 : decode cX10_text 218 = .ok (.getfield 22, 3) := by decide +kernel
theorem dX10_text_221 : decode cX10_text 221 = .ok (.invokestatic 294, 3) := by decide +kernel
theorem dX10_text_224 : decode cX10_text 224 = .ok (.aload_n 0, 1) := by decide +kernel
theorem dX10_text_225 : decode cX10_text 225 = .ok (.getfield 25, 3) := by decide +kernel
theorem dX10_text_228 : decode cX10_text 228 = .ok (.invokestatic 294, 3) := by decide +kernel
theorem dX10_text_231 : decode cX10_text 231 = .ok (.aload_n 0, 1) := by decide +kernel
theorem dX10_text_232 : decode cX10_text 232 = .ok (.getfield 28, 3) := by decide +kernel
theorem dX10_text_235 : decode cX10_text 235 = .ok (.invokestatic 294, 3) := by decide +kernel
theorem dX10_text_238 : decode cX10_text 238 = .ok (.aload_n 0, 1) := by decide +kernel
theorem dX10_text_239 : decode cX10_text 239 = .ok (.getfield 31, 3) := by decide +kernel
theorem dX10_text_242 : decode cX10_text 242 = .ok (.invokestatic 294, 3) := by decide +kernel
theorem dX10_text_245 : decode cX10_text 245 = .ok (.aload_n 0, 1) := by decide +kernel
theorem dX10_text_246 : decode cX10_text 246 = .ok (.getfield 34, 3) := by decide +kernel
theorem dX10_text_249 : decode cX10_text 249 = .ok (.invokestatic 294, 3) := by decide +kernel
theorem dX10_text_252 : decode cX10_text 252 = .ok (.aload_n 0, 1) := by decide +kernel
theorem dX10_text_253 : decode cX10_text 253 = .ok (.getfield 37, 3) := by decide +kernel
theorem dX10_text_256 : decode cX10_text 256 = .ok (.invokestatic 294, 3) := by decide +kernel
theorem dX10_text_259 : decode cX10_text 259 = .ok (.aload_n 0, 1) := by decide +kernel
theorem dX10_text_260 : decode cX10_text 260 = .ok (.getfield 40, 3) := by decide +kernel
theorem dX10_text_263 : decode cX10_text 263 = .ok (.invokestatic 294, 3) := by decide +kernel
theorem dX10_text_266 : decode cX10_text 266 = .ok (.aload_n 0, 1) := by decide +kernel
theorem dX10_text_267 : decode cX10_text 267 = .ok (.getfield 43, 3) := by decide +kernel
theorem dX10_text_270 : decode cX10_text 270 = .ok (.invokestatic 294, 3) := by decide +kernel
theorem dX10_text_273 : decode cX10_text 273 = .ok (.aload_n 0, 1) := by decide +kernel
theorem dX10_text_274 : decode cX10_text 274 = .ok (.getfield 46, 3) := by decide +kernel
theorem dX10_text_277 : decode cX10_text 277 = .ok (.invokestatic 294, 3) := by decide +kernel
theorem dX10_text_280 : decode cX10_text 280 = .ok (.aload_n 0, 1) := by decide +kernel
theorem dX10_text_281 : decode cX10_text 281 = .ok (.getfield 49, 3) := by decide +kernel
theorem dX10_text_284 : decode cX10_text 284 = .ok (.invokestatic 294, 3) := by decide +kernel
theorem dX10_text_287 : decode cX10_text 287 = .ok (.aload_n 0, 1) := by decide +kernel
theorem dX10_text_288 : decode cX10_text 288 = .ok (.getfield 52, 3) := by decide +kernel
theorem dX10_text_291 : decode cX10_text 291 = .ok (.invokestatic 294, 3) := by decide +kernel
theorem dX10_text_294 : decode cX10_text 294 = .ok (.aload_n 0, 1) := by decide +kernel
theorem dX10_text_295 : decode cX10_text 295 = .ok (.iconst 0, 1) := by decide +kernel
theorem dX10_text_296 : decode cX10_text 296 = .ok (.putfield 298, 3) := by decide +kernel
theorem dX10_text_299 : decode cX10_text 299 = .ok (.aload_n 0, 1) := by decide +kernel
theorem dX10_text_300 : decode cX10_text 300 = .ok (.iconst (-1), 1) := by decide +kernel
theorem dX10_text_301 : decode cX10_text 301 = .ok (.putfield 120, 3) := by decide +kernel
theorem dX10_text_304 : decode cX10_text 304 = .ok (.aload_n 0, 1) := by decide +kernel
theorem dX10_text_305 : decode cX10_text 305 = .ok (.iconst 0, 1) := by decide +kernel
theorem dX10_text_306 : decode cX10_text 306 = .ok (.putfield 301, 3) := by decide +kernel
theorem dX10_text_309 : decode cX10_text 309 = .ok (.aload_n 0, 1) := by decide +kernel
theorem dX10_text_310 : decode cX10_text 310 = .ok (.iconst 0, 1) := by decide +kernel
theorem dX10_text_311 : decode cX10_text 311 = .ok (.putfield 305, 3) := by decide +kernel
theorem dX10_text_314 : decode cX10_text 314 = .ok (.aload_n 0, 1) := by decide +kernel
theorem dX10_text_315 : decode cX10_text 315 = .ok (.invokevirtual 142, 3) := by decide +kernel
theorem dX10_text_318 : decode cX10_text 318 = .ok (.aload_n 0, 1) := by decide +kernel
theorem dX10_text_319 : decode cX10_text 319 = .ok (.getfield 246, 3) := by decide +kernel
theorem dX10_text_322 : decode cX10_text 322 = .ok (.ireturn, 1) := by decide +kernel
theorem dX10_fault_0 : decode cX10_fault 0 = .ok (.aload_n 0, 1) := by decide +kernel
theorem dX10_fault_1 : decode cX10_fault 1 = .ok (.iconst 0, 1) := by decide +kernel
theorem dX10_fault_2 : decode cX10_fault 2 = .ok (.putfield 145, 3) := by decide +kernel
theorem dX10_fault_5 : decode cX10_fault 5 = .ok (.iload_n 1, 1) := by decide +kernel
theorem dX10_fault_6 : decode cX10_fault 6 = .ok (.ifCond .ne 10, 3) := by decide +kernel
theorem dX10_fault_9 : decode cX10_fault 9 = .ok (.aload_n 0, 1) := by decide +kernel
theorem dX10_fault_10 : decode cX10_fault 10 = .ok (.getfield 291, 3) := by decide +kernel
theorem dX10_fault_13 : decode cX10_fault 13 = .ok (.goto 16, 3) := by decide +kernel
theorem dX10_fault_16 : decode cX10_fault 16 = .ok (.iload_n 1, 1) := by decide +kernel
theorem dX10_fault_17 : decode cX10_fault 17 = .ok (.iconst 1, 1) := by decide +kernel
theorem dX10_fault_18 : decode cX10_fault 18 = .ok (.if_icmp .ne 10, 3) := by decide +kernel
theorem dX10_fault_21 : decode cX10_fault 21 = .ok (.aload_n 0, 1) := by decide +kernel
theorem dX10_fault_22 : decode cX10_fault 22 = .ok (.getfield 55, 3) := by decide +kernel
theorem dX10_fault_25 : decode cX10_fault 25 = .ok (.goto 4, 3) := by decide +kernel
theorem dX10_fault_28 : decode cX10_fault 28 = .ok (.iconst (-1), 1) := by decide +kernel
theorem dX10_fault_29 : decode cX10_fault 29 = .ok (.ireturn, 1) := by decide +kernel
theorem dX10_named_0 : decode cX10_named 0 = .ok (.aload_n 0, 1) := by decide +kernel
theorem dX10_named_1 : decode cX10_named 1 = .ok (.iconst 0, 1) := by decide +kernel
theorem dX10_named_2 : decode cX10_named 2 = .ok (.putfield 145, 3) := by decide +kernel
theorem dX10_named_5 : decode cX10_named 5 = .ok (.iload_n 1, 1) := by decide +kernel
theorem dX10_named_6 : decode cX10_named 6 = .ok (.lookupswitch 58 #[(0, 26), (1, 42)], 26) := by decide +kernel
theorem dX10_named_32 : decode cX10_named 32 = .ok (.aload_n 0, 1) := by decide +kernel
theorem dX10_named_33 : decode cX10_named 33 = .ok (.getfield 16, 3) := by decide +kernel
theorem dX10_named_36 : decode cX10_named 36 = .ok (.iconst 0, 1) := by decide +kernel
theorem dX10_named_37 : decode cX10_named 37 = .ok (.aload_n 0, 1) := by decide +kernel
theorem dX10_named_38 : decode cX10_named 38 = .ok (.getfield 13, 3) := by decide +kernel
theorem dX10_named_41 : decode cX10_named 41 = .ok (.iconst 0, 1) := by decide +kernel
theorem dX10_named_42 : decode cX10_named 42 = .ok (.iaload, 1) := by decide +kernel
theorem dX10_named_43 : decode cX10_named 43 = .ok (.iload_n 2, 1) := by decide +kernel
theorem dX10_named_44 : decode cX10_named 44 = .ok (.invokestatic 211, 3) := by decide +kernel
theorem dX10_named_47 : decode cX10_named 47 = .ok (.ireturn, 1) := by decide +kernel
theorem dX10_named_48 : decode cX10_named 48 = .ok (.aload_n 0, 1) := by decide +kernel
theorem dX10_named_49 : decode cX10_named 49 = .ok (.getfield 28, 3) := by decide +kernel
theorem dX10_named_52 : decode cX10_named 52 = .ok (.iconst 0, 1) := by decide +kernel
theorem dX10_named_53 : decode cX10_named 53 = .ok (.aload_n 0, 1) := by decide +kernel
theorem dX10_named_54 : decode cX10_named 54 = .ok (.getfield 13, 3) := by decide +kernel
theorem dX10_named_57 : decode cX10_named 57 = .ok (.iconst 1, 1) := by decide +kernel
theorem dX10_named_58 : decode cX10_named 58 = .ok (.iaload, 1) := by decide +kernel
theorem dX10_named_59 : decode cX10_named 59 = .ok (.iload_n 2, 1) := by decide +kernel
theorem dX10_named_60 : decode cX10_named 60 = .ok (.invokestatic 211, 3) := by decide +kernel
theorem dX10_named_63 : decode cX10_named 63 = .ok (.ireturn, 1) := by decide +kernel
theorem dX10_named_64 : decode cX10_named 64 = .ok (.iconst (-1), 1) := by decide +kernel
theorem dX10_named_65 : decode cX10_named 65 = .ok (.ireturn, 1) := by decide +kernel
theorem dX10_is_0 : decode cX10_is 0 = .ok (.iload_n 0, 1) := by decide +kernel
theorem dX10_is_1 : decode cX10_is 1 = .ok (.ifCond .eq 7, 3) := by decide +kernel
theorem dX10_is_4 : decode cX10_is 4 = .ok (.lconst 1, 1) := by decide +kernel
theorem dX10_is_5 : decode cX10_is 5 = .ok (.goto 4, 3) := by decide +kernel
theorem dX10_is_8 : decode cX10_is 8 = .ok (.lconst 0, 1) := by decide +kernel
theorem dX10_is_9 : decode cX10_is 9 = .ok (.lreturn, 1) := by decide +kernel
theorem dX10_works_0 : decode cX10_works 0 = .ok (.aload_n 0, 1) := by decide +kernel
theorem dX10_works_1 : decode cX10_works 1 = .ok (.getfield 63, 3) := by decide +kernel
theorem dX10_works_4 : decode cX10_works 4 = .ok (.aload_n 0, 1) := by decide +kernel
theorem dX10_works_5 : decode cX10_works 5 = .ok (.getfield 308, 3) := by decide +kernel
theorem dX10_works_8 : decode cX10_works 8 = .ok (.iconst 1, 1) := by decide +kernel
theorem dX10_works_9 : decode cX10_works 9 = .ok (.isub, 1) := by decide +kernel
theorem dX10_works_10 : decode cX10_works 10 = .ok (.laload, 1) := by decide +kernel
theorem dX10_works_11 : decode cX10_works 11 = .ok (.lstore_n 2, 1) := by decide +kernel
theorem dX10_works_12 : decode cX10_works 12 = .ok (.iload_n 1, 1) := by decide +kernel
theorem dX10_works_13 : decode cX10_works 13 = .ok (.sipush 260, 3) := by decide +kernel
theorem dX10_works_16 : decode cX10_works 16 = .ok (.if_icmp .ne 30, 3) := by decide +kernel
theorem dX10_works_19 : decode cX10_works 19 = .ok (.aload_n 0, 1) := by decide +kernel
theorem dX10_works_20 : decode cX10_works 20 = .ok (.getfield 63, 3) := by decide +kernel
theorem dX10_works_23 : decode cX10_works 23 = .ok (.aload_n 0, 1) := by decide +kernel
theorem dX10_works_24 : decode cX10_works 24 = .ok (.getfield 308, 3) := by decide +kernel
theorem dX10_works_27 : decode cX10_works 27 = .ok (.iconst 1, 1) := by decide +kernel
theorem dX10_works_28 : decode cX10_works 28 = .ok (.isub, 1) := by decide +kernel
theorem dX10_works_29 : decode cX10_works 29 = .ok (.lload_n 2, 1) := by decide +kernel
theorem dX10_works_30 : decode cX10_works 30 = .ok (.lconst 0, 1) := by decide +kernel
theorem dX10_works_31 : decode cX10_works 31 = .ok (.lcmp, 1) := by decide +kernel
theorem dX10_works_32 : decode cX10_works 32 = .ok (.ifCond .ne 7, 3) := by decide +kernel
theorem dX10_works_35 : decode cX10_works 35 = .ok (.iconst 1, 1) := by decide +kernel
theorem dX10_works_36 : decode cX10_works 36 = .ok (.goto 4, 3) := by decide +kernel
theorem dX10_works_39 : decode cX10_works 39 = .ok (.iconst 0, 1) := by decide +kernel
theorem dX10_works_40 : decode cX10_works 40 = .ok (.invokestatic 311, 3) := by decide +kernel
theorem dX10_works_43 : decode cX10_works 43 = .ok (.lastore, 1) := by decide +kernel
theorem dX10_works_44 : decode cX10_works 44 = .ok (.iconst 1, 1) := by decide +kernel
theorem dX10_works_45 : decode cX10_works 45 = .ok (.ireturn, 1) := by decide +kernel
theorem dX10_works_46 : decode cX10_works 46 = .ok (.aload_n 0, 1) := by decide +kernel
theorem dX10_works_47 : decode cX10_works 47 = .ok (.getfield 63, 3) := by decide +kernel
theorem dX10_works_50 : decode cX10_works 50 = .ok (.aload_n 0, 1) := by decide +kernel
theorem dX10_works_51 : decode cX10_works 51 = .ok (.getfield 308, 3) := by decide +kernel
theorem dX10_works_54 : decode cX10_works 54 = .ok (.iconst 2, 1) := by decide +kernel
theorem dX10_works_55 : decode cX10_works 55 = .ok (.isub, 1) := by decide +kernel
theorem dX10_works_56 : decode cX10_works 56 = .ok (.laload, 1) := by decide +kernel
theorem dX10_works_57 : decode cX10_works 57 = .ok (.lstore 4, 2) := by decide +kernel
theorem dX10_works_59 : decode cX10_works 59 = .ok (.aload_n 0, 1) := by decide +kernel
theorem dX10_works_60 : decode cX10_works 60 = .ok (.dup, 1) := by decide +kernel
theorem dX10_works_61 : decode cX10_works 61 = .ok (.getfield 308, 3) := by decide +kernel
theorem dX10_works_64 : decode cX10_works 64 = .ok (.iconst 1, 1) := by decide +kernel
theorem dX10_works_65 : decode cX10_works 65 = .ok (.isub, 1) := by decide +kernel
theorem dX10_works_66 : decode cX10_works 66 = .ok (.putfield 308, 3) := by decide +kernel
theorem dX10_works_69 : decode cX10_works 69 = .ok (.iload_n 1, 1) := by decide +kernel
theorem dX10_works_70 : decode cX10_works 70 = .ok (.lookupswitch 314 #[(42, 116), (43, 98), (45, 107), (47, 151), (60, 168), (61, 208), (62, 188), (256, 228), (257, 268), (258, 248), (261, 288)], 98) := by decide +kernel
theorem dX10_works_168 : decode cX10_works 168 = .ok (.lload 4, 2) := by decide +kernel
theorem dX10_works_170 : decode cX10_works 170 = .ok (.lload_n 2, 1) := by decide +kernel
theorem dX10_works_171 : decode cX10_works 171 = .ok (.ladd, 1) := by decide +kernel
theorem dX10_works_172 : decode cX10_works 172 = .ok (.lstore 6, 2) := by decide +kernel
theorem dX10_works_174 : decode cX10_works 174 = .ok (.goto 233, 3) := by decide +kernel
theorem dX10_works_177 : decode cX10_works 177 = .ok (.lload 4, 2) := by decide +kernel
theorem dX10_works_179 : decode cX10_works 179 = .ok (.lload_n 2, 1) := by decide +kernel
theorem dX10_works_180 : decode cX10_works 180 = .ok (.lsub, 1) := by decide +kernel
theorem dX10_works_181 : decode cX10_works 181 = .ok (.lstore 6, 2) := by decide +kernel
theorem dX10_works_183 : decode cX10_works 183 = .ok (.goto 224, 3) := by decide +kernel
theorem dX10_works_186 : decode cX10_works 186 = .ok (.lload 4, 2) := by decide +kernel
theorem dX10_works_188 : decode cX10_works 188 = .ok (.lconst 0, 1) := by decide +kernel
theorem dX10_works_189 : decode cX10_works 189 = .ok (.lcmp, 1) := by decide +kernel
theorem dX10_works_190 : decode cX10_works 190 = .ok (.ifCond .eq 22, 3) := by decide +kernel
theorem dX10_works_193 : decode cX10_works 193 = .ok (.lload_n 2, 1) := by decide +kernel
theorem dX10_works_194 : decode cX10_works 194 = .ok (.invokestatic 315, 3) := by decide +kernel
theorem dX10_works_197 : decode cX10_works 197 = .ok (.ldc2_w 321, 3) := by decide +kernel
theorem dX10_works_200 : decode cX10_works 200 = .ok (.lload 4, 2) := by decide +kernel
theorem dX10_works_202 : decode cX10_works 202 = .ok (.invokestatic 315, 3) := by decide +kernel
theorem dX10_works_205 : decode cX10_works 205 = .ok (.ldiv, 1) := by decide +kernel
theorem dX10_works_206 : decode cX10_works 206 = .ok (.lcmp, 1) := by decide +kernel
theorem dX10_works_207 : decode cX10_works 207 = .ok (.ifCond .le 5, 3) := by decide +kernel
theorem dX10_works_210 : decode cX10_works 210 = .ok (.iconst 0, 1) := by decide +kernel
theorem dX10_works_211 : decode cX10_works 211 = .ok (.ireturn, 1) := by decide +kernel
theorem dX10_works_212 : decode cX10_works 212 = .ok (.lload 4, 2) := by decide +kernel
theorem dX10_works_214 : decode cX10_works 214 = .ok (.lload_n 2, 1) := by decide +kernel
theorem dX10_works_215 : decode cX10_works 215 = .ok (.lmul, 1) := by decide +kernel
theorem dX10_works_216 : decode cX10_works 216 = .ok (.lstore 6, 2) := by decide +kernel
theorem dX10_works_218 : decode cX10_works 218 = .ok (.goto 189, 3) := by decide +kernel
theorem dX10_works_221 : decode cX10_works 221 = .ok (.lload_n 2, 1) := by decide +kernel
theorem dX10_works_222 : decode cX10_works 222 = .ok (.lconst 0, 1) := by decide +kernel
theorem dX10_works_223 : decode cX10_works 223 = .ok (.lcmp, 1) := by decide +kernel
theorem dX10_works_224 : decode cX10_works 224 = .ok (.ifCond .ne 5, 3) := by decide +kernel
theorem dX10_works_227 : decode cX10_works 227 = .ok (.iconst 0, 1) := by decide +kernel
theorem dX10_works_228 : decode cX10_works 228 = .ok (.ireturn, 1) := by decide +kernel
theorem dX10_works_229 : decode cX10_works 229 = .ok (.lload 4, 2) := by decide +kernel
theorem dX10_works_231 : decode cX10_works 231 = .ok (.lload_n 2, 1) := by decide +kernel
theorem dX10_works_232 : decode cX10_works 232 = .ok (.ldiv, 1) := by decide +kernel
theorem dX10_works_233 : decode cX10_works 233 = .ok (.lstore 6, 2) := by decide +kernel
theorem dX10_works_235 : decode cX10_works 235 = .ok (.goto 172, 3) := by decide +kernel
theorem dX10_works_238 : decode cX10_works 238 = .ok (.lload 4, 2) := by decide +kernel
theorem dX10_works_240 : decode cX10_works 240 = .ok (.lload_n 2, 1) := by decide +kernel
theorem dX10_works_241 : decode cX10_works 241 = .ok (.lcmp, 1) := by decide +kernel
theorem dX10_works_242 : decode cX10_works 242 = .ok (.ifCond .ge 7, 3) := by decide +kernel
theorem dX10_works_245 : decode cX10_works 245 = .ok (.iconst 1, 1) := by decide +kernel
theorem dX10_works_246 : decode cX10_works 246 = .ok (.goto 4, 3) := by decide +kernel
theorem dX10_works_249 : decode cX10_works 249 = .ok (.iconst 0, 1) := by decide +kernel
theorem dX10_works_250 : decode cX10_works 250 = .ok (.invokestatic 311, 3) := by decide +kernel
theorem dX10_works_253 : decode cX10_works 253 = .ok (.lstore 6, 2) := by decide +kernel
theorem dX10_works_255 : decode cX10_works 255 = .ok (.goto 152, 3) := by decide +kernel
theorem dX10_works_258 : decode cX10_works 258 = .ok (.lload 4, 2) := by decide +kernel
theorem dX10_works_260 : decode cX10_works 260 = .ok (.lload_n 2, 1) := by decide +kernel
theorem dX10_works_261 : decode cX10_works 261 = .ok (.lcmp, 1) := by decide +kernel
theorem dX10_works_262 : decode cX10_works 262 = .ok (.ifCond .le 7, 3) := by decide +kernel
theorem dX10_works_265 : decode cX10_works 265 = .ok (.iconst 1, 1) := by decide +kernel
theorem dX10_works_266 : decode cX10_works 266 = .ok (.goto 4, 3) := by decide +kernel
theorem dX10_works_269 : decode cX10_works 269 = .ok (.iconst 0, 1) := by decide +kernel
theorem dX10_works_270 : decode cX10_works 270 = .ok (.invokestatic 311, 3) := by decide +kernel
theorem dX10_works_273 : decode cX10_works 273 = .ok (.lstore 6, 2) := by decide +kernel
theorem dX10_works_275 : decode cX10_works 275 = .ok (.goto 132, 3) := by decide +kernel
theorem dX10_works_278 : decode cX10_works 278 = .ok (.lload 4, 2) := by decide +kernel
theorem dX10_works_280 : decode cX10_works 280 = .ok (.lload_n 2, 1) := by decide +kernel
theorem dX10_works_281 : decode cX10_works 281 = .ok (.lcmp, 1) := by decide +kernel
theorem dX10_works_282 : decode cX10_works 282 = .ok (.ifCond .ne 7, 3) := by decide +kernel
theorem dX10_works_285 : decode cX10_works 285 = .ok (.iconst 1, 1) := by decide +kernel
theorem dX10_works_286 : decode cX10_works 286 = .ok (.goto 4, 3) := by decide +kernel
theorem dX10_works_289 : decode cX10_works 289 = .ok (.iconst 0, 1) := by decide +kernel
theorem dX10_works_290 : decode cX10_works 290 = .ok (.invokestatic 311, 3) := by decide +kernel
theorem dX10_works_293 : decode cX10_works 293 = .ok (.lstore 6, 2) := by decide +kernel
theorem dX10_works_295 : decode cX10_works 295 = .ok (.goto 112, 3) := by decide +kernel
theorem dX10_works_298 : decode cX10_works 298 = .ok (.lload 4, 2) := by decide +kernel
theorem dX10_works_300 : decode cX10_works 300 = .ok (.lload_n 2, 1) := by decide +kernel
theorem dX10_works_301 : decode cX10_works 301 = .ok (.lcmp, 1) := by decide +kernel
theorem dX10_works_302 : decode cX10_works 302 = .ok (.ifCond .gt 7, 3) := by decide +kernel
theorem dX10_works_305 : decode cX10_works 305 = .ok (.iconst 1, 1) := by decide +kernel
theorem dX10_works_306 : decode cX10_works 306 = .ok (.goto 4, 3) := by decide +kernel
theorem dX10_works_309 : decode cX10_works 309 = .ok (.iconst 0, 1) := by decide +kernel
theorem dX10_works_310 : decode cX10_works 310 = .ok (.invokestatic 311, 3) := by decide +kernel
theorem dX10_works_313 : decode cX10_works 313 = .ok (.lstore 6, 2) := by decide +kernel
theorem dX10_works_315 : decode cX10_works 315 = .ok (.goto 92, 3) := by decide +kernel
theorem dX10_works_318 : decode cX10_works 318 = .ok (.lload 4, 2) := by decide +kernel
theorem dX10_works_320 : decode cX10_works 320 = .ok (.lload_n 2, 1) := by decide +kernel
theorem dX10_works_321 : decode cX10_works 321 = .ok (.lcmp, 1) := by decide +kernel
theorem dX10_works_322 : decode cX10_works 322 = .ok (.ifCond .lt 7, 3) := by decide +kernel
theorem dX10_works_325 : decode cX10_works 325 = .ok (.iconst 1, 1) := by decide +kernel
theorem dX10_works_326 : decode cX10_works 326 = .ok (.goto 4, 3) := by decide +kernel
theorem dX10_works_329 : decode cX10_works 329 = .ok (.iconst 0, 1) := by decide +kernel
theorem dX10_works_330 : decode cX10_works 330 = .ok (.invokestatic 311, 3) := by decide +kernel
theorem dX10_works_333 : decode cX10_works 333 = .ok (.lstore 6, 2) := by decide +kernel
theorem dX10_works_335 : decode cX10_works 335 = .ok (.goto 72, 3) := by decide +kernel
theorem dX10_works_338 : decode cX10_works 338 = .ok (.lload 4, 2) := by decide +kernel
theorem dX10_works_340 : decode cX10_works 340 = .ok (.lload_n 2, 1) := by decide +kernel
theorem dX10_works_341 : decode cX10_works 341 = .ok (.lcmp, 1) := by decide +kernel
theorem dX10_works_342 : decode cX10_works 342 = .ok (.ifCond .eq 7, 3) := by decide +kernel
theorem dX10_works_345 : decode cX10_works 345 = .ok (.iconst 1, 1) := by decide +kernel
theorem dX10_works_346 : decode cX10_works 346 = .ok (.goto 4, 3) := by decide +kernel
theorem dX10_works_349 : decode cX10_works 349 = .ok (.iconst 0, 1) := by decide +kernel
theorem dX10_works_350 : decode cX10_works 350 = .ok (.invokestatic 311, 3) := by decide +kernel
theorem dX10_works_353 : decode cX10_works 353 = .ok (.lstore 6, 2) := by decide +kernel
theorem dX10_works_355 : decode cX10_works 355 = .ok (.goto 52, 3) := by decide +kernel
theorem dX10_works_358 : decode cX10_works 358 = .ok (.lload 4, 2) := by decide +kernel
theorem dX10_works_360 : decode cX10_works 360 = .ok (.lconst 0, 1) := by decide +kernel
theorem dX10_works_361 : decode cX10_works 361 = .ok (.lcmp, 1) := by decide +kernel
theorem dX10_works_362 : decode cX10_works 362 = .ok (.ifCond .eq 13, 3) := by decide +kernel
theorem dX10_works_365 : decode cX10_works 365 = .ok (.lload_n 2, 1) := by decide +kernel
theorem dX10_works_366 : decode cX10_works 366 = .ok (.lconst 0, 1) := by decide +kernel
theorem dX10_works_367 : decode cX10_works 367 = .ok (.lcmp, 1) := by decide +kernel
theorem dX10_works_368 : decode cX10_works 368 = .ok (.ifCond .eq 7, 3) := by decide +kernel
theorem dX10_works_371 : decode cX10_works 371 = .ok (.iconst 1, 1) := by decide +kernel
theorem dX10_works_372 : decode cX10_works 372 = .ok (.goto 4, 3) := by decide +kernel
theorem dX10_works_375 : decode cX10_works 375 = .ok (.iconst 0, 1) := by decide +kernel
theorem dX10_works_376 : decode cX10_works 376 = .ok (.invokestatic 311, 3) := by decide +kernel
theorem dX10_works_379 : decode cX10_works 379 = .ok (.lstore 6, 2) := by decide +kernel
theorem dX10_works_381 : decode cX10_works 381 = .ok (.goto 26, 3) := by decide +kernel
theorem dX10_works_384 : decode cX10_works 384 = .ok (.lload 4, 2) := by decide +kernel
theorem dX10_works_386 : decode cX10_works 386 = .ok (.lconst 0, 1) := by decide +kernel
theorem dX10_works_387 : decode cX10_works 387 = .ok (.lcmp, 1) := by decide +kernel
theorem dX10_works_388 : decode cX10_works 388 = .ok (.ifCond .ne 9, 3) := by decide +kernel
theorem dX10_works_391 : decode cX10_works 391 = .ok (.lload_n 2, 1) := by decide +kernel
theorem dX10_works_392 : decode cX10_works 392 = .ok (.lconst 0, 1) := by decide +kernel
theorem dX10_works_393 : decode cX10_works 393 = .ok (.lcmp, 1) := by decide +kernel
theorem dX10_works_394 : decode cX10_works 394 = .ok (.ifCond .eq 7, 3) := by decide +kernel
theorem dX10_works_397 : decode cX10_works 397 = .ok (.iconst 1, 1) := by decide +kernel
theorem dX10_works_398 : decode cX10_works 398 = .ok (.goto 4, 3) := by decide +kernel
theorem dX10_works_401 : decode cX10_works 401 = .ok (.iconst 0, 1) := by decide +kernel
theorem dX10_works_402 : decode cX10_works 402 = .ok (.invokestatic 311, 3) := by decide +kernel
theorem dX10_works_405 : decode cX10_works 405 = .ok (.lstore 6, 2) := by decide +kernel
theorem dX10_works_407 : decode cX10_works 407 = .ok (.aload_n 0, 1) := by decide +kernel
theorem dX10_works_408 : decode cX10_works 408 = .ok (.getfield 63, 3) := by decide +kernel
theorem dX10_works_411 : decode cX10_works 411 = .ok (.aload_n 0, 1) := by decide +kernel
theorem dX10_works_412 : decode cX10_works 412 = .ok (.getfield 308, 3) := by decide +kernel
theorem dX10_works_415 : decode cX10_works 415 = .ok (.iconst 1, 1) := by decide +kernel
theorem dX10_works_416 : decode cX10_works 416 = .ok (.isub, 1) := by decide +kernel
theorem dX10_works_417 : decode cX10_works 417 = .ok (.lload 6, 2) := by decide +kernel
theorem dX10_works_419 : decode cX10_works 419 = .ok (.lastore, 1) := by decide +kernel
theorem dX10_works_420 : decode cX10_works 420 = .ok (.lload 6, 2) := by decide +kernel
theorem dX10_works_422 : decode cX10_works 422 = .ok (.ldc2_w 321, 3) := by decide +kernel
theorem dX10_works_425 : decode cX10_works 425 = .ok (.lcmp, 1) := by decide +kernel
theorem dX10_works_426 : decode cX10_works 426 = .ok (.ifCond .gt 16, 3) := by decide +kernel
theorem dX10_works_429 : decode cX10_works 429 = .ok (.lload 6, 2) := by decide +kernel
theorem dX10_works_431 : decode cX10_works 431 = .ok (.ldc2_w 323, 3) := by decide +kernel
theorem dX10_works_434 : decode cX10_works 434 = .ok (.lcmp, 1) := by decide +kernel
theorem dX10_works_435 : decode cX10_works 435 = .ok (.ifCond .lt 7, 3) := by decide +kernel
theorem dX10_works_438 : decode cX10_works 438 = .ok (.iconst 1, 1) := by decide +kernel
theorem dX10_works_439 : decode cX10_works 439 = .ok (.goto 4, 3) := by decide +kernel
theorem dX10_works_442 : decode cX10_works 442 = .ok (.iconst 0, 1) := by decide +kernel
theorem dX10_works_443 : decode cX10_works 443 = .ok (.ireturn, 1) := by decide +kernel
theorem dX10_goes_0 : decode cX10_goes 0 = .ok (.aload_n 0, 1) := by decide +kernel
theorem dX10_goes_1 : decode cX10_goes 1 = .ok (.iconst 0, 1) := by decide +kernel
theorem dX10_goes_2 : decode cX10_goes 2 = .ok (.putfield 308, 3) := by decide +kernel
theorem dX10_goes_5 : decode cX10_goes 5 = .ok (.aload_n 0, 1) := by decide +kernel
theorem dX10_goes_6 : decode cX10_goes 6 = .ok (.getfield 43, 3) := by decide +kernel
theorem dX10_goes_9 : decode cX10_goes 9 = .ok (.iload_n 1, 1) := by decide +kernel
theorem dX10_goes_10 : decode cX10_goes 10 = .ok (.iaload, 1) := by decide +kernel
theorem dX10_goes_11 : decode cX10_goes 11 = .ok (.istore_n 2, 1) := by decide +kernel
theorem dX10_goes_12 : decode cX10_goes 12 = .ok (.iload_n 2, 1) := by decide +kernel
theorem dX10_goes_13 : decode cX10_goes 13 = .ok (.aload_n 0, 1) := by decide +kernel
theorem dX10_goes_14 : decode cX10_goes 14 = .ok (.getfield 46, 3) := by decide +kernel
theorem dX10_goes_17 : decode cX10_goes 17 = .ok (.iload_n 1, 1) := by decide +kernel
theorem dX10_goes_18 : decode cX10_goes 18 = .ok (.iaload, 1) := by decide +kernel
theorem dX10_goes_19 : decode cX10_goes 19 = .ok (.if_icmp .ge 83, 3) := by decide +kernel
theorem dX10_goes_22 : decode cX10_goes 22 = .ok (.aload_n 0, 1) := by decide +kernel
theorem dX10_goes_23 : decode cX10_goes 23 = .ok (.getfield 49, 3) := by decide +kernel
theorem dX10_goes_26 : decode cX10_goes 26 = .ok (.iload_n 2, 1) := by decide +kernel
theorem dX10_goes_27 : decode cX10_goes 27 = .ok (.iaload, 1) := by decide +kernel
theorem dX10_goes_28 : decode cX10_goes 28 = .ok (.iconst 2, 1) := by decide +kernel
theorem dX10_goes_29 : decode cX10_goes 29 = .ok (.if_icmp .ne 18, 3) := by decide +kernel
theorem dX10_goes_32 : decode cX10_goes 32 = .ok (.aload_n 0, 1) := by decide +kernel
theorem dX10_goes_33 : decode cX10_goes 33 = .ok (.aload_n 0, 1) := by decide +kernel
theorem dX10_goes_34 : decode cX10_goes 34 = .ok (.getfield 52, 3) := by decide +kernel
theorem dX10_goes_37 : decode cX10_goes 37 = .ok (.iload_n 2, 1) := by decide +kernel
theorem dX10_goes_38 : decode cX10_goes 38 = .ok (.iaload, 1) := by decide +kernel
theorem dX10_goes_39 : decode cX10_goes 39 = .ok (.invokevirtual 325, 3) := by decide +kernel
theorem dX10_goes_42 : decode cX10_goes 42 = .ok (.ifCond .ne 54, 3) := by decide +kernel
theorem dX10_goes_45 : decode cX10_goes 45 = .ok (.iconst 0, 1) := by decide +kernel
theorem dX10_goes_46 : decode cX10_goes 46 = .ok (.ireturn, 1) := by decide +kernel
theorem dX10_goes_47 : decode cX10_goes 47 = .ok (.aload_n 0, 1) := by decide +kernel
theorem dX10_goes_48 : decode cX10_goes 48 = .ok (.getfield 63, 3) := by decide +kernel
theorem dX10_goes_51 : decode cX10_goes 51 = .ok (.aload_n 0, 1) := by decide +kernel
theorem dX10_goes_52 : decode cX10_goes 52 = .ok (.getfield 308, 3) := by decide +kernel
theorem dX10_goes_55 : decode cX10_goes 55 = .ok (.aload_n 0, 1) := by decide +kernel
theorem dX10_goes_56 : decode cX10_goes 56 = .ok (.getfield 49, 3) := by decide +kernel
theorem dX10_goes_59 : decode cX10_goes 59 = .ok (.iload_n 2, 1) := by decide +kernel
theorem dX10_goes_60 : decode cX10_goes 60 = .ok (.iaload, 1) := by decide +kernel
theorem dX10_goes_61 : decode cX10_goes 61 = .ok (.ifCond .ne 13, 3) := by decide +kernel
theorem dX10_goes_64 : decode cX10_goes 64 = .ok (.aload_n 0, 1) := by decide +kernel
theorem dX10_goes_65 : decode cX10_goes 65 = .ok (.getfield 52, 3) := by decide +kernel
theorem dX10_goes_68 : decode cX10_goes 68 = .ok (.iload_n 2, 1) := by decide +kernel
theorem dX10_goes_69 : decode cX10_goes 69 = .ok (.iaload, 1) := by decide +kernel
theorem dX10_goes_70 : decode cX10_goes 70 = .ok (.i2l, 1) := by decide +kernel
theorem dX10_goes_71 : decode cX10_goes 71 = .ok (.goto 14, 3) := by decide +kernel
theorem dX10_goes_74 : decode cX10_goes 74 = .ok (.aload_n 0, 1) := by decide +kernel
theorem dX10_goes_75 : decode cX10_goes 75 = .ok (.getfield 59, 3) := by decide +kernel
theorem dX10_goes_78 : decode cX10_goes 78 = .ok (.aload_n 0, 1) := by decide +kernel
theorem dX10_goes_79 : decode cX10_goes 79 = .ok (.getfield 52, 3) := by decide +kernel
theorem dX10_goes_82 : decode cX10_goes 82 = .ok (.iload_n 2, 1) := by decide +kernel
theorem dX10_goes_83 : decode cX10_goes 83 = .ok (.iaload, 1) := by decide +kernel
theorem dX10_goes_84 : decode cX10_goes 84 = .ok (.laload, 1) := by decide +kernel
theorem dX10_goes_85 : decode cX10_goes 85 = .ok (.lastore, 1) := by decide +kernel
theorem dX10_goes_86 : decode cX10_goes 86 = .ok (.aload_n 0, 1) := by decide +kernel
theorem dX10_goes_87 : decode cX10_goes 87 = .ok (.dup, 1) := by decide +kernel
theorem dX10_goes_88 : decode cX10_goes 88 = .ok (.getfield 308, 3) := by decide +kernel
theorem dX10_goes_91 : decode cX10_goes 91 = .ok (.iconst 1, 1) := by decide +kernel
theorem dX10_goes_92 : decode cX10_goes 92 = .ok (.iadd, 1) := by decide +kernel
theorem dX10_goes_93 : decode cX10_goes 93 = .ok (.putfield 308, 3) := by decide +kernel
theorem dX10_goes_96 : decode cX10_goes 96 = .ok (.iinc 2 1, 3) := by decide +kernel
theorem dX10_goes_99 : decode cX10_goes 99 = .ok (.goto (-87), 3) := by decide +kernel
theorem dX10_goes_102 : decode cX10_goes 102 = .ok (.iconst 1, 1) := by decide +kernel
theorem dX10_goes_103 : decode cX10_goes 103 = .ok (.ireturn, 1) := by decide +kernel
theorem dX10_hasLaw_0 : decode cX10_hasLaw 0 = .ok (.aload_n 0, 1) := by decide +kernel
theorem dX10_hasLaw_1 : decode cX10_hasLaw 1 = .ok (.getfield 46, 3) := by decide +kernel
theorem dX10_hasLaw_4 : decode cX10_hasLaw 4 = .ok (.iload_n 1, 1) := by decide +kernel
theorem dX10_hasLaw_5 : decode cX10_hasLaw 5 = .ok (.iaload, 1) := by decide +kernel
theorem dX10_hasLaw_6 : decode cX10_hasLaw 6 = .ok (.aload_n 0, 1) := by decide +kernel
theorem dX10_hasLaw_7 : decode cX10_hasLaw 7 = .ok (.getfield 43, 3) := by decide +kernel
theorem dX10_hasLaw_10 : decode cX10_hasLaw 10 = .ok (.iload_n 1, 1) := by decide +kernel
theorem dX10_hasLaw_11 : decode cX10_hasLaw 11 = .ok (.iaload, 1) := by decide +kernel
theorem dX10_hasLaw_12 : decode cX10_hasLaw 12 = .ok (.if_icmp .le 7, 3) := by decide +kernel
theorem dX10_hasLaw_15 : decode cX10_hasLaw 15 = .ok (.iconst 1, 1) := by decide +kernel
theorem dX10_hasLaw_16 : decode cX10_hasLaw 16 = .ok (.goto 4, 3) := by decide +kernel
theorem dX10_hasLaw_19 : decode cX10_hasLaw 19 = .ok (.iconst 0, 1) := by decide +kernel
theorem dX10_hasLaw_20 : decode cX10_hasLaw 20 = .ok (.ireturn, 1) := by decide +kernel
theorem dX10_starts_0 : decode cX10_starts 0 = .ok (.aload_n 0, 1) := by decide +kernel
theorem dX10_starts_1 : decode cX10_starts 1 = .ok (.getfield 66, 3) := by decide +kernel
theorem dX10_starts_4 : decode cX10_starts 4 = .ok (.iload_n 1, 1) := by decide +kernel
theorem dX10_starts_5 : decode cX10_starts 5 = .ok (.iconst 0, 1) := by decide +kernel
theorem dX10_starts_6 : decode cX10_starts 6 = .ok (.iastore, 1) := by decide +kernel
theorem dX10_starts_7 : decode cX10_starts 7 = .ok (.aload_n 0, 1) := by decide +kernel
theorem dX10_starts_8 : decode cX10_starts 8 = .ok (.getfield 69, 3) := by decide +kernel
theorem dX10_starts_11 : decode cX10_starts 11 = .ok (.iload_n 1, 1) := by decide +kernel
theorem dX10_starts_12 : decode cX10_starts 12 = .ok (.iconst 0, 1) := by decide +kernel
theorem dX10_starts_13 : decode cX10_starts 13 = .ok (.iastore, 1) := by decide +kernel
theorem dX10_starts_14 : decode cX10_starts 14 = .ok (.aload_n 0, 1) := by decide +kernel
theorem dX10_starts_15 : decode cX10_starts 15 = .ok (.getfield 72, 3) := by decide +kernel
theorem dX10_starts_18 : decode cX10_starts 18 = .ok (.iload_n 1, 1) := by decide +kernel
theorem dX10_starts_19 : decode cX10_starts 19 = .ok (.aload_n 0, 1) := by decide +kernel
theorem dX10_starts_20 : decode cX10_starts 20 = .ok (.getfield 13, 3) := by decide +kernel
theorem dX10_starts_23 : decode cX10_starts 23 = .ok (.bipush 8, 2) := by decide +kernel
theorem dX10_starts_25 : decode cX10_starts 25 = .ok (.iaload, 1) := by decide +kernel
theorem dX10_starts_26 : decode cX10_starts 26 = .ok (.iastore, 1) := by decide +kernel
theorem dX10_starts_27 : decode cX10_starts 27 = .ok (.iconst 0, 1) := by decide +kernel
theorem dX10_starts_28 : decode cX10_starts 28 = .ok (.istore_n 2, 1) := by decide +kernel
theorem dX10_starts_29 : decode cX10_starts 29 = .ok (.iload_n 2, 1) := by decide +kernel
theorem dX10_starts_30 : decode cX10_starts 30 = .ok (.iconst 5, 1) := by decide +kernel
theorem dX10_starts_31 : decode cX10_starts 31 = .ok (.if_icmp .ge 137, 3) := by decide +kernel
theorem dX10_starts_34 : decode cX10_starts 34 = .ok (.iconst 5, 1) := by decide +kernel
theorem dX10_starts_35 : decode cX10_starts 35 = .ok (.iload_n 1, 1) := by decide +kernel
theorem dX10_starts_36 : decode cX10_starts 36 = .ok (.imul, 1) := by decide +kernel
theorem dX10_starts_37 : decode cX10_starts 37 = .ok (.iload_n 2, 1) := by decide +kernel
theorem dX10_starts_38 : decode cX10_starts 38 = .ok (.iadd, 1) := by decide +kernel
theorem dX10_starts_39 : decode cX10_starts 39 = .ok (.istore_n 3, 1) := by decide +kernel
theorem dX10_starts_40 : decode cX10_starts 40 = .ok (.iload_n 2, 1) := by decide +kernel
theorem dX10_starts_41 : decode cX10_starts 41 = .ok (.aload_n 0, 1) := by decide +kernel
theorem dX10_starts_42 : decode cX10_starts 42 = .ok (.getfield 13, 3) := by decide +kernel
theorem dX10_starts_45 : decode cX10_starts 45 = .ok (.iconst 0, 1) := by decide +kernel
theorem dX10_starts_46 : decode cX10_starts 46 = .ok (.iaload, 1) := by decide +kernel
theorem dX10_starts_47 : decode cX10_starts 47 = .ok (.if_icmp .ge 7, 3) := by decide +kernel
theorem dX10_starts_50 : decode cX10_starts 50 = .ok (.iconst 1, 1) := by decide +kernel
theorem dX10_starts_51 : decode cX10_starts 51 = .ok (.goto 4, 3) := by decide +kernel
theorem dX10_starts_54 : decode cX10_starts 54 = .ok (.iconst 0, 1) := by decide +kernel
theorem dX10_starts_55 : decode cX10_starts 55 = .ok (.istore 4, 2) := by decide +kernel
theorem dX10_starts_57 : decode cX10_starts 57 = .ok (.aload_n 0, 1) := by decide +kernel
theorem dX10_starts_58 : decode cX10_starts 58 = .ok (.getfield 75, 3) := by decide +kernel
theorem dX10_starts_61 : decode cX10_starts 61 = .ok (.iload_n 3, 1) := by decide +kernel
theorem dX10_starts_62 : decode cX10_starts 62 = .ok (.iload 4, 2) := by decide +kernel
theorem dX10_starts_64 : decode cX10_starts 64 = .ok (.ifCond .eq 12, 3) := by decide +kernel
theorem dX10_starts_67 : decode cX10_starts 67 = .ok (.aload_n 0, 1) := by decide +kernel
theorem dX10_starts_68 : decode cX10_starts 68 = .ok (.getfield 19, 3) := by decide +kernel
theorem dX10_starts_71 : decode cX10_starts 71 = .ok (.iload_n 2, 1) := by decide +kernel
theorem dX10_starts_72 : decode cX10_starts 72 = .ok (.iaload, 1) := by decide +kernel
theorem dX10_starts_73 : decode cX10_starts 73 = .ok (.goto 4, 3) := by decide +kernel
theorem dX10_starts_76 : decode cX10_starts 76 = .ok (.iconst 0, 1) := by decide +kernel
theorem dX10_starts_77 : decode cX10_starts 77 = .ok (.iastore, 1) := by decide +kernel
theorem dX10_starts_78 : decode cX10_starts 78 = .ok (.aload_n 0, 1) := by decide +kernel
theorem dX10_starts_79 : decode cX10_starts 79 = .ok (.getfield 78, 3) := by decide +kernel
theorem dX10_starts_82 : decode cX10_starts 82 = .ok (.iload_n 3, 1) := by decide +kernel
theorem dX10_starts_83 : decode cX10_starts 83 = .ok (.iload 4, 2) := by decide +kernel
theorem dX10_starts_85 : decode cX10_starts 85 = .ok (.ifCond .eq 12, 3) := by decide +kernel
theorem dX10_starts_88 : decode cX10_starts 88 = .ok (.aload_n 0, 1) := by decide +kernel
theorem dX10_starts_89 : decode cX10_starts 89 = .ok (.getfield 22, 3) := by decide +kernel
theorem dX10_starts_92 : decode cX10_starts 92 = .ok (.iload_n 2, 1) := by decide +kernel
theorem dX10_starts_93 : decode cX10_starts 93 = .ok (.iaload, 1) := by decide +kernel
theorem dX10_starts_94 : decode cX10_starts 94 = .ok (.goto 4, 3) := by decide +kernel
theorem dX10_starts_97 : decode cX10_starts 97 = .ok (.iconst 0, 1) := by decide +kernel
theorem dX10_starts_98 : decode cX10_starts 98 = .ok (.iastore, 1) := by decide +kernel
theorem dX10_starts_99 : decode cX10_starts 99 = .ok (.aload_n 0, 1) := by decide +kernel
theorem dX10_starts_100 : decode cX10_starts 100 = .ok (.getfield 81, 3) := by decide +kernel
theorem dX10_starts_103 : decode cX10_starts 103 = .ok (.iload_n 3, 1) := by decide +kernel
theorem dX10_starts_104 : decode cX10_starts 104 = .ok (.iconst 0, 1) := by decide +kernel
theorem dX10_starts_105 : decode cX10_starts 105 = .ok (.iastore, 1) := by decide +kernel
theorem dX10_starts_106 : decode cX10_starts 106 = .ok (.aload_n 0, 1) := by decide +kernel
theorem dX10_starts_107 : decode cX10_starts 107 = .ok (.getfield 84, 3) := by decide +kernel
theorem dX10_starts_110 : decode cX10_starts 110 = .ok (.iload_n 3, 1) := by decide +kernel
theorem dX10_starts_111 : decode cX10_starts 111 = .ok (.iconst 0, 1) := by decide +kernel
theorem dX10_starts_112 : decode cX10_starts 112 = .ok (.iastore, 1) := by decide +kernel
theorem dX10_starts_113 : decode cX10_starts 113 = .ok (.aload_n 0, 1) := by decide +kernel
theorem dX10_starts_114 : decode cX10_starts 114 = .ok (.getfield 87, 3) := by decide +kernel
theorem dX10_starts_117 : decode cX10_starts 117 = .ok (.iload_n 3, 1) := by decide +kernel
theorem dX10_starts_118 : decode cX10_starts 118 = .ok (.iconst 0, 1) := by decide +kernel
theorem dX10_starts_119 : decode cX10_starts 119 = .ok (.iastore, 1) := by decide +kernel
theorem dX10_starts_120 : decode cX10_starts 120 = .ok (.aload_n 0, 1) := by decide +kernel
theorem dX10_starts_121 : decode cX10_starts 121 = .ok (.getfield 90, 3) := by decide +kernel
theorem dX10_starts_124 : decode cX10_starts 124 = .ok (.iload_n 3, 1) := by decide +kernel
theorem dX10_starts_125 : decode cX10_starts 125 = .ok (.iconst 0, 1) := by decide +kernel
theorem dX10_starts_126 : decode cX10_starts 126 = .ok (.iastore, 1) := by decide +kernel
theorem dX10_starts_127 : decode cX10_starts 127 = .ok (.aload_n 0, 1) := by decide +kernel
theorem dX10_starts_128 : decode cX10_starts 128 = .ok (.getfield 93, 3) := by decide +kernel
theorem dX10_starts_131 : decode cX10_starts 131 = .ok (.iload_n 3, 1) := by decide +kernel
theorem dX10_starts_132 : decode cX10_starts 132 = .ok (.iconst 0, 1) := by decide +kernel
theorem dX10_starts_133 : decode cX10_starts 133 = .ok (.iastore, 1) := by decide +kernel
theorem dX10_starts_134 : decode cX10_starts 134 = .ok (.aload_n 0, 1) := by decide +kernel
theorem dX10_starts_135 : decode cX10_starts 135 = .ok (.getfield 96, 3) := by decide +kernel
theorem dX10_starts_138 : decode cX10_starts 138 = .ok (.iload_n 3, 1) := by decide +kernel
theorem dX10_starts_139 : decode cX10_starts 139 = .ok (.iconst 1, 1) := by decide +kernel
theorem dX10_starts_140 : decode cX10_starts 140 = .ok (.iastore, 1) := by decide +kernel
theorem dX10_starts_141 : decode cX10_starts 141 = .ok (.aload_n 0, 1) := by decide +kernel
theorem dX10_starts_142 : decode cX10_starts 142 = .ok (.getfield 99, 3) := by decide +kernel
theorem dX10_starts_145 : decode cX10_starts 145 = .ok (.iload_n 3, 1) := by decide +kernel
theorem dX10_starts_146 : decode cX10_starts 146 = .ok (.iconst 0, 1) := by decide +kernel
theorem dX10_starts_147 : decode cX10_starts 147 = .ok (.iastore, 1) := by decide +kernel
theorem dX10_starts_148 : decode cX10_starts 148 = .ok (.aload_n 0, 1) := by decide +kernel
theorem dX10_starts_149 : decode cX10_starts 149 = .ok (.getfield 102, 3) := by decide +kernel
theorem dX10_starts_152 : decode cX10_starts 152 = .ok (.iload_n 3, 1) := by decide +kernel
theorem dX10_starts_153 : decode cX10_starts 153 = .ok (.iconst 0, 1) := by decide +kernel
theorem dX10_starts_154 : decode cX10_starts 154 = .ok (.iastore, 1) := by decide +kernel
theorem dX10_starts_155 : decode cX10_starts 155 = .ok (.aload_n 0, 1) := by decide +kernel
theorem dX10_starts_156 : decode cX10_starts 156 = .ok (.getfield 105, 3) := by decide +kernel
theorem dX10_starts_159 : decode cX10_starts 159 = .ok (.iload_n 3, 1) := by decide +kernel
theorem dX10_starts_160 : decode cX10_starts 160 = .ok (.iconst 0, 1) := by decide +kernel
theorem dX10_starts_161 : decode cX10_starts 161 = .ok (.iastore, 1) := by decide +kernel
theorem dX10_starts_162 : decode cX10_starts 162 = .ok (.iinc 2 1, 3) := by decide +kernel
theorem dX10_starts_165 : decode cX10_starts 165 = .ok (.goto (-136), 3) := by decide +kernel
theorem dX10_starts_168 : decode cX10_starts 168 = .ok (.iconst 0, 1) := by decide +kernel
theorem dX10_starts_169 : decode cX10_starts 169 = .ok (.istore_n 2, 1) := by decide +kernel
theorem dX10_starts_170 : decode cX10_starts 170 = .ok (.iload_n 2, 1) := by decide +kernel
theorem dX10_starts_171 : decode cX10_starts 171 = .ok (.bipush 30, 2) := by decide +kernel
theorem dX10_starts_173 : decode cX10_starts 173 = .ok (.if_icmp .ge 26, 3) := by decide +kernel
theorem dX10_starts_176 : decode cX10_starts 176 = .ok (.aload_n 0, 1) := by decide +kernel
theorem dX10_starts_177 : decode cX10_starts 177 = .ok (.getfield 108, 3) := by decide +kernel
theorem dX10_starts_180 : decode cX10_starts 180 = .ok (.bipush 30, 2) := by decide +kernel
theorem dX10_starts_182 : decode cX10_starts 182 = .ok (.iload_n 1, 1) := by decide +kernel
theorem dX10_starts_183 : decode cX10_starts 183 = .ok (.imul, 1) := by decide +kernel
theorem dX10_starts_184 : decode cX10_starts 184 = .ok (.iload_n 2, 1) := by decide +kernel
theorem dX10_starts_185 : decode cX10_starts 185 = .ok (.iadd, 1) := by decide +kernel
theorem dX10_starts_186 : decode cX10_starts 186 = .ok (.aload_n 0, 1) := by decide +kernel
theorem dX10_starts_187 : decode cX10_starts 187 = .ok (.getfield 40, 3) := by decide +kernel
theorem dX10_starts_190 : decode cX10_starts 190 = .ok (.iload_n 2, 1) := by decide +kernel
theorem dX10_starts_191 : decode cX10_starts 191 = .ok (.iaload, 1) := by decide +kernel
theorem dX10_starts_192 : decode cX10_starts 192 = .ok (.iastore, 1) := by decide +kernel
theorem dX10_starts_193 : decode cX10_starts 193 = .ok (.iinc 2 1, 3) := by decide +kernel
theorem dX10_starts_196 : decode cX10_starts 196 = .ok (.goto (-26), 3) := by decide +kernel
theorem dX10_starts_199 : decode cX10_starts 199 = .ok (.return_, 1) := by decide +kernel
theorem dX10_begins_0 : decode cX10_begins 0 = .ok (.aload_n 0, 1) := by decide +kernel
theorem dX10_begins_1 : decode cX10_begins 1 = .ok (.iconst 0, 1) := by decide +kernel
theorem dX10_begins_2 : decode cX10_begins 2 = .ok (.invokevirtual 328, 3) := by decide +kernel
theorem dX10_begins_5 : decode cX10_begins 5 = .ok (.return_, 1) := by decide +kernel
theorem dX10_copies_0 : decode cX10_copies 0 = .ok (.aload_n 0, 1) := by decide +kernel
theorem dX10_copies_1 : decode cX10_copies 1 = .ok (.getfield 66, 3) := by decide +kernel
theorem dX10_copies_4 : decode cX10_copies 4 = .ok (.iload_n 1, 1) := by decide +kernel
theorem dX10_copies_5 : decode cX10_copies 5 = .ok (.aload_n 0, 1) := by decide +kernel
theorem dX10_copies_6 : decode cX10_copies 6 = .ok (.getfield 66, 3) := by decide +kernel
theorem dX10_copies_9 : decode cX10_copies 9 = .ok (.iload_n 2, 1) := by decide +kernel
theorem dX10_copies_10 : decode cX10_copies 10 = .ok (.iaload, 1) := by decide +kernel
theorem dX10_copies_11 : decode cX10_copies 11 = .ok (.iastore, 1) := by decide +kernel
theorem dX10_copies_12 : decode cX10_copies 12 = .ok (.aload_n 0, 1) := by decide +kernel
theorem dX10_copies_13 : decode cX10_copies 13 = .ok (.getfield 69, 3) := by decide +kernel
theorem dX10_copies_16 : decode cX10_copies 16 = .ok (.iload_n 1, 1) := by decide +kernel
theorem dX10_copies_17 : decode cX10_copies 17 = .ok (.aload_n 0, 1) := by decide +kernel
theorem dX10_copies_18 : decode cX10_copies 18 = .ok (.getfield 69, 3) := by decide +kernel
theorem dX10_copies_21 : decode cX10_copies 21 = .ok (.iload_n 2, 1) := by decide +kernel
theorem dX10_copies_22 : decode cX10_copies 22 = .ok (.iaload, 1) := by decide +kernel
theorem dX10_copies_23 : decode cX10_copies 23 = .ok (.iastore, 1) := by decide +kernel
theorem dX10_copies_24 : decode cX10_copies 24 = .ok (.aload_n 0, 1) := by decide +kernel
theorem dX10_copies_25 : decode cX10_copies 25 = .ok (.getfield 72, 3) := by decide +kernel
theorem dX10_copies_28 : decode cX10_copies 28 = .ok (.iload_n 1, 1) := by decide +kernel
theorem dX10_copies_29 : decode cX10_copies 29 = .ok (.aload_n 0, 1) := by decide +kernel
theorem dX10_copies_30 : decode cX10_copies 30 = .ok (.getfield 72, 3) := by decide +kernel
theorem dX10_copies_33 : decode cX10_copies 33 = .ok (.iload_n 2, 1) := by decide +kernel
theorem dX10_copies_34 : decode cX10_copies 34 = .ok (.iaload, 1) := by decide +kernel
theorem dX10_copies_35 : decode cX10_copies 35 = .ok (.iastore, 1) := by decide +kernel
theorem dX10_copies_36 : decode cX10_copies 36 = .ok (.iconst 0, 1) := by decide +kernel
theorem dX10_copies_37 : decode cX10_copies 37 = .ok (.istore_n 3, 1) := by decide +kernel
theorem dX10_copies_38 : decode cX10_copies 38 = .ok (.iload_n 3, 1) := by decide +kernel
theorem dX10_copies_39 : decode cX10_copies 39 = .ok (.iconst 5, 1) := by decide +kernel
theorem dX10_copies_40 : decode cX10_copies 40 = .ok (.if_icmp .ge 177, 3) := by decide +kernel
theorem dX10_copies_43 : decode cX10_copies 43 = .ok (.iconst 5, 1) := by decide +kernel
theorem dX10_copies_44 : decode cX10_copies 44 = .ok (.iload_n 1, 1) := by decide +kernel
theorem dX10_copies_45 : decode cX10_copies 45 = .ok (.imul, 1) := by decide +kernel
theorem dX10_copies_46 : decode cX10_copies 46 = .ok (.iload_n 3, 1) := by decide +kernel
theorem dX10_copies_47 : decode cX10_copies 47 = .ok (.iadd, 1) := by decide +kernel
theorem dX10_copies_48 : decode cX10_copies 48 = .ok (.istore 4, 2) := by decide +kernel
theorem dX10_copies_50 : decode cX10_copies 50 = .ok (.iconst 5, 1) := by decide +kernel
theorem dX10_copies_51 : decode cX10_copies 51 = .ok (.iload_n 2, 1) := by decide +kernel
theorem dX10_copies_52 : decode cX10_copies 52 = .ok (.imul, 1) := by decide +kernel
theorem dX10_copies_53 : decode cX10_copies 53 = .ok (.iload_n 3, 1) := by decide +kernel
theorem dX10_copies_54 : decode cX10_copies 54 = .ok (.iadd, 1) := by decide +kernel
theorem dX10_copies_55 : decode cX10_copies 55 = .ok (.istore 5, 2) := by decide +kernel
theorem dX10_copies_57 : decode cX10_copies 57 = .ok (.aload_n 0, 1) := by decide +kernel
theorem dX10_copies_58 : decode cX10_copies 58 = .ok (.getfield 75, 3) := by decide +kernel
theorem dX10_copies_61 : decode cX10_copies 61 = .ok (.iload 4, 2) := by decide +kernel
theorem dX10_copies_63 : decode cX10_copies 63 = .ok (.aload_n 0, 1) := by decide +kernel
theorem dX10_copies_64 : decode cX10_copies 64 = .ok (.getfield 75, 3) := by decide +kernel
theorem dX10_copies_67 : decode cX10_copies 67 = .ok (.iload 5, 2) := by decide +kernel
theorem dX10_copies_69 : decode cX10_copies 69 = .ok (.iaload, 1) := by decide +kernel
theorem dX10_copies_70 : decode cX10_copies 70 = .ok (.iastore, 1) := by decide +kernel
theorem dX10_copies_71 : decode cX10_copies 71 = .ok (.aload_n 0, 1) := by decide +kernel
theorem dX10_copies_72 : decode cX10_copies 72 = .ok (.getfield 78, 3) := by decide +kernel
theorem dX10_copies_75 : decode cX10_copies 75 = .ok (.iload 4, 2) := by decide +kernel
theorem dX10_copies_77 : decode cX10_copies 77 = .ok (.aload_n 0, 1) := by decide +kernel
theorem dX10_copies_78 : decode cX10_copies 78 = .ok (.getfield 78, 3) := by decide +kernel
theorem dX10_copies_81 : decode cX10_copies 81 = .ok (.iload 5, 2) := by decide +kernel
theorem dX10_copies_83 : decode cX10_copies 83 = .ok (.iaload, 1) := by decide +kernel
theorem dX10_copies_84 : decode cX10_copies 84 = .ok (.iastore, 1) := by decide +kernel
theorem dX10_copies_85 : decode cX10_copies 85 = .ok (.aload_n 0, 1) := by decide +kernel
theorem dX10_copies_86 : decode cX10_copies 86 = .ok (.getfield 81, 3) := by decide +kernel
theorem dX10_copies_89 : decode cX10_copies 89 = .ok (.iload 4, 2) := by decide +kernel
theorem dX10_copies_91 : decode cX10_copies 91 = .ok (.aload_n 0, 1) := by decide +kernel
theorem dX10_copies_92 : decode cX10_copies 92 = .ok (.getfield 81, 3) := by decide +kernel
theorem dX10_copies_95 : decode cX10_copies 95 = .ok (.iload 5, 2) := by decide +kernel
theorem dX10_copies_97 : decode cX10_copies 97 = .ok (.iaload, 1) := by decide +kernel
theorem dX10_copies_98 : decode cX10_copies 98 = .ok (.iastore, 1) := by decide +kernel
theorem dX10_copies_99 : decode cX10_copies 99 = .ok (.aload_n 0, 1) := by decide +kernel
theorem dX10_copies_100 : decode cX10_copies 100 = .ok (.getfield 84, 3) := by decide +kernel
theorem dX10_copies_103 : decode cX10_copies 103 = .ok (.iload 4, 2) := by decide +kernel
theorem dX10_copies_105 : decode cX10_copies 105 = .ok (.aload_n 0, 1) := by decide +kernel
theorem dX10_copies_106 : decode cX10_copies 106 = .ok (.getfield 84, 3) := by decide +kernel
theorem dX10_copies_109 : decode cX10_copies 109 = .ok (.iload 5, 2) := by decide +kernel
theorem dX10_copies_111 : decode cX10_copies 111 = .ok (.iaload, 1) := by decide +kernel
theorem dX10_copies_112 : decode cX10_copies 112 = .ok (.iastore, 1) := by decide +kernel
theorem dX10_copies_113 : decode cX10_copies 113 = .ok (.aload_n 0, 1) := by decide +kernel
theorem dX10_copies_114 : decode cX10_copies 114 = .ok (.getfield 87, 3) := by decide +kernel
theorem dX10_copies_117 : decode cX10_copies 117 = .ok (.iload 4, 2) := by decide +kernel
theorem dX10_copies_119 : decode cX10_copies 119 = .ok (.aload_n 0, 1) := by decide +kernel
theorem dX10_copies_120 : decode cX10_copies 120 = .ok (.getfield 87, 3) := by decide +kernel
theorem dX10_copies_123 : decode cX10_copies 123 = .ok (.iload 5, 2) := by decide +kernel
theorem dX10_copies_125 : decode cX10_copies 125 = .ok (.iaload, 1) := by decide +kernel
theorem dX10_copies_126 : decode cX10_copies 126 = .ok (.iastore, 1) := by decide +kernel
theorem dX10_copies_127 : decode cX10_copies 127 = .ok (.aload_n 0, 1) := by decide +kernel
theorem dX10_copies_128 : decode cX10_copies 128 = .ok (.getfield 90, 3) := by decide +kernel
theorem dX10_copies_131 : decode cX10_copies 131 = .ok (.iload 4, 2) := by decide +kernel
theorem dX10_copies_133 : decode cX10_copies 133 = .ok (.aload_n 0, 1) := by decide +kernel
theorem dX10_copies_134 : decode cX10_copies 134 = .ok (.getfield 90, 3) := by decide +kernel
theorem dX10_copies_137 : decode cX10_copies 137 = .ok (.iload 5, 2) := by decide +kernel
theorem dX10_copies_139 : decode cX10_copies 139 = .ok (.iaload, 1) := by decide +kernel
theorem dX10_copies_140 : decode cX10_copies 140 = .ok (.iastore, 1) := by decide +kernel
theorem dX10_copies_141 : decode cX10_copies 141 = .ok (.aload_n 0, 1) := by decide +kernel
theorem dX10_copies_142 : decode cX10_copies 142 = .ok (.getfield 93, 3) := by decide +kernel
theorem dX10_copies_145 : decode cX10_copies 145 = .ok (.iload 4, 2) := by decide +kernel
theorem dX10_copies_147 : decode cX10_copies 147 = .ok (.aload_n 0, 1) := by decide +kernel
theorem dX10_copies_148 : decode cX10_copies 148 = .ok (.getfield 93, 3) := by decide +kernel
theorem dX10_copies_151 : decode cX10_copies 151 = .ok (.iload 5, 2) := by decide +kernel
theorem dX10_copies_153 : decode cX10_copies 153 = .ok (.iaload, 1) := by decide +kernel
theorem dX10_copies_154 : decode cX10_copies 154 = .ok (.iastore, 1) := by decide +kernel
theorem dX10_copies_155 : decode cX10_copies 155 = .ok (.aload_n 0, 1) := by decide +kernel
theorem dX10_copies_156 : decode cX10_copies 156 = .ok (.getfield 96, 3) := by decide +kernel
theorem dX10_copies_159 : decode cX10_copies 159 = .ok (.iload 4, 2) := by decide +kernel
theorem dX10_copies_161 : decode cX10_copies 161 = .ok (.aload_n 0, 1) := by decide +kernel
theorem dX10_copies_162 : decode cX10_copies 162 = .ok (.getfield 96, 3) := by decide +kernel
theorem dX10_copies_165 : decode cX10_copies 165 = .ok (.iload 5, 2) := by decide +kernel
theorem dX10_copies_167 : decode cX10_copies 167 = .ok (.iaload, 1) := by decide +kernel
theorem dX10_copies_168 : decode cX10_copies 168 = .ok (.iastore, 1) := by decide +kernel
theorem dX10_copies_169 : decode cX10_copies 169 = .ok (.aload_n 0, 1) := by decide +kernel
theorem dX10_copies_170 : decode cX10_copies 170 = .ok (.getfield 99, 3) := by decide +kernel
theorem dX10_copies_173 : decode cX10_copies 173 = .ok (.iload 4, 2) := by decide +kernel
theorem dX10_copies_175 : decode cX10_copies 175 = .ok (.aload_n 0, 1) := by decide +kernel
theorem dX10_copies_176 : decode cX10_copies 176 = .ok (.getfield 99, 3) := by decide +kernel
theorem dX10_copies_179 : decode cX10_copies 179 = .ok (.iload 5, 2) := by decide +kernel
theorem dX10_copies_181 : decode cX10_copies 181 = .ok (.iaload, 1) := by decide +kernel
theorem dX10_copies_182 : decode cX10_copies 182 = .ok (.iastore, 1) := by decide +kernel
theorem dX10_copies_183 : decode cX10_copies 183 = .ok (.aload_n 0, 1) := by decide +kernel
theorem dX10_copies_184 : decode cX10_copies 184 = .ok (.getfield 102, 3) := by decide +kernel
theorem dX10_copies_187 : decode cX10_copies 187 = .ok (.iload 4, 2) := by decide +kernel
theorem dX10_copies_189 : decode cX10_copies 189 = .ok (.aload_n 0, 1) := by decide +kernel
theorem dX10_copies_190 : decode cX10_copies 190 = .ok (.getfield 102, 3) := by decide +kernel
theorem dX10_copies_193 : decode cX10_copies 193 = .ok (.iload 5, 2) := by decide +kernel
theorem dX10_copies_195 : decode cX10_copies 195 = .ok (.iaload, 1) := by decide +kernel
theorem dX10_copies_196 : decode cX10_copies 196 = .ok (.iastore, 1) := by decide +kernel
theorem dX10_copies_197 : decode cX10_copies 197 = .ok (.aload_n 0, 1) := by decide +kernel
theorem dX10_copies_198 : decode cX10_copies 198 = .ok (.getfield 105, 3) := by decide +kernel
theorem dX10_copies_201 : decode cX10_copies 201 = .ok (.iload 4, 2) := by decide +kernel
theorem dX10_copies_203 : decode cX10_copies 203 = .ok (.aload_n 0, 1) := by decide +kernel
theorem dX10_copies_204 : decode cX10_copies 204 = .ok (.getfield 105, 3) := by decide +kernel
theorem dX10_copies_207 : decode cX10_copies 207 = .ok (.iload 5, 2) := by decide +kernel
theorem dX10_copies_209 : decode cX10_copies 209 = .ok (.iaload, 1) := by decide +kernel
theorem dX10_copies_210 : decode cX10_copies 210 = .ok (.iastore, 1) := by decide +kernel
theorem dX10_copies_211 : decode cX10_copies 211 = .ok (.iinc 3 1, 3) := by decide +kernel
theorem dX10_copies_214 : decode cX10_copies 214 = .ok (.goto (-176), 3) := by decide +kernel
theorem dX10_copies_217 : decode cX10_copies 217 = .ok (.iconst 0, 1) := by decide +kernel
theorem dX10_copies_218 : decode cX10_copies 218 = .ok (.istore_n 3, 1) := by decide +kernel
theorem dX10_copies_219 : decode cX10_copies 219 = .ok (.iload_n 3, 1) := by decide +kernel
theorem dX10_copies_220 : decode cX10_copies 220 = .ok (.bipush 30, 2) := by decide +kernel
theorem dX10_copies_222 : decode cX10_copies 222 = .ok (.if_icmp .ge 31, 3) := by decide +kernel
theorem dX10_copies_225 : decode cX10_copies 225 = .ok (.aload_n 0, 1) := by decide +kernel
theorem dX10_copies_226 : decode cX10_copies 226 = .ok (.getfield 108, 3) := by decide +kernel
theorem dX10_copies_229 : decode cX10_copies 229 = .ok (.bipush 30, 2) := by decide +kernel
theorem dX10_copies_231 : decode cX10_copies 231 = .ok (.iload_n 1, 1) := by decide +kernel
theorem dX10_copies_232 : decode cX10_copies 232 = .ok (.imul, 1) := by decide +kernel
theorem dX10_copies_233 : decode cX10_copies 233 = .ok (.iload_n 3, 1) := by decide +kernel
theorem dX10_copies_234 : decode cX10_copies 234 = .ok (.iadd, 1) := by decide +kernel
theorem dX10_copies_235 : decode cX10_copies 235 = .ok (.aload_n 0, 1) := by decide +kernel
theorem dX10_copies_236 : decode cX10_copies 236 = .ok (.getfield 108, 3) := by decide +kernel
theorem dX10_copies_239 : decode cX10_copies 239 = .ok (.bipush 30, 2) := by decide +kernel
theorem dX10_copies_241 : decode cX10_copies 241 = .ok (.iload_n 2, 1) := by decide +kernel
theorem dX10_copies_242 : decode cX10_copies 242 = .ok (.imul, 1) := by decide +kernel
theorem dX10_copies_243 : decode cX10_copies 243 = .ok (.iload_n 3, 1) := by decide +kernel
theorem dX10_copies_244 : decode cX10_copies 244 = .ok (.iadd, 1) := by decide +kernel
theorem dX10_copies_245 : decode cX10_copies 245 = .ok (.iaload, 1) := by decide +kernel
theorem dX10_copies_246 : decode cX10_copies 246 = .ok (.iastore, 1) := by decide +kernel
theorem dX10_copies_247 : decode cX10_copies 247 = .ok (.iinc 3 1, 3) := by decide +kernel
theorem dX10_copies_250 : decode cX10_copies 250 = .ok (.goto (-31), 3) := by decide +kernel
theorem dX10_copies_253 : decode cX10_copies 253 = .ok (.return_, 1) := by decide +kernel
theorem dX10_isMan_0 : decode cX10_isMan 0 = .ok (.iload_n 1, 1) := by decide +kernel
theorem dX10_isMan_1 : decode cX10_isMan 1 = .ok (.ifCond .lt 17, 3) := by decide +kernel
theorem dX10_isMan_4 : decode cX10_isMan 4 = .ok (.iload_n 1, 1) := by decide +kernel
theorem dX10_isMan_5 : decode cX10_isMan 5 = .ok (.aload_n 0, 1) := by decide +kernel
theorem dX10_isMan_6 : decode cX10_isMan 6 = .ok (.getfield 13, 3) := by decide +kernel
theorem dX10_isMan_9 : decode cX10_isMan 9 = .ok (.iconst 0, 1) := by decide +kernel
theorem dX10_isMan_10 : decode cX10_isMan 10 = .ok (.iaload, 1) := by decide +kernel
theorem dX10_isMan_11 : decode cX10_isMan 11 = .ok (.if_icmp .ge 7, 3) := by decide +kernel
theorem dX10_isMan_14 : decode cX10_isMan 14 = .ok (.iconst 1, 1) := by decide +kernel
theorem dX10_isMan_15 : decode cX10_isMan 15 = .ok (.goto 4, 3) := by decide +kernel
theorem dX10_isMan_18 : decode cX10_isMan 18 = .ok (.iconst 0, 1) := by decide +kernel
theorem dX10_isMan_19 : decode cX10_isMan 19 = .ok (.ireturn, 1) := by decide +kernel
theorem dX10_isDeed_0 : decode cX10_isDeed 0 = .ok (.iload_n 1, 1) := by decide +kernel
theorem dX10_isDeed_1 : decode cX10_isDeed 1 = .ok (.ifCond .lt 17, 3) := by decide +kernel
theorem dX10_isDeed_4 : decode cX10_isDeed 4 = .ok (.iload_n 1, 1) := by decide +kernel
theorem dX10_isDeed_5 : decode cX10_isDeed 5 = .ok (.aload_n 0, 1) := by decide +kernel
theorem dX10_isDeed_6 : decode cX10_isDeed 6 = .ok (.getfield 13, 3) := by decide +kernel
theorem dX10_isDeed_9 : decode cX10_isDeed 9 = .ok (.iconst 1, 1) := by decide +kernel
theorem dX10_isDeed_10 : decode cX10_isDeed 10 = .ok (.iaload, 1) := by decide +kernel
