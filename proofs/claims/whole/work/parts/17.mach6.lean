theorem d_Md_read_0 : decode prog_14_method_29_code 0 = .ok (.aload_n 0, 1) := by decide +kernel
theorem d_Md_read_1 : decode prog_14_method_29_code 1 = .ok (.iconst 0, 1) := by decide +kernel
theorem d_Md_read_2 : decode prog_14_method_29_code 2 = .ok (.putfield 1, 3) := by decide +kernel
theorem d_Md_read_5 : decode prog_14_method_29_code 5 = .ok (.aload_n 0, 1) := by decide +kernel
theorem d_Md_read_6 : decode prog_14_method_29_code 6 = .ok (.aload_n 0, 1) := by decide +kernel
theorem d_Md_read_7 : decode prog_14_method_29_code 7 = .ok (.getfield 137, 3) := by decide +kernel
theorem d_Md_read_10 : decode prog_14_method_29_code 10 = .ok (.putfield 143, 3) := by decide +kernel
theorem d_Md_read_13 : decode prog_14_method_29_code 13 = .ok (.aload_n 0, 1) := by decide +kernel
theorem d_Md_read_14 : decode prog_14_method_29_code 14 = .ok (.iconst 0, 1) := by decide +kernel
theorem d_Md_read_15 : decode prog_14_method_29_code 15 = .ok (.putfield 137, 3) := by decide +kernel
theorem d_Md_read_18 : decode prog_14_method_29_code 18 = .ok (.aload_n 0, 1) := by decide +kernel
theorem d_Md_read_19 : decode prog_14_method_29_code 19 = .ok (.iconst 0, 1) := by decide +kernel
theorem d_Md_read_20 : decode prog_14_method_29_code 20 = .ok (.putfield 147, 3) := by decide +kernel
theorem d_Md_read_23 : decode prog_14_method_29_code 23 = .ok (.aload_n 0, 1) := by decide +kernel
theorem d_Md_read_24 : decode prog_14_method_29_code 24 = .ok (.iconst 0, 1) := by decide +kernel
theorem d_Md_read_25 : decode prog_14_method_29_code 25 = .ok (.putfield 168, 3) := by decide +kernel
theorem d_Md_read_28 : decode prog_14_method_29_code 28 = .ok (.aload_n 0, 1) := by decide +kernel
theorem d_Md_read_29 : decode prog_14_method_29_code 29 = .ok (.aload_n 0, 1) := by decide +kernel
theorem d_Md_read_30 : decode prog_14_method_29_code 30 = .ok (.getfield 232, 3) := by decide +kernel
theorem d_Md_read_33 : decode prog_14_method_29_code 33 = .ok (.putfield 189, 3) := by decide +kernel
theorem d_Md_read_36 : decode prog_14_method_29_code 36 = .ok (.aload_n 0, 1) := by decide +kernel
theorem d_Md_read_37 : decode prog_14_method_29_code 37 = .ok (.aload_n 0, 1) := by decide +kernel
theorem d_Md_read_38 : decode prog_14_method_29_code 38 = .ok (.getfield 235, 3) := by decide +kernel
theorem d_Md_read_41 : decode prog_14_method_29_code 41 = .ok (.putfield 208, 3) := by decide +kernel
theorem d_Md_read_44 : decode prog_14_method_29_code 44 = .ok (.aload_n 0, 1) := by decide +kernel
theorem d_Md_read_45 : decode prog_14_method_29_code 45 = .ok (.aload_n 0, 1) := by decide +kernel
theorem d_Md_read_46 : decode prog_14_method_29_code 46 = .ok (.getfield 238, 3) := by decide +kernel
theorem d_Md_read_49 : decode prog_14_method_29_code 49 = .ok (.putfield 220, 3) := by decide +kernel
theorem d_Md_read_52 : decode prog_14_method_29_code 52 = .ok (.aload_n 0, 1) := by decide +kernel
theorem d_Md_read_53 : decode prog_14_method_29_code 53 = .ok (.aload_n 0, 1) := by decide +kernel
theorem d_Md_read_54 : decode prog_14_method_29_code 54 = .ok (.getfield 241, 3) := by decide +kernel
theorem d_Md_read_57 : decode prog_14_method_29_code 57 = .ok (.putfield 229, 3) := by decide +kernel
theorem d_Md_read_60 : decode prog_14_method_29_code 60 = .ok (.aload_n 0, 1) := by decide +kernel
theorem d_Md_read_61 : decode prog_14_method_29_code 61 = .ok (.invokevirtual 178, 3) := by decide +kernel
theorem d_Md_read_64 : decode prog_14_method_29_code 64 = .ok (.aload_n 0, 1) := by decide +kernel
theorem d_Md_read_65 : decode prog_14_method_29_code 65 = .ok (.getfield 168, 3) := by decide +kernel
theorem d_Md_read_68 : decode prog_14_method_29_code 68 = .ok (.ifCond .ne 180, 3) := by decide +kernel
theorem d_Md_read_71 : decode prog_14_method_29_code 71 = .ok (.aload_n 0, 1) := by decide +kernel
theorem d_Md_read_72 : decode prog_14_method_29_code 72 = .ok (.getfield 156, 3) := by decide +kernel
theorem d_Md_read_75 : decode prog_14_method_29_code 75 = .ok (.iconst 1, 1) := by decide +kernel
theorem d_Md_read_76 : decode prog_14_method_29_code 76 = .ok (.if_icmp .eq 172, 3) := by decide +kernel
theorem d_Md_read_79 : decode prog_14_method_29_code 79 = .ok (.aload_n 0, 1) := by decide +kernel
theorem d_Md_read_80 : decode prog_14_method_29_code 80 = .ok (.invokevirtual 192, 3) := by decide +kernel
theorem d_Md_read_83 : decode prog_14_method_29_code 83 = .ok (.lstore_n 1, 1) := by decide +kernel
theorem d_Md_read_84 : decode prog_14_method_29_code 84 = .ok (.lload_n 1, 1) := by decide +kernel
theorem d_Md_read_85 : decode prog_14_method_29_code 85 = .ok (.ldc2_w 244, 3) := by decide +kernel
theorem d_Md_read_88 : decode prog_14_method_29_code 88 = .ok (.lcmp, 1) := by decide +kernel
theorem d_Md_read_89 : decode prog_14_method_29_code 89 = .ok (.ifCond .ne 12, 3) := by decide +kernel
theorem d_Md_read_92 : decode prog_14_method_29_code 92 = .ok (.aload_n 0, 1) := by decide +kernel
theorem d_Md_read_93 : decode prog_14_method_29_code 93 = .ok (.getfield 189, 3) := by decide +kernel
theorem d_Md_read_96 : decode prog_14_method_29_code 96 = .ok (.bipush 8, 2) := by decide +kernel
theorem d_Md_read_98 : decode prog_14_method_29_code 98 = .ok (.if_icmp .eq 37, 3) := by decide +kernel
theorem d_Md_read_101 : decode prog_14_method_29_code 101 = .ok (.lload_n 1, 1) := by decide +kernel
theorem d_Md_read_102 : decode prog_14_method_29_code 102 = .ok (.ldc2_w 246, 3) := by decide +kernel
theorem d_Md_read_105 : decode prog_14_method_29_code 105 = .ok (.lcmp, 1) := by decide +kernel
theorem d_Md_read_106 : decode prog_14_method_29_code 106 = .ok (.ifCond .ne 12, 3) := by decide +kernel
theorem d_Md_read_109 : decode prog_14_method_29_code 109 = .ok (.aload_n 0, 1) := by decide +kernel
theorem d_Md_read_110 : decode prog_14_method_29_code 110 = .ok (.getfield 220, 3) := by decide +kernel
theorem d_Md_read_113 : decode prog_14_method_29_code 113 = .ok (.bipush 10, 2) := by decide +kernel
theorem d_Md_read_115 : decode prog_14_method_29_code 115 = .ok (.if_icmp .eq 20, 3) := by decide +kernel
theorem d_Md_read_118 : decode prog_14_method_29_code 118 = .ok (.lload_n 1, 1) := by decide +kernel
theorem d_Md_read_119 : decode prog_14_method_29_code 119 = .ok (.ldc2_w 248, 3) := by decide +kernel
theorem d_Md_read_122 : decode prog_14_method_29_code 122 = .ok (.lcmp, 1) := by decide +kernel
theorem d_Md_read_123 : decode prog_14_method_29_code 123 = .ok (.ifCond .ne 17, 3) := by decide +kernel
theorem d_Md_read_126 : decode prog_14_method_29_code 126 = .ok (.aload_n 0, 1) := by decide +kernel
theorem d_Md_read_127 : decode prog_14_method_29_code 127 = .ok (.getfield 229, 3) := by decide +kernel
theorem d_Md_read_130 : decode prog_14_method_29_code 130 = .ok (.bipush 30, 2) := by decide +kernel
theorem d_Md_read_132 : decode prog_14_method_29_code 132 = .ok (.if_icmp .ne 8, 3) := by decide +kernel
theorem d_Md_read_135 : decode prog_14_method_29_code 135 = .ok (.aload_n 0, 1) := by decide +kernel
theorem d_Md_read_136 : decode prog_14_method_29_code 136 = .ok (.iconst 3, 1) := by decide +kernel
theorem d_Md_read_137 : decode prog_14_method_29_code 137 = .ok (.invokevirtual 174, 3) := by decide +kernel
theorem d_Md_read_140 : decode prog_14_method_29_code 140 = .ok (.aload_n 0, 1) := by decide +kernel
theorem d_Md_read_141 : decode prog_14_method_29_code 141 = .ok (.lload_n 1, 1) := by decide +kernel
theorem d_Md_read_142 : decode prog_14_method_29_code 142 = .ok (.ldc2_w 244, 3) := by decide +kernel
theorem d_Md_read_145 : decode prog_14_method_29_code 145 = .ok (.lcmp, 1) := by decide +kernel
theorem d_Md_read_146 : decode prog_14_method_29_code 146 = .ok (.ifCond .eq 19, 3) := by decide +kernel
theorem d_Md_read_149 : decode prog_14_method_29_code 149 = .ok (.lload_n 1, 1) := by decide +kernel
theorem d_Md_read_150 : decode prog_14_method_29_code 150 = .ok (.ldc2_w 246, 3) := by decide +kernel
theorem d_Md_read_153 : decode prog_14_method_29_code 153 = .ok (.lcmp, 1) := by decide +kernel
theorem d_Md_read_154 : decode prog_14_method_29_code 154 = .ok (.ifCond .eq 11, 3) := by decide +kernel
theorem d_Md_read_157 : decode prog_14_method_29_code 157 = .ok (.lload_n 1, 1) := by decide +kernel
theorem d_Md_read_158 : decode prog_14_method_29_code 158 = .ok (.ldc2_w 248, 3) := by decide +kernel
theorem d_Md_read_161 : decode prog_14_method_29_code 161 = .ok (.lcmp, 1) := by decide +kernel
theorem d_Md_read_162 : decode prog_14_method_29_code 162 = .ok (.ifCond .ne 7, 3) := by decide +kernel
theorem d_Md_read_165 : decode prog_14_method_29_code 165 = .ok (.iconst 1, 1) := by decide +kernel
theorem d_Md_read_166 : decode prog_14_method_29_code 166 = .ok (.goto 4, 3) := by decide +kernel
theorem d_Md_read_169 : decode prog_14_method_29_code 169 = .ok (.iconst 0, 1) := by decide +kernel
theorem d_Md_read_170 : decode prog_14_method_29_code 170 = .ok (.invokevirtual 185, 3) := by decide +kernel
theorem d_Md_read_173 : decode prog_14_method_29_code 173 = .ok (.aload_n 0, 1) := by decide +kernel
theorem d_Md_read_174 : decode prog_14_method_29_code 174 = .ok (.getfield 168, 3) := by decide +kernel
theorem d_Md_read_177 : decode prog_14_method_29_code 177 = .ok (.ifCond .ne 18, 3) := by decide +kernel
theorem d_Md_read_180 : decode prog_14_method_29_code 180 = .ok (.lload_n 1, 1) := by decide +kernel
theorem d_Md_read_181 : decode prog_14_method_29_code 181 = .ok (.ldc2_w 244, 3) := by decide +kernel
theorem d_Md_read_184 : decode prog_14_method_29_code 184 = .ok (.lcmp, 1) := by decide +kernel
theorem d_Md_read_185 : decode prog_14_method_29_code 185 = .ok (.ifCond .ne 10, 3) := by decide +kernel
theorem d_Md_read_188 : decode prog_14_method_29_code 188 = .ok (.aload_n 0, 1) := by decide +kernel
theorem d_Md_read_189 : decode prog_14_method_29_code 189 = .ok (.invokevirtual 250, 3) := by decide +kernel
theorem d_Md_read_192 : decode prog_14_method_29_code 192 = .ok (.goto 36, 3) := by decide +kernel
theorem d_Md_read_195 : decode prog_14_method_29_code 195 = .ok (.aload_n 0, 1) := by decide +kernel
theorem d_Md_read_196 : decode prog_14_method_29_code 196 = .ok (.getfield 168, 3) := by decide +kernel
theorem d_Md_read_199 : decode prog_14_method_29_code 199 = .ok (.ifCond .ne 18, 3) := by decide +kernel
theorem d_Md_read_202 : decode prog_14_method_29_code 202 = .ok (.lload_n 1, 1) := by decide +kernel
theorem d_Md_read_203 : decode prog_14_method_29_code 203 = .ok (.ldc2_w 246, 3) := by decide +kernel
theorem d_Md_read_206 : decode prog_14_method_29_code 206 = .ok (.lcmp, 1) := by decide +kernel
theorem d_Md_read_207 : decode prog_14_method_29_code 207 = .ok (.ifCond .ne 10, 3) := by decide +kernel
theorem d_Md_read_210 : decode prog_14_method_29_code 210 = .ok (.aload_n 0, 1) := by decide +kernel
theorem d_Md_read_211 : decode prog_14_method_29_code 211 = .ok (.invokevirtual 253, 3) := by decide +kernel
theorem d_Md_read_214 : decode prog_14_method_29_code 214 = .ok (.goto 14, 3) := by decide +kernel
theorem d_Md_read_217 : decode prog_14_method_29_code 217 = .ok (.aload_n 0, 1) := by decide +kernel
theorem d_Md_read_218 : decode prog_14_method_29_code 218 = .ok (.getfield 168, 3) := by decide +kernel
theorem d_Md_read_221 : decode prog_14_method_29_code 221 = .ok (.ifCond .ne 7, 3) := by decide +kernel
theorem d_Md_read_224 : decode prog_14_method_29_code 224 = .ok (.aload_n 0, 1) := by decide +kernel
theorem d_Md_read_225 : decode prog_14_method_29_code 225 = .ok (.invokevirtual 256, 3) := by decide +kernel
theorem d_Md_read_228 : decode prog_14_method_29_code 228 = .ok (.aload_n 0, 1) := by decide +kernel
theorem d_Md_read_229 : decode prog_14_method_29_code 229 = .ok (.getfield 168, 3) := by decide +kernel
theorem d_Md_read_232 : decode prog_14_method_29_code 232 = .ok (.ifCond .ne 13, 3) := by decide +kernel
theorem d_Md_read_235 : decode prog_14_method_29_code 235 = .ok (.aload_n 0, 1) := by decide +kernel
theorem d_Md_read_236 : decode prog_14_method_29_code 236 = .ok (.aload_n 0, 1) := by decide +kernel
theorem d_Md_read_237 : decode prog_14_method_29_code 237 = .ok (.bipush 59, 2) := by decide +kernel
theorem d_Md_read_239 : decode prog_14_method_29_code 239 = .ok (.invokevirtual 211, 3) := by decide +kernel
theorem d_Md_read_242 : decode prog_14_method_29_code 242 = .ok (.invokevirtual 185, 3) := by decide +kernel
theorem d_Md_read_245 : decode prog_14_method_29_code 245 = .ok (.goto (-181), 3) := by decide +kernel
theorem d_Md_read_248 : decode prog_14_method_29_code 248 = .ok (.aload_n 0, 1) := by decide +kernel
theorem d_Md_read_249 : decode prog_14_method_29_code 249 = .ok (.getfield 168, 3) := by decide +kernel
theorem d_Md_read_252 : decode prog_14_method_29_code 252 = .ok (.ifCond .le 20, 3) := by decide +kernel
theorem d_Md_read_255 : decode prog_14_method_29_code 255 = .ok (.aload_n 0, 1) := by decide +kernel
theorem d_Md_read_256 : decode prog_14_method_29_code 256 = .ok (.aload_n 0, 1) := by decide +kernel
theorem d_Md_read_257 : decode prog_14_method_29_code 257 = .ok (.getfield 168, 3) := by decide +kernel
theorem d_Md_read_260 : decode prog_14_method_29_code 260 = .ok (.putfield 259, 3) := by decide +kernel
theorem d_Md_read_263 : decode prog_14_method_29_code 263 = .ok (.ldc_w 262, 3) := by decide +kernel
theorem d_Md_read_266 : decode prog_14_method_29_code 266 = .ok (.aload_n 0, 1) := by decide +kernel
theorem d_Md_read_267 : decode prog_14_method_29_code 267 = .ok (.getfield 171, 3) := by decide +kernel
theorem d_Md_read_270 : decode prog_14_method_29_code 270 = .ok (.isub, 1) := by decide +kernel
theorem d_Md_read_271 : decode prog_14_method_29_code 271 = .ok (.ireturn, 1) := by decide +kernel
theorem d_Md_read_272 : decode prog_14_method_29_code 272 = .ok (.aload_n 0, 1) := by decide +kernel
theorem d_Md_read_273 : decode prog_14_method_29_code 273 = .ok (.getfield 232, 3) := by decide +kernel
theorem d_Md_read_276 : decode prog_14_method_29_code 276 = .ok (.istore_n 1, 1) := by decide +kernel
theorem d_Md_read_277 : decode prog_14_method_29_code 277 = .ok (.iload_n 1, 1) := by decide +kernel
theorem d_Md_read_278 : decode prog_14_method_29_code 278 = .ok (.aload_n 0, 1) := by decide +kernel
theorem d_Md_read_279 : decode prog_14_method_29_code 279 = .ok (.getfield 189, 3) := by decide +kernel
theorem d_Md_read_282 : decode prog_14_method_29_code 282 = .ok (.if_icmp .ge 54, 3) := by decide +kernel
theorem d_Md_read_285 : decode prog_14_method_29_code 285 = .ok (.aload_n 0, 1) := by decide +kernel
theorem d_Md_read_286 : decode prog_14_method_29_code 286 = .ok (.getfield 79, 3) := by decide +kernel
theorem d_Md_read_289 : decode prog_14_method_29_code 289 = .ok (.iload_n 1, 1) := by decide +kernel
theorem d_Md_read_290 : decode prog_14_method_29_code 290 = .ok (.iconst 0, 1) := by decide +kernel
theorem d_Md_read_291 : decode prog_14_method_29_code 291 = .ok (.bastore, 1) := by decide +kernel
theorem d_Md_read_292 : decode prog_14_method_29_code 292 = .ok (.aload_n 0, 1) := by decide +kernel
theorem d_Md_read_293 : decode prog_14_method_29_code 293 = .ok (.getfield 63, 3) := by decide +kernel
theorem d_Md_read_296 : decode prog_14_method_29_code 296 = .ok (.iload_n 1, 1) := by decide +kernel
theorem d_Md_read_297 : decode prog_14_method_29_code 297 = .ok (.aload_n 0, 1) := by decide +kernel
theorem d_Md_read_298 : decode prog_14_method_29_code 298 = .ok (.getfield 27, 3) := by decide +kernel
theorem d_Md_read_301 : decode prog_14_method_29_code 301 = .ok (.iload_n 1, 1) := by decide +kernel
theorem d_Md_read_302 : decode prog_14_method_29_code 302 = .ok (.iaload, 1) := by decide +kernel
theorem d_Md_read_303 : decode prog_14_method_29_code 303 = .ok (.iconst 3, 1) := by decide +kernel
theorem d_Md_read_304 : decode prog_14_method_29_code 304 = .ok (.if_icmp .ne 16, 3) := by decide +kernel
theorem d_Md_read_307 : decode prog_14_method_29_code 307 = .ok (.iconst 1, 1) := by decide +kernel
theorem d_Md_read_308 : decode prog_14_method_29_code 308 = .ok (.aload_n 0, 1) := by decide +kernel
theorem d_Md_read_309 : decode prog_14_method_29_code 309 = .ok (.getfield 30, 3) := by decide +kernel
theorem d_Md_read_312 : decode prog_14_method_29_code 312 = .ok (.iload_n 1, 1) := by decide +kernel
theorem d_Md_read_313 : decode prog_14_method_29_code 313 = .ok (.iaload, 1) := by decide +kernel
theorem d_Md_read_314 : decode prog_14_method_29_code 314 = .ok (.ishl, 1) := by decide +kernel
theorem d_Md_read_315 : decode prog_14_method_29_code 315 = .ok (.iconst 1, 1) := by decide +kernel
theorem d_Md_read_316 : decode prog_14_method_29_code 316 = .ok (.isub, 1) := by decide +kernel
theorem d_Md_read_317 : decode prog_14_method_29_code 317 = .ok (.goto 4, 3) := by decide +kernel
theorem d_Md_read_320 : decode prog_14_method_29_code 320 = .ok (.iconst 0, 1) := by decide +kernel
theorem d_Md_read_321 : decode prog_14_method_29_code 321 = .ok (.iastore, 1) := by decide +kernel
theorem d_Md_read_322 : decode prog_14_method_29_code 322 = .ok (.aload_n 0, 1) := by decide +kernel
theorem d_Md_read_323 : decode prog_14_method_29_code 323 = .ok (.getfield 85, 3) := by decide +kernel
theorem d_Md_read_326 : decode prog_14_method_29_code 326 = .ok (.iload_n 1, 1) := by decide +kernel
theorem d_Md_read_327 : decode prog_14_method_29_code 327 = .ok (.ldc 146, 2) := by decide +kernel
theorem d_Md_read_329 : decode prog_14_method_29_code 329 = .ok (.iastore, 1) := by decide +kernel
theorem d_Md_read_330 : decode prog_14_method_29_code 330 = .ok (.iinc 1 1, 3) := by decide +kernel
theorem d_Md_read_333 : decode prog_14_method_29_code 333 = .ok (.goto (-56), 3) := by decide +kernel
theorem d_Md_read_336 : decode prog_14_method_29_code 336 = .ok (.aload_n 0, 1) := by decide +kernel
theorem d_Md_read_337 : decode prog_14_method_29_code 337 = .ok (.getfield 235, 3) := by decide +kernel
theorem d_Md_read_340 : decode prog_14_method_29_code 340 = .ok (.istore_n 1, 1) := by decide +kernel
theorem d_Md_read_341 : decode prog_14_method_29_code 341 = .ok (.iload_n 1, 1) := by decide +kernel
theorem d_Md_read_342 : decode prog_14_method_29_code 342 = .ok (.aload_n 0, 1) := by decide +kernel
theorem d_Md_read_343 : decode prog_14_method_29_code 343 = .ok (.getfield 208, 3) := by decide +kernel
theorem d_Md_read_346 : decode prog_14_method_29_code 346 = .ok (.if_icmp .ge 16, 3) := by decide +kernel
theorem d_Md_read_349 : decode prog_14_method_29_code 349 = .ok (.aload_n 0, 1) := by decide +kernel
theorem d_Md_read_350 : decode prog_14_method_29_code 350 = .ok (.getfield 91, 3) := by decide +kernel
theorem d_Md_read_353 : decode prog_14_method_29_code 353 = .ok (.iload_n 1, 1) := by decide +kernel
theorem d_Md_read_354 : decode prog_14_method_29_code 354 = .ok (.iconst 0, 1) := by decide +kernel
theorem d_Md_read_355 : decode prog_14_method_29_code 355 = .ok (.iastore, 1) := by decide +kernel
theorem d_Md_read_356 : decode prog_14_method_29_code 356 = .ok (.iinc 1 1, 3) := by decide +kernel
theorem d_Md_read_359 : decode prog_14_method_29_code 359 = .ok (.goto (-18), 3) := by decide +kernel
theorem d_Md_read_362 : decode prog_14_method_29_code 362 = .ok (.aload_n 0, 1) := by decide +kernel
theorem d_Md_read_363 : decode prog_14_method_29_code 363 = .ok (.aload_n 0, 1) := by decide +kernel
theorem d_Md_read_364 : decode prog_14_method_29_code 364 = .ok (.getfield 189, 3) := by decide +kernel
theorem d_Md_read_367 : decode prog_14_method_29_code 367 = .ok (.putfield 232, 3) := by decide +kernel
theorem d_Md_read_370 : decode prog_14_method_29_code 370 = .ok (.aload_n 0, 1) := by decide +kernel
theorem d_Md_read_371 : decode prog_14_method_29_code 371 = .ok (.aload_n 0, 1) := by decide +kernel
theorem d_Md_read_372 : decode prog_14_method_29_code 372 = .ok (.getfield 208, 3) := by decide +kernel
theorem d_Md_read_375 : decode prog_14_method_29_code 375 = .ok (.putfield 235, 3) := by decide +kernel
theorem d_Md_read_378 : decode prog_14_method_29_code 378 = .ok (.aload_n 0, 1) := by decide +kernel
theorem d_Md_read_379 : decode prog_14_method_29_code 379 = .ok (.aload_n 0, 1) := by decide +kernel
theorem d_Md_read_380 : decode prog_14_method_29_code 380 = .ok (.getfield 220, 3) := by decide +kernel
theorem d_Md_read_383 : decode prog_14_method_29_code 383 = .ok (.putfield 238, 3) := by decide +kernel
theorem d_Md_read_386 : decode prog_14_method_29_code 386 = .ok (.aload_n 0, 1) := by decide +kernel
theorem d_Md_read_387 : decode prog_14_method_29_code 387 = .ok (.getfield 241, 3) := by decide +kernel
theorem d_Md_read_390 : decode prog_14_method_29_code 390 = .ok (.istore_n 1, 1) := by decide +kernel
theorem d_Md_read_391 : decode prog_14_method_29_code 391 = .ok (.iload_n 1, 1) := by decide +kernel
theorem d_Md_read_392 : decode prog_14_method_29_code 392 = .ok (.aload_n 0, 1) := by decide +kernel
theorem d_Md_read_393 : decode prog_14_method_29_code 393 = .ok (.getfield 229, 3) := by decide +kernel
theorem d_Md_read_396 : decode prog_14_method_29_code 396 = .ok (.if_icmp .ge 93, 3) := by decide +kernel
theorem d_Md_read_399 : decode prog_14_method_29_code 399 = .ok (.aload_n 0, 1) := by decide +kernel
theorem d_Md_read_400 : decode prog_14_method_29_code 400 = .ok (.getfield 60, 3) := by decide +kernel
theorem d_Md_read_403 : decode prog_14_method_29_code 403 = .ok (.bipush 32, 2) := by decide +kernel
theorem d_Md_read_405 : decode prog_14_method_29_code 405 = .ok (.aload_n 0, 1) := by decide +kernel
theorem d_Md_read_406 : decode prog_14_method_29_code 406 = .ok (.getfield 48, 3) := by decide +kernel
theorem d_Md_read_409 : decode prog_14_method_29_code 409 = .ok (.iload_n 1, 1) := by decide +kernel
theorem d_Md_read_410 : decode prog_14_method_29_code 410 = .ok (.iaload, 1) := by decide +kernel
theorem d_Md_read_411 : decode prog_14_method_29_code 411 = .ok (.imul, 1) := by decide +kernel
theorem d_Md_read_412 : decode prog_14_method_29_code 412 = .ok (.bipush 8, 2) := by decide +kernel
theorem d_Md_read_414 : decode prog_14_method_29_code 414 = .ok (.aload_n 0, 1) := by decide +kernel
theorem d_Md_read_415 : decode prog_14_method_29_code 415 = .ok (.getfield 54, 3) := by decide +kernel
theorem d_Md_read_418 : decode prog_14_method_29_code 418 = .ok (.iload_n 1, 1) := by decide +kernel
theorem d_Md_read_419 : decode prog_14_method_29_code 419 = .ok (.iaload, 1) := by decide +kernel
theorem d_Md_read_420 : decode prog_14_method_29_code 420 = .ok (.imul, 1) := by decide +kernel
theorem d_Md_read_421 : decode prog_14_method_29_code 421 = .ok (.iadd, 1) := by decide +kernel
theorem d_Md_read_422 : decode prog_14_method_29_code 422 = .ok (.aload_n 0, 1) := by decide +kernel
theorem d_Md_read_423 : decode prog_14_method_29_code 423 = .ok (.getfield 51, 3) := by decide +kernel
theorem d_Md_read_426 : decode prog_14_method_29_code 426 = .ok (.iload_n 1, 1) := by decide +kernel
theorem d_Md_read_427 : decode prog_14_method_29_code 427 = .ok (.iaload, 1) := by decide +kernel
theorem d_Md_read_428 : decode prog_14_method_29_code 428 = .ok (.iadd, 1) := by decide +kernel
theorem d_Md_read_429 : decode prog_14_method_29_code 429 = .ok (.dup2, 1) := by decide +kernel
theorem d_Md_read_430 : decode prog_14_method_29_code 430 = .ok (.iaload, 1) := by decide +kernel
theorem d_Md_read_431 : decode prog_14_method_29_code 431 = .ok (.iconst 1, 1) := by decide +kernel
theorem d_Md_read_432 : decode prog_14_method_29_code 432 = .ok (.aload_n 0, 1) := by decide +kernel
theorem d_Md_read_433 : decode prog_14_method_29_code 433 = .ok (.getfield 57, 3) := by decide +kernel
theorem d_Md_read_436 : decode prog_14_method_29_code 436 = .ok (.iload_n 1, 1) := by decide +kernel
theorem d_Md_read_437 : decode prog_14_method_29_code 437 = .ok (.iaload, 1) := by decide +kernel
theorem d_Md_read_438 : decode prog_14_method_29_code 438 = .ok (.ishl, 1) := by decide +kernel
theorem d_Md_read_439 : decode prog_14_method_29_code 439 = .ok (.ior, 1) := by decide +kernel
theorem d_Md_read_440 : decode prog_14_method_29_code 440 = .ok (.iastore, 1) := by decide +kernel
theorem d_Md_read_441 : decode prog_14_method_29_code 441 = .ok (.aload_n 0, 1) := by decide +kernel
theorem d_Md_read_442 : decode prog_14_method_29_code 442 = .ok (.getfield 60, 3) := by decide +kernel
theorem d_Md_read_445 : decode prog_14_method_29_code 445 = .ok (.bipush 32, 2) := by decide +kernel
theorem d_Md_read_447 : decode prog_14_method_29_code 447 = .ok (.aload_n 0, 1) := by decide +kernel
theorem d_Md_read_448 : decode prog_14_method_29_code 448 = .ok (.getfield 51, 3) := by decide +kernel
theorem d_Md_read_451 : decode prog_14_method_29_code 451 = .ok (.iload_n 1, 1) := by decide +kernel
theorem d_Md_read_452 : decode prog_14_method_29_code 452 = .ok (.iaload, 1) := by decide +kernel
theorem d_Md_read_453 : decode prog_14_method_29_code 453 = .ok (.imul, 1) := by decide +kernel
theorem d_Md_read_454 : decode prog_14_method_29_code 454 = .ok (.bipush 8, 2) := by decide +kernel
theorem d_Md_read_456 : decode prog_14_method_29_code 456 = .ok (.aload_n 0, 1) := by decide +kernel
theorem d_Md_read_457 : decode prog_14_method_29_code 457 = .ok (.getfield 57, 3) := by decide +kernel
theorem d_Md_read_460 : decode prog_14_method_29_code 460 = .ok (.iload_n 1, 1) := by decide +kernel
theorem d_Md_read_461 : decode prog_14_method_29_code 461 = .ok (.iaload, 1) := by decide +kernel
theorem d_Md_read_462 : decode prog_14_method_29_code 462 = .ok (.imul, 1) := by decide +kernel
theorem d_Md_read_463 : decode prog_14_method_29_code 463 = .ok (.iadd, 1) := by decide +kernel
theorem d_Md_read_464 : decode prog_14_method_29_code 464 = .ok (.aload_n 0, 1) := by decide +kernel
theorem d_Md_read_465 : decode prog_14_method_29_code 465 = .ok (.getfield 48, 3) := by decide +kernel
theorem d_Md_read_468 : decode prog_14_method_29_code 468 = .ok (.iload_n 1, 1) := by decide +kernel
theorem d_Md_read_469 : decode prog_14_method_29_code 469 = .ok (.iaload, 1) := by decide +kernel
theorem d_Md_read_470 : decode prog_14_method_29_code 470 = .ok (.iadd, 1) := by decide +kernel
theorem d_Md_read_471 : decode prog_14_method_29_code 471 = .ok (.dup2, 1) := by decide +kernel
theorem d_Md_read_472 : decode prog_14_method_29_code 472 = .ok (.iaload, 1) := by decide +kernel
theorem d_Md_read_473 : decode prog_14_method_29_code 473 = .ok (.iconst 1, 1) := by decide +kernel
theorem d_Md_read_474 : decode prog_14_method_29_code 474 = .ok (.aload_n 0, 1) := by decide +kernel
theorem d_Md_read_475 : decode prog_14_method_29_code 475 = .ok (.getfield 54, 3) := by decide +kernel
theorem d_Md_read_478 : decode prog_14_method_29_code 478 = .ok (.iload_n 1, 1) := by decide +kernel
theorem d_Md_read_479 : decode prog_14_method_29_code 479 = .ok (.iaload, 1) := by decide +kernel
theorem d_Md_read_480 : decode prog_14_method_29_code 480 = .ok (.ishl, 1) := by decide +kernel
theorem d_Md_read_481 : decode prog_14_method_29_code 481 = .ok (.ior, 1) := by decide +kernel
theorem d_Md_read_482 : decode prog_14_method_29_code 482 = .ok (.iastore, 1) := by decide +kernel
theorem d_Md_read_483 : decode prog_14_method_29_code 483 = .ok (.iinc 1 1, 3) := by decide +kernel
theorem d_Md_read_486 : decode prog_14_method_29_code 486 = .ok (.goto (-95), 3) := by decide +kernel
theorem d_Md_read_489 : decode prog_14_method_29_code 489 = .ok (.aload_n 0, 1) := by decide +kernel
theorem d_Md_read_490 : decode prog_14_method_29_code 490 = .ok (.aload_n 0, 1) := by decide +kernel
theorem d_Md_read_491 : decode prog_14_method_29_code 491 = .ok (.getfield 229, 3) := by decide +kernel
theorem d_Md_read_494 : decode prog_14_method_29_code 494 = .ok (.putfield 241, 3) := by decide +kernel
theorem d_Md_read_497 : decode prog_14_method_29_code 497 = .ok (.aload_n 0, 1) := by decide +kernel
theorem d_Md_read_498 : decode prog_14_method_29_code 498 = .ok (.getfield 232, 3) := by decide +kernel
theorem d_Md_read_501 : decode prog_14_method_29_code 501 = .ok (.ireturn, 1) := by decide +kernel
set_option maxHeartbeats 2000000 in
theorem Md_read_L228_g {κ : tv_Kt} (hC : tv_Cx κ "TiedViewsModel" prog_14_method_29_code 3 6) (hR : tv_Re κ (some .int)) (F : Nat) {k64 : tv_M → Option (Int32 × tv_M)} (hk64 : ∀ (M : tv_M), tv_G κ 3 (tv_Qm κ tv_ei) 64 [some (.ref (κ.b + 249)), none, none] [] M (k64 M)) (M : tv_M) : tv_G κ 3 (tv_Qm κ tv_ei) 228 [some (.ref (κ.b + 249)), none, none] [] M (Md_read_L228 F k64 M) := by
  rw [Md_read_L228]
  refine g_aload_n hC d_Md_read_228 rfl ?_
  refine fg_Md_168 hC lc_249 d_Md_read_229 ?_
  refine g_if_ne (tgt := 245) hC d_Md_read_232 (by decide) (fun _ => ?_) (fun _ => ?_)
  · refine g_goto (tgt := 64) hC d_Md_read_245 (by decide) ?_
    exact hk64 M
  · refine g_aload_n hC d_Md_read_235 rfl ?_
    refine g_aload_n hC d_Md_read_236 rfl ?_
    refine g_bipush hC d_Md_read_237 k_b59 ?_
    refine gv_callVi hC [.int 59] cw_Md_211 (Md_is_c F 59 M) lc_249 rfl rfl rfl rfl rfl rfl rfl d_Md_read_239 (fun r24 M25 => ?_)
    refine gv_callVv hC [.int r24] cw_Md_185 (Md_must_c F r24 M25) lc_249 rfl rfl rfl rfl rfl rfl rfl d_Md_read_242 (fun r26 M27 => ?_)
    refine g_goto (tgt := 64) hC d_Md_read_245 (by decide) ?_
    exact hk64 M27
set_option maxHeartbeats 2000000 in
theorem Md_read_L195_g {κ : tv_Kt} (hC : tv_Cx κ "TiedViewsModel" prog_14_method_29_code 3 6) (hR : tv_Re κ (some .int)) (F : Nat) {k64 : tv_M → Option (Int32 × tv_M)} (hk64 : ∀ (M : tv_M), tv_G κ 3 (tv_Qm κ tv_ei) 64 [some (.ref (κ.b + 249)), none, none] [] M (k64 M)) (l1 : Int64) (M : tv_M) : tv_G κ 3 (tv_Qm κ tv_ei) 195 [some (.ref (κ.b + 249)), some (.long l1), none] [] M (Md_read_L195 F k64 l1 M) := by
  rw [Md_read_L195]
  refine g_aload_n hC d_Md_read_195 rfl ?_
  refine fg_Md_168 hC lc_249 d_Md_read_196 ?_
  refine g_if_ne (tgt := 217) hC d_Md_read_199 (by decide) (fun _ => ?_) (fun _ => ?_)
  · refine g_aload_n hC d_Md_read_217 rfl ?_
    refine fg_Md_168 hC lc_249 d_Md_read_218 ?_
    refine g_if_ne (tgt := 228) hC d_Md_read_221 (by decide) (fun _ => ?_) (fun _ => ?_)
    · refine g_mask [true, false, false] (ls' := [some (.ref (κ.b + 249)), none, none]) rfl ?_
      exact Md_read_L228_g hC hR F hk64 M
    · refine g_aload_n hC d_Md_read_224 rfl ?_
      refine gv_callVv hC [] cw_Md_256 (Md_readBar_c F M) lc_249 rfl rfl rfl rfl rfl rfl rfl d_Md_read_225 (fun r28 M29 => ?_)
      refine g_mask [true, false, false] (ls' := [some (.ref (κ.b + 249)), none, none]) rfl ?_
      exact Md_read_L228_g hC hR F hk64 M29
  · refine g_lload_n hC d_Md_read_202 rfl ?_
    refine g_ldc2 hC d_Md_read_203 wl_Md_246 ?_
    refine g_lcmp hC d_Md_read_206 ?_
    refine g_if_ne (tgt := 217) hC d_Md_read_207 (by decide) (fun _ => ?_) (fun _ => ?_)
    · refine g_aload_n hC d_Md_read_217 rfl ?_
      refine fg_Md_168 hC lc_249 d_Md_read_218 ?_
      refine g_if_ne (tgt := 228) hC d_Md_read_221 (by decide) (fun _ => ?_) (fun _ => ?_)
      · refine g_mask [true, false, false] (ls' := [some (.ref (κ.b + 249)), none, none]) rfl ?_
        exact Md_read_L228_g hC hR F hk64 M
      · refine g_aload_n hC d_Md_read_224 rfl ?_
        refine gv_callVv hC [] cw_Md_256 (Md_readBar_c F M) lc_249 rfl rfl rfl rfl rfl rfl rfl d_Md_read_225 (fun r30 M31 => ?_)
        refine g_mask [true, false, false] (ls' := [some (.ref (κ.b + 249)), none, none]) rfl ?_
        exact Md_read_L228_g hC hR F hk64 M31
    · refine g_aload_n hC d_Md_read_210 rfl ?_
      refine gv_callVv hC [] cw_Md_253 (Md_readTie_c F M) lc_249 rfl rfl rfl rfl rfl rfl rfl d_Md_read_211 (fun r32 M33 => ?_)
      refine g_goto (tgt := 228) hC d_Md_read_214 (by decide) ?_
      refine g_mask [true, false, false] (ls' := [some (.ref (κ.b + 249)), none, none]) rfl ?_
      exact Md_read_L228_g hC hR F hk64 M33
set_option maxHeartbeats 2000000 in
theorem Md_read_L170_g {κ : tv_Kt} (hC : tv_Cx κ "TiedViewsModel" prog_14_method_29_code 3 6) (hR : tv_Re κ (some .int)) (F : Nat) {k64 : tv_M → Option (Int32 × tv_M)} (hk64 : ∀ (M : tv_M), tv_G κ 3 (tv_Qm κ tv_ei) 64 [some (.ref (κ.b + 249)), none, none] [] M (k64 M)) (l1 : Int64) (s0 : Int32) (M : tv_M) : tv_G κ 3 (tv_Qm κ tv_ei) 170 [some (.ref (κ.b + 249)), some (.long l1), none] [.int s0, .ref (κ.b + 249)] M (Md_read_L170 F k64 l1 s0 M) := by
  rw [Md_read_L170]
  refine gv_callVv hC [.int s0] cw_Md_185 (Md_must_c F s0 M) lc_249 rfl rfl rfl rfl rfl rfl rfl d_Md_read_170 (fun r20 M21 => ?_)
  refine g_aload_n hC d_Md_read_173 rfl ?_
  refine fg_Md_168 hC lc_249 d_Md_read_174 ?_
  refine g_if_ne (tgt := 195) hC d_Md_read_177 (by decide) (fun _ => ?_) (fun _ => ?_)
  · exact Md_read_L195_g hC hR F hk64 l1 M21
  · refine g_lload_n hC d_Md_read_180 rfl ?_
    refine g_ldc2 hC d_Md_read_181 wl_Md_244 ?_
    refine g_lcmp hC d_Md_read_184 ?_
    refine g_if_ne (tgt := 195) hC d_Md_read_185 (by decide) (fun _ => ?_) (fun _ => ?_)
    · exact Md_read_L195_g hC hR F hk64 l1 M21
    · refine g_aload_n hC d_Md_read_188 rfl ?_
      refine gv_callVv hC [] cw_Md_250 (Md_readEye_c F M21) lc_249 rfl rfl rfl rfl rfl rfl rfl d_Md_read_189 (fun r22 M23 => ?_)
      refine g_goto (tgt := 228) hC d_Md_read_192 (by decide) ?_
      refine g_mask [true, false, false] (ls' := [some (.ref (κ.b + 249)), none, none]) rfl ?_
      exact Md_read_L228_g hC hR F hk64 M23
set_option maxHeartbeats 2000000 in
theorem Md_read_L140_g {κ : tv_Kt} (hC : tv_Cx κ "TiedViewsModel" prog_14_method_29_code 3 6) (hR : tv_Re κ (some .int)) (F : Nat) {k64 : tv_M → Option (Int32 × tv_M)} (hk64 : ∀ (M : tv_M), tv_G κ 3 (tv_Qm κ tv_ei) 64 [some (.ref (κ.b + 249)), none, none] [] M (k64 M)) (l1 : Int64) (M : tv_M) : tv_G κ 3 (tv_Qm κ tv_ei) 140 [some (.ref (κ.b + 249)), some (.long l1), none] [] M (Md_read_L140 F k64 l1 M) := by
  rw [Md_read_L140]
  refine g_aload_n hC d_Md_read_140 rfl ?_
  refine g_lload_n hC d_Md_read_141 rfl ?_
  refine g_ldc2 hC d_Md_read_142 wl_Md_244 ?_
  refine g_lcmp hC d_Md_read_145 ?_
  refine g_if_eq (tgt := 165) hC d_Md_read_146 (by decide) (fun _ => ?_) (fun _ => ?_)
  · refine g_iconst hC d_Md_read_165 k_i1 ?_
    refine g_goto (tgt := 170) hC d_Md_read_166 (by decide) ?_
    exact Md_read_L170_g hC hR F hk64 l1 1 M
  · refine g_lload_n hC d_Md_read_149 rfl ?_
    refine g_ldc2 hC d_Md_read_150 wl_Md_246 ?_
    refine g_lcmp hC d_Md_read_153 ?_
    refine g_if_eq (tgt := 165) hC d_Md_read_154 (by decide) (fun _ => ?_) (fun _ => ?_)
    · refine g_iconst hC d_Md_read_165 k_i1 ?_
      refine g_goto (tgt := 170) hC d_Md_read_166 (by decide) ?_
      exact Md_read_L170_g hC hR F hk64 l1 1 M
    · refine g_lload_n hC d_Md_read_157 rfl ?_
      refine g_ldc2 hC d_Md_read_158 wl_Md_248 ?_
      refine g_lcmp hC d_Md_read_161 ?_
      refine g_if_ne (tgt := 169) hC d_Md_read_162 (by decide) (fun _ => ?_) (fun _ => ?_)
      · refine g_iconst hC d_Md_read_169 k_i0 ?_
        exact Md_read_L170_g hC hR F hk64 l1 0 M
      · refine g_iconst hC d_Md_read_165 k_i1 ?_
        refine g_goto (tgt := 170) hC d_Md_read_166 (by decide) ?_
        exact Md_read_L170_g hC hR F hk64 l1 1 M
set_option maxHeartbeats 2000000 in
theorem Md_read_L118_g {κ : tv_Kt} (hC : tv_Cx κ "TiedViewsModel" prog_14_method_29_code 3 6) (hR : tv_Re κ (some .int)) (F : Nat) {k64 : tv_M → Option (Int32 × tv_M)} (hk64 : ∀ (M : tv_M), tv_G κ 3 (tv_Qm κ tv_ei) 64 [some (.ref (κ.b + 249)), none, none] [] M (k64 M)) (l1 : Int64) (M : tv_M) : tv_G κ 3 (tv_Qm κ tv_ei) 118 [some (.ref (κ.b + 249)), some (.long l1), none] [] M (Md_read_L118 F k64 l1 M) := by
  rw [Md_read_L118]
  refine g_lload_n hC d_Md_read_118 rfl ?_
  refine g_ldc2 hC d_Md_read_119 wl_Md_248 ?_
  refine g_lcmp hC d_Md_read_122 ?_
  refine g_if_ne (tgt := 140) hC d_Md_read_123 (by decide) (fun _ => ?_) (fun _ => ?_)
  · exact Md_read_L140_g hC hR F hk64 l1 M
  · refine g_aload_n hC d_Md_read_126 rfl ?_
    refine fg_Md_229 hC lc_249 d_Md_read_127 ?_
    refine g_bipush hC d_Md_read_130 k_b30 ?_
    refine g_icmp_ne (tgt := 140) hC d_Md_read_132 (by decide) (fun _ => ?_) (fun _ => ?_)
    · exact Md_read_L140_g hC hR F hk64 l1 M
    · refine g_aload_n hC d_Md_read_135 rfl ?_
      refine g_iconst hC d_Md_read_136 k_i3 ?_
      refine gv_callVv hC [.int 3] cw_Md_174 (Md_bad_c F 3 M) lc_249 rfl rfl rfl rfl rfl rfl rfl d_Md_read_137 (fun r18 M19 => ?_)
      exact Md_read_L140_g hC hR F hk64 l1 M19
set_option maxHeartbeats 2000000 in
theorem Md_read_L101_g {κ : tv_Kt} (hC : tv_Cx κ "TiedViewsModel" prog_14_method_29_code 3 6) (hR : tv_Re κ (some .int)) (F : Nat) {k64 : tv_M → Option (Int32 × tv_M)} (hk64 : ∀ (M : tv_M), tv_G κ 3 (tv_Qm κ tv_ei) 64 [some (.ref (κ.b + 249)), none, none] [] M (k64 M)) (l1 : Int64) (M : tv_M) : tv_G κ 3 (tv_Qm κ tv_ei) 101 [some (.ref (κ.b + 249)), some (.long l1), none] [] M (Md_read_L101 F k64 l1 M) := by
  rw [Md_read_L101]
  refine g_lload_n hC d_Md_read_101 rfl ?_
  refine g_ldc2 hC d_Md_read_102 wl_Md_246 ?_
  refine g_lcmp hC d_Md_read_105 ?_
  refine g_if_ne (tgt := 118) hC d_Md_read_106 (by decide) (fun _ => ?_) (fun _ => ?_)
  · exact Md_read_L118_g hC hR F hk64 l1 M
  · refine g_aload_n hC d_Md_read_109 rfl ?_
    refine fg_Md_220 hC lc_249 d_Md_read_110 ?_
    refine g_bipush hC d_Md_read_113 k_b10 ?_
    refine g_icmp_eq (tgt := 135) hC d_Md_read_115 (by decide) (fun _ => ?_) (fun _ => ?_)
    · refine g_aload_n hC d_Md_read_135 rfl ?_
      refine g_iconst hC d_Md_read_136 k_i3 ?_
      refine gv_callVv hC [.int 3] cw_Md_174 (Md_bad_c F 3 M) lc_249 rfl rfl rfl rfl rfl rfl rfl d_Md_read_137 (fun r16 M17 => ?_)
      exact Md_read_L140_g hC hR F hk64 l1 M17
    · exact Md_read_L118_g hC hR F hk64 l1 M
set_option maxHeartbeats 2000000 in
theorem Md_read_L391_g {κ : tv_Kt} (hC : tv_Cx κ "TiedViewsModel" prog_14_method_29_code 3 6) (hR : tv_Re κ (some .int)) (F : Nat) : ∀ (n : Nat) (l1 : Int32) (M : tv_M), tv_G κ 3 (tv_Qm κ tv_ei) 391 [some (.ref (κ.b + 249)), some (.int l1), none] [] M (Md_read_L391 F n l1 M) := by
  intro n
  induction n with
  | zero => intro _ _; exact g_none
  | succ nn ih =>
    intro l1 M
    rw [Md_read_L391]
    refine g_iload_n hC d_Md_read_391 rfl ?_
    refine g_aload_n hC d_Md_read_392 rfl ?_
    refine fg_Md_229 hC lc_249 d_Md_read_393 ?_
    refine g_icmp_ge (tgt := 489) hC d_Md_read_396 (by decide) (fun _ => ?_) (fun _ => ?_)
    · refine g_aload_n hC d_Md_read_489 rfl ?_
      refine g_aload_n hC d_Md_read_490 rfl ?_
      refine fg_Md_229 hC lc_249 d_Md_read_491 ?_
      refine fp_Md_241 hC lc_249 d_Md_read_494 (fun M46 => ?_)
      refine g_aload_n hC d_Md_read_497 rfl ?_
      refine fg_Md_232 hC lc_249 d_Md_read_498 ?_
      exact g_iret hC hR d_Md_read_501
    · refine g_aload_n hC d_Md_read_399 rfl ?_
      refine fg_Md_60 hC lc_249 d_Md_read_400 p0_249_21 ?_
      refine g_bipush hC d_Md_read_403 k_b32 ?_
      refine g_aload_n hC d_Md_read_405 rfl ?_
      refine fg_Md_48 hC lc_249 d_Md_read_406 p0_249_17 ?_
      refine g_iload_n hC d_Md_read_409 rfl ?_
      refine gv_iald hC ly_260 d_Md_read_410 (fun x47 => ?_)
      refine g_imul hC d_Md_read_411 ?_
      refine g_bipush hC d_Md_read_412 k_b8 ?_
      refine g_aload_n hC d_Md_read_414 rfl ?_
      refine fg_Md_54 hC lc_249 d_Md_read_415 p0_249_19 ?_
      refine g_iload_n hC d_Md_read_418 rfl ?_
      refine gv_iald hC ly_262 d_Md_read_419 (fun x48 => ?_)
      refine g_imul hC d_Md_read_420 ?_
      refine g_iadd hC d_Md_read_421 ?_
      refine g_aload_n hC d_Md_read_422 rfl ?_
      refine fg_Md_51 hC lc_249 d_Md_read_423 p0_249_18 ?_
      refine g_iload_n hC d_Md_read_426 rfl ?_
      refine gv_iald hC ly_261 d_Md_read_427 (fun x49 => ?_)
      refine g_iadd hC d_Md_read_428 ?_
      refine g_dup2 hC d_Md_read_429 rfl rfl ?_
      refine gv_iald hC ly_264 d_Md_read_430 (fun x50 => ?_)
      refine g_iconst hC d_Md_read_431 k_i1 ?_
      refine g_aload_n hC d_Md_read_432 rfl ?_
      refine fg_Md_57 hC lc_249 d_Md_read_433 p0_249_20 ?_
      refine g_iload_n hC d_Md_read_436 rfl ?_
      refine gv_iald hC ly_263 d_Md_read_437 (fun x51 => ?_)
      refine g_ishl hC d_Md_read_438 ?_
      refine g_ior hC d_Md_read_439 ?_
      refine gv_iast hC ly_264 d_Md_read_440 (fun M52 => ?_)
      refine g_aload_n hC d_Md_read_441 rfl ?_
      refine fg_Md_60 hC lc_249 d_Md_read_442 p0_249_21 ?_
      refine g_bipush hC d_Md_read_445 k_b32 ?_
      refine g_aload_n hC d_Md_read_447 rfl ?_
      refine fg_Md_51 hC lc_249 d_Md_read_448 p0_249_18 ?_
      refine g_iload_n hC d_Md_read_451 rfl ?_
      refine gv_iald hC ly_261 d_Md_read_452 (fun x53 => ?_)
      refine g_imul hC d_Md_read_453 ?_
      refine g_bipush hC d_Md_read_454 k_b8 ?_
      refine g_aload_n hC d_Md_read_456 rfl ?_
      refine fg_Md_57 hC lc_249 d_Md_read_457 p0_249_20 ?_
      refine g_iload_n hC d_Md_read_460 rfl ?_
      refine gv_iald hC ly_263 d_Md_read_461 (fun x54 => ?_)
      refine g_imul hC d_Md_read_462 ?_
      refine g_iadd hC d_Md_read_463 ?_
      refine g_aload_n hC d_Md_read_464 rfl ?_
      refine fg_Md_48 hC lc_249 d_Md_read_465 p0_249_17 ?_
      refine g_iload_n hC d_Md_read_468 rfl ?_
      refine gv_iald hC ly_260 d_Md_read_469 (fun x55 => ?_)
      refine g_iadd hC d_Md_read_470 ?_
      refine g_dup2 hC d_Md_read_471 rfl rfl ?_
      refine gv_iald hC ly_264 d_Md_read_472 (fun x56 => ?_)
      refine g_iconst hC d_Md_read_473 k_i1 ?_
      refine g_aload_n hC d_Md_read_474 rfl ?_
      refine fg_Md_54 hC lc_249 d_Md_read_475 p0_249_19 ?_
      refine g_iload_n hC d_Md_read_478 rfl ?_
      refine gv_iald hC ly_262 d_Md_read_479 (fun x57 => ?_)
      refine g_ishl hC d_Md_read_480 ?_
      refine g_ior hC d_Md_read_481 ?_
      refine gv_iast hC ly_264 d_Md_read_482 (fun M58 => ?_)
      refine g_iinc (ls' := [some (.ref (κ.b + 249)), some (.int (l1 + 1)), none]) hC d_Md_read_483 rfl k_i1 rfl rfl ?_
      refine g_goto (tgt := 391) hC d_Md_read_486 (by decide) ?_
      exact ih (l1 + 1) M58
set_option maxHeartbeats 2000000 in
theorem Md_read_L341_g {κ : tv_Kt} (hC : tv_Cx κ "TiedViewsModel" prog_14_method_29_code 3 6) (hR : tv_Re κ (some .int)) (F : Nat) : ∀ (n : Nat) (l1 : Int32) (M : tv_M), tv_G κ 3 (tv_Qm κ tv_ei) 341 [some (.ref (κ.b + 249)), some (.int l1), none] [] M (Md_read_L341 F n l1 M) := by
  intro n
  induction n with
  | zero => intro _ _; exact g_none
  | succ nn ih =>
    intro l1 M
    rw [Md_read_L341]
    refine g_iload_n hC d_Md_read_341 rfl ?_
    refine g_aload_n hC d_Md_read_342 rfl ?_
    refine fg_Md_208 hC lc_249 d_Md_read_343 ?_
    refine g_icmp_ge (tgt := 362) hC d_Md_read_346 (by decide) (fun _ => ?_) (fun _ => ?_)
    · refine g_aload_n hC d_Md_read_362 rfl ?_
      refine g_aload_n hC d_Md_read_363 rfl ?_
      refine fg_Md_189 hC lc_249 d_Md_read_364 ?_
      refine fp_Md_232 hC lc_249 d_Md_read_367 (fun M42 => ?_)
      refine g_aload_n hC d_Md_read_370 rfl ?_
      refine g_aload_n hC d_Md_read_371 rfl ?_
      refine fg_Md_208 hC lc_249 d_Md_read_372 ?_
      refine fp_Md_235 hC lc_249 d_Md_read_375 (fun M43 => ?_)
      refine g_aload_n hC d_Md_read_378 rfl ?_
      refine g_aload_n hC d_Md_read_379 rfl ?_
      refine fg_Md_220 hC lc_249 d_Md_read_380 ?_
      refine fp_Md_238 hC lc_249 d_Md_read_383 (fun M44 => ?_)
      refine g_aload_n hC d_Md_read_386 rfl ?_
      refine fg_Md_241 hC lc_249 d_Md_read_387 ?_
      refine g_istore_n (ls' := [some (.ref (κ.b + 249)), some (.int (M44.1 249 16)), none]) hC d_Md_read_390 rfl rfl ?_
      exact Md_read_L391_g hC hR F F (M44.1 249 16) M44
    · refine g_aload_n hC d_Md_read_349 rfl ?_
      refine fg_Md_91 hC lc_249 d_Md_read_350 p0_249_46 ?_
      refine g_iload_n hC d_Md_read_353 rfl ?_
      refine g_iconst hC d_Md_read_354 k_i0 ?_
      refine gv_iast hC ly_274 d_Md_read_355 (fun M45 => ?_)
      refine g_iinc (ls' := [some (.ref (κ.b + 249)), some (.int (l1 + 1)), none]) hC d_Md_read_356 rfl k_i1 rfl rfl ?_
      refine g_goto (tgt := 341) hC d_Md_read_359 (by decide) ?_
      exact ih (l1 + 1) M45
set_option maxHeartbeats 2000000 in
theorem Md_read_L277_g {κ : tv_Kt} (hC : tv_Cx κ "TiedViewsModel" prog_14_method_29_code 3 6) (hR : tv_Re κ (some .int)) (F : Nat) : ∀ (n : Nat) (l1 : Int32) (M : tv_M), tv_G κ 3 (tv_Qm κ tv_ei) 277 [some (.ref (κ.b + 249)), some (.int l1), none] [] M (Md_read_L277 F n l1 M) := by
  intro n
  induction n with
  | zero => intro _ _; exact g_none
  | succ nn ih =>
    intro l1 M
    rw [Md_read_L277]
    refine g_iload_n hC d_Md_read_277 rfl ?_
    refine g_aload_n hC d_Md_read_278 rfl ?_
    refine fg_Md_189 hC lc_249 d_Md_read_279 ?_
    refine g_icmp_ge (tgt := 336) hC d_Md_read_282 (by decide) (fun _ => ?_) (fun _ => ?_)
    · refine g_aload_n hC d_Md_read_336 rfl ?_
      refine fg_Md_235 hC lc_249 d_Md_read_337 ?_
      refine g_istore_n (ls' := [some (.ref (κ.b + 249)), some (.int (M.1 249 10)), none]) hC d_Md_read_340 rfl rfl ?_
      exact Md_read_L341_g hC hR F F (M.1 249 10) M
    · refine g_aload_n hC d_Md_read_285 rfl ?_
      refine fg_Md_79 hC lc_249 d_Md_read_286 p0_249_41 ?_
      refine g_iload_n hC d_Md_read_289 rfl ?_
      refine g_iconst hC d_Md_read_290 k_i0 ?_
      refine gv_zast hC ly_270 d_Md_read_291 (fun M35 => ?_)
      refine g_aload_n hC d_Md_read_292 rfl ?_
      refine fg_Md_63 hC lc_249 d_Md_read_293 p0_249_22 ?_
      refine g_iload_n hC d_Md_read_296 rfl ?_
      refine g_aload_n hC d_Md_read_297 rfl ?_
      refine fg_Md_27 hC lc_249 d_Md_read_298 p0_249_7 ?_
      refine g_iload_n hC d_Md_read_301 rfl ?_
      refine gv_iald hC ly_253 d_Md_read_302 (fun x36 => ?_)
      refine g_iconst hC d_Md_read_303 k_i3 ?_
      refine g_icmp_ne (tgt := 320) hC d_Md_read_304 (by decide) (fun _ => ?_) (fun _ => ?_)
      · refine g_iconst hC d_Md_read_320 k_i0 ?_
        refine gv_iast hC ly_265 d_Md_read_321 (fun M37 => ?_)
        refine g_aload_n hC d_Md_read_322 rfl ?_
        refine fg_Md_85 hC lc_249 d_Md_read_323 p0_249_44 ?_
        refine g_iload_n hC d_Md_read_326 rfl ?_
        refine g_ldc hC d_Md_read_327 wk_Md_146 ?_
        refine gv_iast hC ly_272 d_Md_read_329 (fun M38 => ?_)
        refine g_iinc (ls' := [some (.ref (κ.b + 249)), some (.int (l1 + 1)), none]) hC d_Md_read_330 rfl k_i1 rfl rfl ?_
        refine g_goto (tgt := 277) hC d_Md_read_333 (by decide) ?_
        exact ih (l1 + 1) M38
      · refine g_iconst hC d_Md_read_307 k_i1 ?_
        refine g_aload_n hC d_Md_read_308 rfl ?_
        refine fg_Md_30 hC lc_249 d_Md_read_309 p0_249_8 ?_
        refine g_iload_n hC d_Md_read_312 rfl ?_
        refine gv_iald hC ly_254 d_Md_read_313 (fun x39 => ?_)
        refine g_ishl hC d_Md_read_314 ?_
        refine g_iconst hC d_Md_read_315 k_i1 ?_
        refine g_isub hC d_Md_read_316 ?_
        refine g_goto (tgt := 321) hC d_Md_read_317 (by decide) ?_
        refine gv_iast hC ly_265 d_Md_read_321 (fun M40 => ?_)
        refine g_aload_n hC d_Md_read_322 rfl ?_
        refine fg_Md_85 hC lc_249 d_Md_read_323 p0_249_44 ?_
        refine g_iload_n hC d_Md_read_326 rfl ?_
        refine g_ldc hC d_Md_read_327 wk_Md_146 ?_
        refine gv_iast hC ly_272 d_Md_read_329 (fun M41 => ?_)
        refine g_iinc (ls' := [some (.ref (κ.b + 249)), some (.int (l1 + 1)), none]) hC d_Md_read_330 rfl k_i1 rfl rfl ?_
        refine g_goto (tgt := 277) hC d_Md_read_333 (by decide) ?_
        exact ih (l1 + 1) M41
set_option maxHeartbeats 2000000 in
theorem Md_read_L248_g {κ : tv_Kt} (hC : tv_Cx κ "TiedViewsModel" prog_14_method_29_code 3 6) (hR : tv_Re κ (some .int)) (F : Nat) (M : tv_M) : tv_G κ 3 (tv_Qm κ tv_ei) 248 [some (.ref (κ.b + 249)), none, none] [] M (Md_read_L248 F M) := by
  rw [Md_read_L248]
  refine g_aload_n hC d_Md_read_248 rfl ?_
  refine fg_Md_168 hC lc_249 d_Md_read_249 ?_
  refine g_if_le (tgt := 272) hC d_Md_read_252 (by decide) (fun _ => ?_) (fun _ => ?_)
  · refine g_aload_n hC d_Md_read_272 rfl ?_
    refine fg_Md_232 hC lc_249 d_Md_read_273 ?_
    refine g_istore_n (ls' := [some (.ref (κ.b + 249)), some (.int (M.1 249 6)), none]) hC d_Md_read_276 rfl rfl ?_
    exact Md_read_L277_g hC hR F F (M.1 249 6) M
  · refine g_aload_n hC d_Md_read_255 rfl ?_
    refine g_aload_n hC d_Md_read_256 rfl ?_
    refine fg_Md_168 hC lc_249 d_Md_read_257 ?_
    refine fp_Md_259 hC lc_249 d_Md_read_260 (fun M34 => ?_)
    refine g_ldcw hC d_Md_read_263 wk_Md_262 ?_
    refine g_aload_n hC d_Md_read_266 rfl ?_
    refine fg_Md_171 hC lc_249 d_Md_read_267 ?_
    refine g_isub hC d_Md_read_270 ?_
    exact g_iret hC hR d_Md_read_271
set_option maxHeartbeats 2000000 in
theorem Md_read_L64_g {κ : tv_Kt} (hC : tv_Cx κ "TiedViewsModel" prog_14_method_29_code 3 6) (hR : tv_Re κ (some .int)) (F : Nat) : ∀ (n : Nat) (M : tv_M), tv_G κ 3 (tv_Qm κ tv_ei) 64 [some (.ref (κ.b + 249)), none, none] [] M (Md_read_L64 F n M) := by
  intro n
  induction n with
  | zero => intro _; exact g_none
  | succ nn ih =>
    intro M
    rw [Md_read_L64]
    refine g_aload_n hC d_Md_read_64 rfl ?_
    refine fg_Md_168 hC lc_249 d_Md_read_65 ?_
    refine g_if_ne (tgt := 248) hC d_Md_read_68 (by decide) (fun _ => ?_) (fun _ => ?_)
    · exact Md_read_L248_g hC hR F M
    · refine g_aload_n hC d_Md_read_71 rfl ?_
      refine fg_Md_156 hC lc_249 d_Md_read_72 ?_
      refine g_iconst hC d_Md_read_75 k_i1 ?_
      refine g_icmp_eq (tgt := 248) hC d_Md_read_76 (by decide) (fun _ => ?_) (fun _ => ?_)
      · exact Md_read_L248_g hC hR F M
      · refine g_aload_n hC d_Md_read_79 rfl ?_
        refine gv_callVj hC [] cw_Md_192 (Md_word_c F M) lc_249 rfl rfl rfl rfl rfl rfl rfl d_Md_read_80 (fun r12 M13 => ?_)
        refine g_lstore_n (ls' := [some (.ref (κ.b + 249)), some (.long r12), none]) hC d_Md_read_83 rfl rfl ?_
        refine g_lload_n hC d_Md_read_84 rfl ?_
        refine g_ldc2 hC d_Md_read_85 wl_Md_244 ?_
        refine g_lcmp hC d_Md_read_88 ?_
        refine g_if_ne (tgt := 101) hC d_Md_read_89 (by decide) (fun _ => ?_) (fun _ => ?_)
        · exact Md_read_L101_g hC hR F ih r12 M13
        · refine g_aload_n hC d_Md_read_92 rfl ?_
          refine fg_Md_189 hC lc_249 d_Md_read_93 ?_
          refine g_bipush hC d_Md_read_96 k_b8 ?_
          refine g_icmp_eq (tgt := 135) hC d_Md_read_98 (by decide) (fun _ => ?_) (fun _ => ?_)
          · refine g_aload_n hC d_Md_read_135 rfl ?_
            refine g_iconst hC d_Md_read_136 k_i3 ?_
            refine gv_callVv hC [.int 3] cw_Md_174 (Md_bad_c F 3 M13) lc_249 rfl rfl rfl rfl rfl rfl rfl d_Md_read_137 (fun r14 M15 => ?_)
            exact Md_read_L140_g hC hR F ih r12 M15
          · exact Md_read_L101_g hC hR F ih r12 M13
set_option maxHeartbeats 2000000 in
theorem Md_read_c {l : Launch} {θ : tv_Th} (F : Nat) (M : tv_M) : tv_Ct l θ ⟨"TiedViewsModel", "read", "()I"⟩ prog_14_method_29_code 3 (some .int) 6 tv_ei [.ref (θ.1 + 249)] M (Md_read F M) := by
  refine tv_ofG [some (.ref (θ.1 + 249)), none, none] rfl rfl (tv_ent 2 rfl) ?_
  intro κ hl ht hC hR
  subst hl; subst ht
  unfold Md_read
  refine g_aload_n hC d_Md_read_0 rfl ?_
  refine g_iconst hC d_Md_read_1 k_i0 ?_
  refine fp_Md_1 hC lc_249 d_Md_read_2 (fun M1 => ?_)
  refine g_aload_n hC d_Md_read_5 rfl ?_
  refine g_aload_n hC d_Md_read_6 rfl ?_
  refine fg_Md_137 hC lc_249 d_Md_read_7 ?_
  refine fp_Md_143 hC lc_249 d_Md_read_10 (fun M2 => ?_)
  refine g_aload_n hC d_Md_read_13 rfl ?_
  refine g_iconst hC d_Md_read_14 k_i0 ?_
  refine fp_Md_137 hC lc_249 d_Md_read_15 (fun M3 => ?_)
  refine g_aload_n hC d_Md_read_18 rfl ?_
  refine g_iconst hC d_Md_read_19 k_i0 ?_
  refine fp_Md_147 hC lc_249 d_Md_read_20 (fun M4 => ?_)
  refine g_aload_n hC d_Md_read_23 rfl ?_
  refine g_iconst hC d_Md_read_24 k_i0 ?_
  refine fp_Md_168 hC lc_249 d_Md_read_25 (fun M5 => ?_)
  refine g_aload_n hC d_Md_read_28 rfl ?_
  refine g_aload_n hC d_Md_read_29 rfl ?_
  refine fg_Md_232 hC lc_249 d_Md_read_30 ?_
  refine fp_Md_189 hC lc_249 d_Md_read_33 (fun M6 => ?_)
  refine g_aload_n hC d_Md_read_36 rfl ?_
  refine g_aload_n hC d_Md_read_37 rfl ?_
  refine fg_Md_235 hC lc_249 d_Md_read_38 ?_
  refine fp_Md_208 hC lc_249 d_Md_read_41 (fun M7 => ?_)
  refine g_aload_n hC d_Md_read_44 rfl ?_
  refine g_aload_n hC d_Md_read_45 rfl ?_
  refine fg_Md_238 hC lc_249 d_Md_read_46 ?_
  refine fp_Md_220 hC lc_249 d_Md_read_49 (fun M8 => ?_)
  refine g_aload_n hC d_Md_read_52 rfl ?_
  refine g_aload_n hC d_Md_read_53 rfl ?_
  refine fg_Md_241 hC lc_249 d_Md_read_54 ?_
  refine fp_Md_229 hC lc_249 d_Md_read_57 (fun M9 => ?_)
  refine g_aload_n hC d_Md_read_60 rfl ?_
  refine gv_callVv hC [] cw_Md_178 (Md_step_c F M9) lc_249 rfl rfl rfl rfl rfl rfl rfl d_Md_read_61 (fun r10 M11 => ?_)
  exact Md_read_L64_g hC hR F F M11
theorem d_Md_fault_0 : decode prog_14_method_30_code 0 = .ok (.aload_n 0, 1) := by decide +kernel
theorem d_Md_fault_1 : decode prog_14_method_30_code 1 = .ok (.iconst 0, 1) := by decide +kernel
theorem d_Md_fault_2 : decode prog_14_method_30_code 2 = .ok (.putfield 1, 3) := by decide +kernel
theorem d_Md_fault_5 : decode prog_14_method_30_code 5 = .ok (.aload_n 0, 1) := by decide +kernel
theorem d_Md_fault_6 : decode prog_14_method_30_code 6 = .ok (.getfield 259, 3) := by decide +kernel
theorem d_Md_fault_9 : decode prog_14_method_30_code 9 = .ok (.ireturn, 1) := by decide +kernel
set_option maxHeartbeats 2000000 in
theorem Md_fault_c {l : Launch} {θ : tv_Th} (F : Nat) (M : tv_M) : tv_Ct l θ ⟨"TiedViewsModel", "fault", "()I"⟩ prog_14_method_30_code 1 (some .int) 0 tv_ei [.ref (θ.1 + 249)] M (Md_fault F M) := by
  refine tv_ofG [some (.ref (θ.1 + 249))] rfl rfl (tv_ent 0 rfl) ?_
  intro κ hl ht hC hR
  subst hl; subst ht
  unfold Md_fault
  refine g_aload_n hC d_Md_fault_0 rfl ?_
  refine g_iconst hC d_Md_fault_1 k_i0 ?_
  refine fp_Md_1 hC lc_249 d_Md_fault_2 (fun M1 => ?_)
  refine g_aload_n hC d_Md_fault_5 rfl ?_
  refine fg_Md_259 hC lc_249 d_Md_fault_6 ?_
  exact g_iret hC hR d_Md_fault_9
theorem d_Md_isEye_0 : decode prog_14_method_31_code 0 = .ok (.iload_n 1, 1) := by decide +kernel
theorem d_Md_isEye_1 : decode prog_14_method_31_code 1 = .ok (.i2l, 1) := by decide +kernel
theorem d_Md_isEye_2 : decode prog_14_method_31_code 2 = .ok (.lconst 0, 1) := by decide +kernel
theorem d_Md_isEye_3 : decode prog_14_method_31_code 3 = .ok (.aload_n 0, 1) := by decide +kernel
theorem d_Md_isEye_4 : decode prog_14_method_31_code 4 = .ok (.getfield 232, 3) := by decide +kernel
theorem d_Md_isEye_7 : decode prog_14_method_31_code 7 = .ok (.iconst 1, 1) := by decide +kernel
theorem d_Md_isEye_8 : decode prog_14_method_31_code 8 = .ok (.isub, 1) := by decide +kernel
theorem d_Md_isEye_9 : decode prog_14_method_31_code 9 = .ok (.i2l, 1) := by decide +kernel
theorem d_Md_isEye_10 : decode prog_14_method_31_code 10 = .ok (.invokestatic 115, 3) := by decide +kernel
theorem d_Md_isEye_13 : decode prog_14_method_31_code 13 = .ok (.ireturn, 1) := by decide +kernel
set_option maxHeartbeats 2000000 in
theorem Md_isEye_c {l : Launch} {θ : tv_Th} (F : Nat) (a1 : Int32) (M : tv_M) : tv_Ct l θ ⟨"TiedViewsModel", "isEye", "(I)Z"⟩ prog_14_method_31_code 2 (some .boolean) 1 tv_ei [.ref (θ.1 + 249), .int a1] M (Md_isEye F a1 M) := by
  refine tv_ofG [some (.ref (θ.1 + 249)), some (.int a1)] rfl rfl (tv_ent 0 rfl) ?_
  intro κ hl ht hC hR
  subst hl; subst ht
  unfold Md_isEye
  refine g_iload_n hC d_Md_isEye_0 rfl ?_
  refine g_i2l hC d_Md_isEye_1 ?_
  refine g_lconst hC d_Md_isEye_2 k_l0 ?_
  refine g_aload_n hC d_Md_isEye_3 rfl ?_
  refine fg_Md_232 hC lc_249 d_Md_isEye_4 ?_
  refine g_iconst hC d_Md_isEye_7 k_i1 ?_
  refine g_isub hC d_Md_isEye_8 ?_
  refine g_i2l hC d_Md_isEye_9 ?_
  refine gv_callSi hC [.long ((a1 : Int32).toInt64), .long 0, .long (((M.1 249 6) - 1 : Int32).toInt64)] cw_Md_115 (Md_in_c F ((a1 : Int32).toInt64) 0 (((M.1 249 6) - 1 : Int32).toInt64) M) rfl rfl rfl rfl rfl d_Md_isEye_10 (fun r1 M2 => ?_)
  refine g_zo (fun z3 => ?_)
  exact g_zret hC hR z3 d_Md_isEye_13
theorem d_Md_tiesOf_0 : decode prog_14_method_34_code 0 = .ok (.iconst 0, 1) := by decide +kernel
theorem d_Md_tiesOf_1 : decode prog_14_method_34_code 1 = .ok (.istore_n 2, 1) := by decide +kernel
theorem d_Md_tiesOf_2 : decode prog_14_method_34_code 2 = .ok (.iconst 0, 1) := by decide +kernel
theorem d_Md_tiesOf_3 : decode prog_14_method_34_code 3 = .ok (.istore_n 3, 1) := by decide +kernel
theorem d_Md_tiesOf_4 : decode prog_14_method_34_code 4 = .ok (.iload_n 3, 1) := by decide +kernel
theorem d_Md_tiesOf_5 : decode prog_14_method_34_code 5 = .ok (.aload_n 0, 1) := by decide +kernel
theorem d_Md_tiesOf_6 : decode prog_14_method_34_code 6 = .ok (.getfield 238, 3) := by decide +kernel
theorem d_Md_tiesOf_9 : decode prog_14_method_34_code 9 = .ok (.if_icmp .ge 37, 3) := by decide +kernel
theorem d_Md_tiesOf_12 : decode prog_14_method_34_code 12 = .ok (.iload_n 2, 1) := by decide +kernel
theorem d_Md_tiesOf_13 : decode prog_14_method_34_code 13 = .ok (.aload_n 0, 1) := by decide +kernel
theorem d_Md_tiesOf_14 : decode prog_14_method_34_code 14 = .ok (.getfield 36, 3) := by decide +kernel
theorem d_Md_tiesOf_17 : decode prog_14_method_34_code 17 = .ok (.iload_n 3, 1) := by decide +kernel
theorem d_Md_tiesOf_18 : decode prog_14_method_34_code 18 = .ok (.iaload, 1) := by decide +kernel
theorem d_Md_tiesOf_19 : decode prog_14_method_34_code 19 = .ok (.iload_n 1, 1) := by decide +kernel
theorem d_Md_tiesOf_20 : decode prog_14_method_34_code 20 = .ok (.if_icmp .eq 13, 3) := by decide +kernel
theorem d_Md_tiesOf_23 : decode prog_14_method_34_code 23 = .ok (.aload_n 0, 1) := by decide +kernel
theorem d_Md_tiesOf_24 : decode prog_14_method_34_code 24 = .ok (.getfield 39, 3) := by decide +kernel
theorem d_Md_tiesOf_27 : decode prog_14_method_34_code 27 = .ok (.iload_n 3, 1) := by decide +kernel
theorem d_Md_tiesOf_28 : decode prog_14_method_34_code 28 = .ok (.iaload, 1) := by decide +kernel
theorem d_Md_tiesOf_29 : decode prog_14_method_34_code 29 = .ok (.iload_n 1, 1) := by decide +kernel
theorem d_Md_tiesOf_30 : decode prog_14_method_34_code 30 = .ok (.if_icmp .ne 7, 3) := by decide +kernel
theorem d_Md_tiesOf_33 : decode prog_14_method_34_code 33 = .ok (.iconst 1, 1) := by decide +kernel
theorem d_Md_tiesOf_34 : decode prog_14_method_34_code 34 = .ok (.goto 4, 3) := by decide +kernel
theorem d_Md_tiesOf_37 : decode prog_14_method_34_code 37 = .ok (.iconst 0, 1) := by decide +kernel
theorem d_Md_tiesOf_38 : decode prog_14_method_34_code 38 = .ok (.iadd, 1) := by decide +kernel
theorem d_Md_tiesOf_39 : decode prog_14_method_34_code 39 = .ok (.istore_n 2, 1) := by decide +kernel
theorem d_Md_tiesOf_40 : decode prog_14_method_34_code 40 = .ok (.iinc 3 1, 3) := by decide +kernel
theorem d_Md_tiesOf_43 : decode prog_14_method_34_code 43 = .ok (.goto (-39), 3) := by decide +kernel
theorem d_Md_tiesOf_46 : decode prog_14_method_34_code 46 = .ok (.iload_n 2, 1) := by decide +kernel
theorem d_Md_tiesOf_47 : decode prog_14_method_34_code 47 = .ok (.ireturn, 1) := by decide +kernel
set_option maxHeartbeats 2000000 in
theorem Md_tiesOf_L4_g {κ : tv_Kt} (hC : tv_Cx κ "TiedViewsModel" prog_14_method_34_code 4 0) (hR : tv_Re κ (some .int)) (F : Nat) : ∀ (n : Nat) (l1 : Int32) (l2 : Int32) (l3 : Int32) (M : tv_M), tv_G κ 4 (tv_Qm κ tv_ei) 4 [some (.ref (κ.b + 249)), some (.int l1), some (.int l2), some (.int l3)] [] M (Md_tiesOf_L4 F n l1 l2 l3 M) := by
  intro n
  induction n with
  | zero => intro _ _ _ _; exact g_none
  | succ nn ih =>
    intro l1 l2 l3 M
    rw [Md_tiesOf_L4]
    refine g_iload_n hC d_Md_tiesOf_4 rfl ?_
    refine g_aload_n hC d_Md_tiesOf_5 rfl ?_
    refine fg_Md_238 hC lc_249 d_Md_tiesOf_6 ?_
    refine g_icmp_ge (tgt := 46) hC d_Md_tiesOf_9 (by decide) (fun _ => ?_) (fun _ => ?_)
    · refine g_iload_n hC d_Md_tiesOf_46 rfl ?_
      exact g_iret hC hR d_Md_tiesOf_47
    · refine g_iload_n hC d_Md_tiesOf_12 rfl ?_
      refine g_aload_n hC d_Md_tiesOf_13 rfl ?_
      refine fg_Md_36 hC lc_249 d_Md_tiesOf_14 p0_249_12 ?_
      refine g_iload_n hC d_Md_tiesOf_17 rfl ?_
      refine gv_iald hC ly_256 d_Md_tiesOf_18 (fun x1 => ?_)
      refine g_iload_n hC d_Md_tiesOf_19 rfl ?_
      refine g_icmp_eq (tgt := 33) hC d_Md_tiesOf_20 (by decide) (fun _ => ?_) (fun _ => ?_)
      · refine g_iconst hC d_Md_tiesOf_33 k_i1 ?_
        refine g_goto (tgt := 38) hC d_Md_tiesOf_34 (by decide) ?_
        refine g_iadd hC d_Md_tiesOf_38 ?_
        refine g_istore_n (ls' := [some (.ref (κ.b + 249)), some (.int l1), some (.int (l2 + 1)), some (.int l3)]) hC d_Md_tiesOf_39 rfl rfl ?_
        refine g_iinc (ls' := [some (.ref (κ.b + 249)), some (.int l1), some (.int (l2 + 1)), some (.int (l3 + 1))]) hC d_Md_tiesOf_40 rfl k_i1 rfl rfl ?_
        refine g_goto (tgt := 4) hC d_Md_tiesOf_43 (by decide) ?_
        exact ih l1 (l2 + 1) (l3 + 1) M
      · refine g_aload_n hC d_Md_tiesOf_23 rfl ?_
        refine fg_Md_39 hC lc_249 d_Md_tiesOf_24 p0_249_13 ?_
        refine g_iload_n hC d_Md_tiesOf_27 rfl ?_
        refine gv_iald hC ly_257 d_Md_tiesOf_28 (fun x2 => ?_)
        refine g_iload_n hC d_Md_tiesOf_29 rfl ?_
        refine g_icmp_ne (tgt := 37) hC d_Md_tiesOf_30 (by decide) (fun _ => ?_) (fun _ => ?_)
        · refine g_iconst hC d_Md_tiesOf_37 k_i0 ?_
          refine g_iadd hC d_Md_tiesOf_38 ?_
          refine g_istore_n (ls' := [some (.ref (κ.b + 249)), some (.int l1), some (.int (l2 + 0)), some (.int l3)]) hC d_Md_tiesOf_39 rfl rfl ?_
          refine g_iinc (ls' := [some (.ref (κ.b + 249)), some (.int l1), some (.int (l2 + 0)), some (.int (l3 + 1))]) hC d_Md_tiesOf_40 rfl k_i1 rfl rfl ?_
          refine g_goto (tgt := 4) hC d_Md_tiesOf_43 (by decide) ?_
          exact ih l1 (l2 + 0) (l3 + 1) M
        · refine g_iconst hC d_Md_tiesOf_33 k_i1 ?_
          refine g_goto (tgt := 38) hC d_Md_tiesOf_34 (by decide) ?_
          refine g_iadd hC d_Md_tiesOf_38 ?_
          refine g_istore_n (ls' := [some (.ref (κ.b + 249)), some (.int l1), some (.int (l2 + 1)), some (.int l3)]) hC d_Md_tiesOf_39 rfl rfl ?_
          refine g_iinc (ls' := [some (.ref (κ.b + 249)), some (.int l1), some (.int (l2 + 1)), some (.int (l3 + 1))]) hC d_Md_tiesOf_40 rfl k_i1 rfl rfl ?_
          refine g_goto (tgt := 4) hC d_Md_tiesOf_43 (by decide) ?_
          exact ih l1 (l2 + 1) (l3 + 1) M
set_option maxHeartbeats 2000000 in
theorem Md_tiesOf_c {l : Launch} {θ : tv_Th} (F : Nat) (a1 : Int32) (M : tv_M) : tv_Ct l θ ⟨"TiedViewsModel", "tiesOf", "(I)I"⟩ prog_14_method_34_code 4 (some .int) 0 tv_ei [.ref (θ.1 + 249), .int a1] M (Md_tiesOf F a1 M) := by
  refine tv_ofG [some (.ref (θ.1 + 249)), some (.int a1), none, none] rfl rfl (tv_ent 2 rfl) ?_
  intro κ hl ht hC hR
  subst hl; subst ht
  unfold Md_tiesOf
  refine g_iconst hC d_Md_tiesOf_0 k_i0 ?_
  refine g_istore_n (ls' := [some (.ref (κ.b + 249)), some (.int a1), some (.int 0), none]) hC d_Md_tiesOf_1 rfl rfl ?_
  refine g_iconst hC d_Md_tiesOf_2 k_i0 ?_
  refine g_istore_n (ls' := [some (.ref (κ.b + 249)), some (.int a1), some (.int 0), some (.int 0)]) hC d_Md_tiesOf_3 rfl rfl ?_
  exact Md_tiesOf_L4_g hC hR F F a1 0 0 M
theorem d_Md_eye_0 : decode prog_14_method_35_code 0 = .ok (.aload_n 0, 1) := by decide +kernel
theorem d_Md_eye_1 : decode prog_14_method_35_code 1 = .ok (.iconst 0, 1) := by decide +kernel
theorem d_Md_eye_2 : decode prog_14_method_35_code 2 = .ok (.putfield 1, 3) := by decide +kernel
theorem d_Md_eye_5 : decode prog_14_method_35_code 5 = .ok (.aload_n 0, 1) := by decide +kernel
theorem d_Md_eye_6 : decode prog_14_method_35_code 6 = .ok (.iload_n 1, 1) := by decide +kernel
theorem d_Md_eye_7 : decode prog_14_method_35_code 7 = .ok (.invokevirtual 263, 3) := by decide +kernel
theorem d_Md_eye_10 : decode prog_14_method_35_code 10 = .ok (.ifCond .eq 15, 3) := by decide +kernel
theorem d_Md_eye_13 : decode prog_14_method_35_code 13 = .ok (.iload_n 2, 1) := by decide +kernel
theorem d_Md_eye_14 : decode prog_14_method_35_code 14 = .ok (.i2l, 1) := by decide +kernel
theorem d_Md_eye_15 : decode prog_14_method_35_code 15 = .ok (.lconst 0, 1) := by decide +kernel
theorem d_Md_eye_16 : decode prog_14_method_35_code 16 = .ok (.ldc2_w 266, 3) := by decide +kernel
theorem d_Md_eye_19 : decode prog_14_method_35_code 19 = .ok (.invokestatic 115, 3) := by decide +kernel
theorem d_Md_eye_22 : decode prog_14_method_35_code 22 = .ok (.ifCond .ne 6, 3) := by decide +kernel
theorem d_Md_eye_25 : decode prog_14_method_35_code 25 = .ok (.ldc 127, 2) := by decide +kernel
theorem d_Md_eye_27 : decode prog_14_method_35_code 27 = .ok (.ireturn, 1) := by decide +kernel
theorem d_Md_eye_28 : decode prog_14_method_35_code 28 = .ok (.iload_n 2, 1) := by decide +kernel
theorem d_Md_eye_29 : decode prog_14_method_35_code 29 = .ok (.ifCond .ne 12, 3) := by decide +kernel
theorem d_Md_eye_32 : decode prog_14_method_35_code 32 = .ok (.aload_n 0, 1) := by decide +kernel
theorem d_Md_eye_33 : decode prog_14_method_35_code 33 = .ok (.getfield 27, 3) := by decide +kernel
theorem d_Md_eye_36 : decode prog_14_method_35_code 36 = .ok (.iload_n 1, 1) := by decide +kernel
theorem d_Md_eye_37 : decode prog_14_method_35_code 37 = .ok (.iaload, 1) := by decide +kernel
theorem d_Md_eye_38 : decode prog_14_method_35_code 38 = .ok (.goto 87, 3) := by decide +kernel
theorem d_Md_eye_41 : decode prog_14_method_35_code 41 = .ok (.iload_n 2, 1) := by decide +kernel
theorem d_Md_eye_42 : decode prog_14_method_35_code 42 = .ok (.iconst 1, 1) := by decide +kernel
theorem d_Md_eye_43 : decode prog_14_method_35_code 43 = .ok (.if_icmp .ne 12, 3) := by decide +kernel
theorem d_Md_eye_46 : decode prog_14_method_35_code 46 = .ok (.aload_n 0, 1) := by decide +kernel
theorem d_Md_eye_47 : decode prog_14_method_35_code 47 = .ok (.getfield 30, 3) := by decide +kernel
theorem d_Md_eye_50 : decode prog_14_method_35_code 50 = .ok (.iload_n 1, 1) := by decide +kernel
theorem d_Md_eye_51 : decode prog_14_method_35_code 51 = .ok (.iaload, 1) := by decide +kernel
theorem d_Md_eye_52 : decode prog_14_method_35_code 52 = .ok (.goto 73, 3) := by decide +kernel
theorem d_Md_eye_55 : decode prog_14_method_35_code 55 = .ok (.iload_n 2, 1) := by decide +kernel
theorem d_Md_eye_56 : decode prog_14_method_35_code 56 = .ok (.iconst 2, 1) := by decide +kernel
theorem d_Md_eye_57 : decode prog_14_method_35_code 57 = .ok (.if_icmp .ne 12, 3) := by decide +kernel
theorem d_Md_eye_60 : decode prog_14_method_35_code 60 = .ok (.aload_n 0, 1) := by decide +kernel
theorem d_Md_eye_61 : decode prog_14_method_35_code 61 = .ok (.getfield 33, 3) := by decide +kernel
theorem d_Md_eye_64 : decode prog_14_method_35_code 64 = .ok (.iload_n 1, 1) := by decide +kernel
theorem d_Md_eye_65 : decode prog_14_method_35_code 65 = .ok (.iaload, 1) := by decide +kernel
theorem d_Md_eye_66 : decode prog_14_method_35_code 66 = .ok (.goto 59, 3) := by decide +kernel
theorem d_Md_eye_69 : decode prog_14_method_35_code 69 = .ok (.iload_n 2, 1) := by decide +kernel
theorem d_Md_eye_70 : decode prog_14_method_35_code 70 = .ok (.iconst 3, 1) := by decide +kernel
theorem d_Md_eye_71 : decode prog_14_method_35_code 71 = .ok (.if_icmp .ne 20, 3) := by decide +kernel
theorem d_Md_eye_74 : decode prog_14_method_35_code 74 = .ok (.aload_n 0, 1) := by decide +kernel
theorem d_Md_eye_75 : decode prog_14_method_35_code 75 = .ok (.getfield 79, 3) := by decide +kernel
theorem d_Md_eye_78 : decode prog_14_method_35_code 78 = .ok (.iload_n 1, 1) := by decide +kernel
theorem d_Md_eye_79 : decode prog_14_method_35_code 79 = .ok (.baload, 1) := by decide +kernel
theorem d_Md_eye_80 : decode prog_14_method_35_code 80 = .ok (.ifCond .eq 7, 3) := by decide +kernel
theorem d_Md_eye_83 : decode prog_14_method_35_code 83 = .ok (.iconst 1, 1) := by decide +kernel
theorem d_Md_eye_84 : decode prog_14_method_35_code 84 = .ok (.goto 41, 3) := by decide +kernel
theorem d_Md_eye_87 : decode prog_14_method_35_code 87 = .ok (.iconst 0, 1) := by decide +kernel
theorem d_Md_eye_88 : decode prog_14_method_35_code 88 = .ok (.goto 37, 3) := by decide +kernel
theorem d_Md_eye_91 : decode prog_14_method_35_code 91 = .ok (.iload_n 2, 1) := by decide +kernel
theorem d_Md_eye_92 : decode prog_14_method_35_code 92 = .ok (.iconst 4, 1) := by decide +kernel
theorem d_Md_eye_93 : decode prog_14_method_35_code 93 = .ok (.if_icmp .ne 11, 3) := by decide +kernel
theorem d_Md_eye_96 : decode prog_14_method_35_code 96 = .ok (.aload_n 0, 1) := by decide +kernel
theorem d_Md_eye_97 : decode prog_14_method_35_code 97 = .ok (.iload_n 1, 1) := by decide +kernel
theorem d_Md_eye_98 : decode prog_14_method_35_code 98 = .ok (.invokevirtual 268, 3) := by decide +kernel
theorem d_Md_eye_101 : decode prog_14_method_35_code 101 = .ok (.goto 24, 3) := by decide +kernel
theorem d_Md_eye_104 : decode prog_14_method_35_code 104 = .ok (.aload_n 0, 1) := by decide +kernel
theorem d_Md_eye_105 : decode prog_14_method_35_code 105 = .ok (.getfield 27, 3) := by decide +kernel
theorem d_Md_eye_108 : decode prog_14_method_35_code 108 = .ok (.iload_n 1, 1) := by decide +kernel
theorem d_Md_eye_109 : decode prog_14_method_35_code 109 = .ok (.iaload, 1) := by decide +kernel
theorem d_Md_eye_110 : decode prog_14_method_35_code 110 = .ok (.iconst 3, 1) := by decide +kernel
theorem d_Md_eye_111 : decode prog_14_method_35_code 111 = .ok (.if_icmp .ne 12, 3) := by decide +kernel
theorem d_Md_eye_114 : decode prog_14_method_35_code 114 = .ok (.aload_n 0, 1) := by decide +kernel
theorem d_Md_eye_115 : decode prog_14_method_35_code 115 = .ok (.getfield 63, 3) := by decide +kernel
theorem d_Md_eye_118 : decode prog_14_method_35_code 118 = .ok (.iload_n 1, 1) := by decide +kernel
theorem d_Md_eye_119 : decode prog_14_method_35_code 119 = .ok (.iaload, 1) := by decide +kernel
theorem d_Md_eye_120 : decode prog_14_method_35_code 120 = .ok (.goto 5, 3) := by decide +kernel
theorem d_Md_eye_123 : decode prog_14_method_35_code 123 = .ok (.ldc 146, 2) := by decide +kernel
theorem d_Md_eye_125 : decode prog_14_method_35_code 125 = .ok (.ireturn, 1) := by decide +kernel
set_option maxHeartbeats 2000000 in
theorem Md_eye_c {l : Launch} {θ : tv_Th} (F : Nat) (a1 : Int32) (a2 : Int32) (M : tv_M) : tv_Ct l θ ⟨"TiedViewsModel", "eye", "(II)I"⟩ prog_14_method_35_code 3 (some .int) 2 tv_ei [.ref (θ.1 + 249), .int a1, .int a2] M (Md_eye F a1 a2 M) := by
  refine tv_ofG [some (.ref (θ.1 + 249)), some (.int a1), some (.int a2)] rfl rfl (tv_ent 0 rfl) ?_
  intro κ hl ht hC hR
  subst hl; subst ht
  unfold Md_eye
  refine g_aload_n hC d_Md_eye_0 rfl ?_
  refine g_iconst hC d_Md_eye_1 k_i0 ?_
  refine fp_Md_1 hC lc_249 d_Md_eye_2 (fun M1 => ?_)
  refine g_aload_n hC d_Md_eye_5 rfl ?_
  refine g_iload_n hC d_Md_eye_6 rfl ?_
  refine gv_callVi hC [.int a1] cw_Md_263 (Md_isEye_c F a1 M1) lc_249 rfl rfl rfl rfl rfl rfl rfl d_Md_eye_7 (fun r2 M3 => ?_)
  refine g_if_eq (tgt := 25) hC d_Md_eye_10 (by decide) (fun _ => ?_) (fun _ => ?_)
  · refine g_ldc hC d_Md_eye_25 wk_Md_127 ?_
    exact g_iret hC hR d_Md_eye_27
  · refine g_iload_n hC d_Md_eye_13 rfl ?_
    refine g_i2l hC d_Md_eye_14 ?_
    refine g_lconst hC d_Md_eye_15 k_l0 ?_
    refine g_ldc2 hC d_Md_eye_16 wl_Md_266 ?_
    refine gv_callSi hC [.long ((a2 : Int32).toInt64), .long 0, .long 5] cw_Md_115 (Md_in_c F ((a2 : Int32).toInt64) 0 5 M3) rfl rfl rfl rfl rfl d_Md_eye_19 (fun r4 M5 => ?_)
    refine g_if_ne (tgt := 28) hC d_Md_eye_22 (by decide) (fun _ => ?_) (fun _ => ?_)
    · refine g_iload_n hC d_Md_eye_28 rfl ?_
      refine g_if_ne (tgt := 41) hC d_Md_eye_29 (by decide) (fun _ => ?_) (fun _ => ?_)
      · refine g_iload_n hC d_Md_eye_41 rfl ?_
        refine g_iconst hC d_Md_eye_42 k_i1 ?_
        refine g_icmp_ne (tgt := 55) hC d_Md_eye_43 (by decide) (fun _ => ?_) (fun _ => ?_)
        · refine g_iload_n hC d_Md_eye_55 rfl ?_
          refine g_iconst hC d_Md_eye_56 k_i2 ?_
          refine g_icmp_ne (tgt := 69) hC d_Md_eye_57 (by decide) (fun _ => ?_) (fun _ => ?_)
          · refine g_iload_n hC d_Md_eye_69 rfl ?_
            refine g_iconst hC d_Md_eye_70 k_i3 ?_
            refine g_icmp_ne (tgt := 91) hC d_Md_eye_71 (by decide) (fun _ => ?_) (fun _ => ?_)
            · refine g_iload_n hC d_Md_eye_91 rfl ?_
              refine g_iconst hC d_Md_eye_92 k_i4 ?_
              refine g_icmp_ne (tgt := 104) hC d_Md_eye_93 (by decide) (fun _ => ?_) (fun _ => ?_)
              · refine g_aload_n hC d_Md_eye_104 rfl ?_
                refine fg_Md_27 hC lc_249 d_Md_eye_105 p0_249_7 ?_
                refine g_iload_n hC d_Md_eye_108 rfl ?_
                refine gv_iald hC ly_253 d_Md_eye_109 (fun x6 => ?_)
                refine g_iconst hC d_Md_eye_110 k_i3 ?_
                refine g_icmp_ne (tgt := 123) hC d_Md_eye_111 (by decide) (fun _ => ?_) (fun _ => ?_)
                · refine g_ldc hC d_Md_eye_123 wk_Md_146 ?_
                  exact g_iret hC hR d_Md_eye_125
                · refine g_aload_n hC d_Md_eye_114 rfl ?_
                  refine fg_Md_63 hC lc_249 d_Md_eye_115 p0_249_22 ?_
                  refine g_iload_n hC d_Md_eye_118 rfl ?_
                  refine gv_iald hC ly_265 d_Md_eye_119 (fun x7 => ?_)
                  refine g_goto (tgt := 125) hC d_Md_eye_120 (by decide) ?_
                  exact g_iret hC hR d_Md_eye_125
              · refine g_aload_n hC d_Md_eye_96 rfl ?_
                refine g_iload_n hC d_Md_eye_97 rfl ?_
                refine gv_callVi hC [.int a1] cw_Md_268 (Md_tiesOf_c F a1 M5) lc_249 rfl rfl rfl rfl rfl rfl rfl d_Md_eye_98 (fun r8 M9 => ?_)
                refine g_goto (tgt := 125) hC d_Md_eye_101 (by decide) ?_
                exact g_iret hC hR d_Md_eye_125
            · refine g_aload_n hC d_Md_eye_74 rfl ?_
              refine fg_Md_79 hC lc_249 d_Md_eye_75 p0_249_41 ?_
              refine g_iload_n hC d_Md_eye_78 rfl ?_
              refine gv_zald hC ly_270 d_Md_eye_79 (fun x10 => ?_)
              refine g_if_eq (tgt := 87) hC d_Md_eye_80 (by decide) (fun _ => ?_) (fun _ => ?_)
              · refine g_iconst hC d_Md_eye_87 k_i0 ?_
                refine g_goto (tgt := 125) hC d_Md_eye_88 (by decide) ?_
                exact g_iret hC hR d_Md_eye_125
              · refine g_iconst hC d_Md_eye_83 k_i1 ?_
                refine g_goto (tgt := 125) hC d_Md_eye_84 (by decide) ?_
                exact g_iret hC hR d_Md_eye_125
          · refine g_aload_n hC d_Md_eye_60 rfl ?_
            refine fg_Md_33 hC lc_249 d_Md_eye_61 p0_249_9 ?_
            refine g_iload_n hC d_Md_eye_64 rfl ?_
            refine gv_iald hC ly_255 d_Md_eye_65 (fun x11 => ?_)
            refine g_goto (tgt := 125) hC d_Md_eye_66 (by decide) ?_
            exact g_iret hC hR d_Md_eye_125
        · refine g_aload_n hC d_Md_eye_46 rfl ?_
          refine fg_Md_30 hC lc_249 d_Md_eye_47 p0_249_8 ?_
          refine g_iload_n hC d_Md_eye_50 rfl ?_
          refine gv_iald hC ly_254 d_Md_eye_51 (fun x12 => ?_)
          refine g_goto (tgt := 125) hC d_Md_eye_52 (by decide) ?_
          exact g_iret hC hR d_Md_eye_125
      · refine g_aload_n hC d_Md_eye_32 rfl ?_
        refine fg_Md_27 hC lc_249 d_Md_eye_33 p0_249_7 ?_
        refine g_iload_n hC d_Md_eye_36 rfl ?_
        refine gv_iald hC ly_253 d_Md_eye_37 (fun x13 => ?_)
        refine g_goto (tgt := 125) hC d_Md_eye_38 (by decide) ?_
        exact g_iret hC hR d_Md_eye_125
    · refine g_ldc hC d_Md_eye_25 wk_Md_127 ?_
      exact g_iret hC hR d_Md_eye_27
theorem d_Md_addLine_0 : decode prog_14_method_36_code 0 = .ok (.iconst 0, 1) := by decide +kernel
theorem d_Md_addLine_1 : decode prog_14_method_36_code 1 = .ok (.istore_n 1, 1) := by decide +kernel
theorem d_Md_addLine_2 : decode prog_14_method_36_code 2 = .ok (.iload_n 1, 1) := by decide +kernel
theorem d_Md_addLine_3 : decode prog_14_method_36_code 3 = .ok (.bipush 55, 2) := by decide +kernel
theorem d_Md_addLine_5 : decode prog_14_method_36_code 5 = .ok (.if_icmp .ge 24, 3) := by decide +kernel
theorem d_Md_addLine_8 : decode prog_14_method_36_code 8 = .ok (.aload_n 0, 1) := by decide +kernel
theorem d_Md_addLine_9 : decode prog_14_method_36_code 9 = .ok (.getfield 69, 3) := by decide +kernel
theorem d_Md_addLine_12 : decode prog_14_method_36_code 12 = .ok (.bipush 55, 2) := by decide +kernel
theorem d_Md_addLine_14 : decode prog_14_method_36_code 14 = .ok (.aload_n 0, 1) := by decide +kernel
theorem d_Md_addLine_15 : decode prog_14_method_36_code 15 = .ok (.getfield 271, 3) := by decide +kernel
theorem d_Md_addLine_18 : decode prog_14_method_36_code 18 = .ok (.imul, 1) := by decide +kernel
theorem d_Md_addLine_19 : decode prog_14_method_36_code 19 = .ok (.iload_n 1, 1) := by decide +kernel
theorem d_Md_addLine_20 : decode prog_14_method_36_code 20 = .ok (.iadd, 1) := by decide +kernel
theorem d_Md_addLine_21 : decode prog_14_method_36_code 21 = .ok (.iconst 0, 1) := by decide +kernel
theorem d_Md_addLine_22 : decode prog_14_method_36_code 22 = .ok (.iastore, 1) := by decide +kernel
theorem d_Md_addLine_23 : decode prog_14_method_36_code 23 = .ok (.iinc 1 1, 3) := by decide +kernel
theorem d_Md_addLine_26 : decode prog_14_method_36_code 26 = .ok (.goto (-24), 3) := by decide +kernel
theorem d_Md_addLine_29 : decode prog_14_method_36_code 29 = .ok (.aload_n 0, 1) := by decide +kernel
theorem d_Md_addLine_30 : decode prog_14_method_36_code 30 = .ok (.dup, 1) := by decide +kernel
theorem d_Md_addLine_31 : decode prog_14_method_36_code 31 = .ok (.getfield 271, 3) := by decide +kernel
theorem d_Md_addLine_34 : decode prog_14_method_36_code 34 = .ok (.iconst 1, 1) := by decide +kernel
theorem d_Md_addLine_35 : decode prog_14_method_36_code 35 = .ok (.iadd, 1) := by decide +kernel
theorem d_Md_addLine_36 : decode prog_14_method_36_code 36 = .ok (.putfield 271, 3) := by decide +kernel
theorem d_Md_addLine_39 : decode prog_14_method_36_code 39 = .ok (.return_, 1) := by decide +kernel
set_option maxHeartbeats 2000000 in
theorem Md_addLine_L2_g {κ : tv_Kt} (hC : tv_Cx κ "TiedViewsModel" prog_14_method_36_code 2 0) (hR : tv_Re κ none) (F : Nat) : ∀ (n : Nat) (l1 : Int32) (M : tv_M), tv_G κ 2 (tv_Qm κ tv_ev) 2 [some (.ref (κ.b + 249)), some (.int l1)] [] M (Md_addLine_L2 F n l1 M) := by
  intro n
  induction n with
  | zero => intro _ _; exact g_none
  | succ nn ih =>
    intro l1 M
    rw [Md_addLine_L2]
    refine g_iload_n hC d_Md_addLine_2 rfl ?_
    refine g_bipush hC d_Md_addLine_3 k_b55 ?_
    refine g_icmp_ge (tgt := 29) hC d_Md_addLine_5 (by decide) (fun _ => ?_) (fun _ => ?_)
    · refine g_aload_n hC d_Md_addLine_29 rfl ?_
      refine g_dup hC d_Md_addLine_30 rfl ?_
      refine fg_Md_271 hC lc_249 d_Md_addLine_31 ?_
      refine g_iconst hC d_Md_addLine_34 k_i1 ?_
      refine g_iadd hC d_Md_addLine_35 ?_
      refine fp_Md_271 hC lc_249 d_Md_addLine_36 (fun M1 => ?_)
      exact g_vret hC hR d_Md_addLine_39
    · refine g_aload_n hC d_Md_addLine_8 rfl ?_
      refine fg_Md_69 hC lc_249 d_Md_addLine_9 p0_249_38 ?_
      refine g_bipush hC d_Md_addLine_12 k_b55 ?_
      refine g_aload_n hC d_Md_addLine_14 rfl ?_
      refine fg_Md_271 hC lc_249 d_Md_addLine_15 ?_
      refine g_imul hC d_Md_addLine_18 ?_
      refine g_iload_n hC d_Md_addLine_19 rfl ?_
      refine g_iadd hC d_Md_addLine_20 ?_
      refine g_iconst hC d_Md_addLine_21 k_i0 ?_
      refine gv_iast hC ly_267 d_Md_addLine_22 (fun M2 => ?_)
      refine g_iinc (ls' := [some (.ref (κ.b + 249)), some (.int (l1 + 1))]) hC d_Md_addLine_23 rfl k_i1 rfl rfl ?_
      refine g_goto (tgt := 2) hC d_Md_addLine_26 (by decide) ?_
      exact ih (l1 + 1) M2
set_option maxHeartbeats 2000000 in
theorem Md_addLine_c {l : Launch} {θ : tv_Th} (F : Nat) (M : tv_M) : tv_Ct l θ ⟨"TiedViewsModel", "addLine", "()V"⟩ prog_14_method_36_code 2 none 0 tv_ev [.ref (θ.1 + 249)] M (Md_addLine F M) := by
  refine tv_ofG [some (.ref (θ.1 + 249)), none] rfl rfl (tv_ent 1 rfl) ?_
  intro κ hl ht hC hR
  subst hl; subst ht
  unfold Md_addLine
  refine g_iconst hC d_Md_addLine_0 k_i0 ?_
  refine g_istore_n (ls' := [some (.ref (κ.b + 249)), some (.int 0)]) hC d_Md_addLine_1 rfl rfl ?_
  exact Md_addLine_L2_g hC hR F F 0 M
theorem d_Md_layTies_0 : decode prog_14_method_37_code 0 = .ok (.aload_n 0, 1) := by decide +kernel
theorem d_Md_layTies_1 : decode prog_14_method_37_code 1 = .ok (.iconst 0, 1) := by decide +kernel
theorem d_Md_layTies_2 : decode prog_14_method_37_code 2 = .ok (.putfield 271, 3) := by decide +kernel
theorem d_Md_layTies_5 : decode prog_14_method_37_code 5 = .ok (.iconst 0, 1) := by decide +kernel
theorem d_Md_layTies_6 : decode prog_14_method_37_code 6 = .ok (.istore_n 2, 1) := by decide +kernel
theorem d_Md_layTies_7 : decode prog_14_method_37_code 7 = .ok (.iload_n 2, 1) := by decide +kernel
theorem d_Md_layTies_8 : decode prog_14_method_37_code 8 = .ok (.aload_n 0, 1) := by decide +kernel
theorem d_Md_layTies_9 : decode prog_14_method_37_code 9 = .ok (.getfield 238, 3) := by decide +kernel
theorem d_Md_layTies_12 : decode prog_14_method_37_code 12 = .ok (.if_icmp .ge 186, 3) := by decide +kernel
theorem d_Md_layTies_15 : decode prog_14_method_37_code 15 = .ok (.iconst 0, 1) := by decide +kernel
theorem d_Md_layTies_16 : decode prog_14_method_37_code 16 = .ok (.istore_n 3, 1) := by decide +kernel
theorem d_Md_layTies_17 : decode prog_14_method_37_code 17 = .ok (.iload_n 3, 1) := by decide +kernel
theorem d_Md_layTies_18 : decode prog_14_method_37_code 18 = .ok (.aload_n 0, 1) := by decide +kernel
theorem d_Md_layTies_19 : decode prog_14_method_37_code 19 = .ok (.getfield 42, 3) := by decide +kernel
theorem d_Md_layTies_22 : decode prog_14_method_37_code 22 = .ok (.iload_n 2, 1) := by decide +kernel
theorem d_Md_layTies_23 : decode prog_14_method_37_code 23 = .ok (.iaload, 1) := by decide +kernel
theorem d_Md_layTies_24 : decode prog_14_method_37_code 24 = .ok (.if_icmp .ge 168, 3) := by decide +kernel
theorem d_Md_layTies_27 : decode prog_14_method_37_code 27 = .ok (.iload_n 2, 1) := by decide +kernel
theorem d_Md_layTies_28 : decode prog_14_method_37_code 28 = .ok (.iload_n 1, 1) := by decide +kernel
theorem d_Md_layTies_29 : decode prog_14_method_37_code 29 = .ok (.if_icmp .eq 163, 3) := by decide +kernel
theorem d_Md_layTies_32 : decode prog_14_method_37_code 32 = .ok (.aload_n 0, 1) := by decide +kernel
theorem d_Md_layTies_33 : decode prog_14_method_37_code 33 = .ok (.invokevirtual 274, 3) := by decide +kernel
theorem d_Md_layTies_36 : decode prog_14_method_37_code 36 = .ok (.bipush 55, 2) := by decide +kernel
theorem d_Md_layTies_38 : decode prog_14_method_37_code 38 = .ok (.aload_n 0, 1) := by decide +kernel
theorem d_Md_layTies_39 : decode prog_14_method_37_code 39 = .ok (.getfield 271, 3) := by decide +kernel
theorem d_Md_layTies_42 : decode prog_14_method_37_code 42 = .ok (.iconst 1, 1) := by decide +kernel
theorem d_Md_layTies_43 : decode prog_14_method_37_code 43 = .ok (.isub, 1) := by decide +kernel
theorem d_Md_layTies_44 : decode prog_14_method_37_code 44 = .ok (.imul, 1) := by decide +kernel
theorem d_Md_layTies_45 : decode prog_14_method_37_code 45 = .ok (.istore 4, 2) := by decide +kernel
theorem d_Md_layTies_47 : decode prog_14_method_37_code 47 = .ok (.iconst 0, 1) := by decide +kernel
theorem d_Md_layTies_48 : decode prog_14_method_37_code 48 = .ok (.istore 5, 2) := by decide +kernel
theorem d_Md_layTies_50 : decode prog_14_method_37_code 50 = .ok (.iload 5, 2) := by decide +kernel
theorem d_Md_layTies_52 : decode prog_14_method_37_code 52 = .ok (.aload_n 0, 1) := by decide +kernel
theorem d_Md_layTies_53 : decode prog_14_method_37_code 53 = .ok (.getfield 30, 3) := by decide +kernel
theorem d_Md_layTies_56 : decode prog_14_method_37_code 56 = .ok (.aload_n 0, 1) := by decide +kernel
theorem d_Md_layTies_57 : decode prog_14_method_37_code 57 = .ok (.getfield 36, 3) := by decide +kernel
theorem d_Md_layTies_60 : decode prog_14_method_37_code 60 = .ok (.iload_n 2, 1) := by decide +kernel
theorem d_Md_layTies_61 : decode prog_14_method_37_code 61 = .ok (.iaload, 1) := by decide +kernel
theorem d_Md_layTies_62 : decode prog_14_method_37_code 62 = .ok (.iaload, 1) := by decide +kernel
theorem d_Md_layTies_63 : decode prog_14_method_37_code 63 = .ok (.if_icmp .ge 47, 3) := by decide +kernel
theorem d_Md_layTies_66 : decode prog_14_method_37_code 66 = .ok (.aload_n 0, 1) := by decide +kernel
theorem d_Md_layTies_67 : decode prog_14_method_37_code 67 = .ok (.getfield 69, 3) := by decide +kernel
theorem d_Md_layTies_70 : decode prog_14_method_37_code 70 = .ok (.iload 4, 2) := by decide +kernel
theorem d_Md_layTies_72 : decode prog_14_method_37_code 72 = .ok (.aload_n 0, 1) := by decide +kernel
theorem d_Md_layTies_73 : decode prog_14_method_37_code 73 = .ok (.getfield 33, 3) := by decide +kernel
theorem d_Md_layTies_76 : decode prog_14_method_37_code 76 = .ok (.aload_n 0, 1) := by decide +kernel
theorem d_Md_layTies_77 : decode prog_14_method_37_code 77 = .ok (.getfield 36, 3) := by decide +kernel
theorem d_Md_layTies_80 : decode prog_14_method_37_code 80 = .ok (.iload_n 2, 1) := by decide +kernel
theorem d_Md_layTies_81 : decode prog_14_method_37_code 81 = .ok (.iaload, 1) := by decide +kernel
theorem d_Md_layTies_82 : decode prog_14_method_37_code 82 = .ok (.iaload, 1) := by decide +kernel
theorem d_Md_layTies_83 : decode prog_14_method_37_code 83 = .ok (.iadd, 1) := by decide +kernel
theorem d_Md_layTies_84 : decode prog_14_method_37_code 84 = .ok (.iload 5, 2) := by decide +kernel
theorem d_Md_layTies_86 : decode prog_14_method_37_code 86 = .ok (.iadd, 1) := by decide +kernel
theorem d_Md_layTies_87 : decode prog_14_method_37_code 87 = .ok (.aload_n 0, 1) := by decide +kernel
theorem d_Md_layTies_88 : decode prog_14_method_37_code 88 = .ok (.getfield 45, 3) := by decide +kernel
theorem d_Md_layTies_91 : decode prog_14_method_37_code 91 = .ok (.bipush 18, 2) := by decide +kernel
theorem d_Md_layTies_93 : decode prog_14_method_37_code 93 = .ok (.iload_n 2, 1) := by decide +kernel
theorem d_Md_layTies_94 : decode prog_14_method_37_code 94 = .ok (.imul, 1) := by decide +kernel
theorem d_Md_layTies_95 : decode prog_14_method_37_code 95 = .ok (.iconst 3, 1) := by decide +kernel
theorem d_Md_layTies_96 : decode prog_14_method_37_code 96 = .ok (.iload_n 3, 1) := by decide +kernel
theorem d_Md_layTies_97 : decode prog_14_method_37_code 97 = .ok (.imul, 1) := by decide +kernel
theorem d_Md_layTies_98 : decode prog_14_method_37_code 98 = .ok (.iadd, 1) := by decide +kernel
theorem d_Md_layTies_99 : decode prog_14_method_37_code 99 = .ok (.iload 5, 2) := by decide +kernel
theorem d_Md_layTies_101 : decode prog_14_method_37_code 101 = .ok (.iadd, 1) := by decide +kernel
theorem d_Md_layTies_102 : decode prog_14_method_37_code 102 = .ok (.iaload, 1) := by decide +kernel
theorem d_Md_layTies_103 : decode prog_14_method_37_code 103 = .ok (.iastore, 1) := by decide +kernel
theorem d_Md_layTies_104 : decode prog_14_method_37_code 104 = .ok (.iinc 5 1, 3) := by decide +kernel
theorem d_Md_layTies_107 : decode prog_14_method_37_code 107 = .ok (.goto (-57), 3) := by decide +kernel
theorem d_Md_layTies_110 : decode prog_14_method_37_code 110 = .ok (.iconst 0, 1) := by decide +kernel
theorem d_Md_layTies_111 : decode prog_14_method_37_code 111 = .ok (.istore 5, 2) := by decide +kernel
theorem d_Md_layTies_113 : decode prog_14_method_37_code 113 = .ok (.iload 5, 2) := by decide +kernel
theorem d_Md_layTies_115 : decode prog_14_method_37_code 115 = .ok (.aload_n 0, 1) := by decide +kernel
theorem d_Md_layTies_116 : decode prog_14_method_37_code 116 = .ok (.getfield 30, 3) := by decide +kernel
theorem d_Md_layTies_119 : decode prog_14_method_37_code 119 = .ok (.aload_n 0, 1) := by decide +kernel
theorem d_Md_layTies_120 : decode prog_14_method_37_code 120 = .ok (.getfield 39, 3) := by decide +kernel
theorem d_Md_layTies_123 : decode prog_14_method_37_code 123 = .ok (.iload_n 2, 1) := by decide +kernel
theorem d_Md_layTies_124 : decode prog_14_method_37_code 124 = .ok (.iaload, 1) := by decide +kernel
theorem d_Md_layTies_125 : decode prog_14_method_37_code 125 = .ok (.iaload, 1) := by decide +kernel
theorem d_Md_layTies_126 : decode prog_14_method_37_code 126 = .ok (.if_icmp .ge 60, 3) := by decide +kernel
theorem d_Md_layTies_129 : decode prog_14_method_37_code 129 = .ok (.aload_n 0, 1) := by decide +kernel
theorem d_Md_layTies_130 : decode prog_14_method_37_code 130 = .ok (.getfield 69, 3) := by decide +kernel
theorem d_Md_layTies_133 : decode prog_14_method_37_code 133 = .ok (.iload 4, 2) := by decide +kernel
theorem d_Md_layTies_135 : decode prog_14_method_37_code 135 = .ok (.aload_n 0, 1) := by decide +kernel
theorem d_Md_layTies_136 : decode prog_14_method_37_code 136 = .ok (.getfield 33, 3) := by decide +kernel
theorem d_Md_layTies_139 : decode prog_14_method_37_code 139 = .ok (.aload_n 0, 1) := by decide +kernel
theorem d_Md_layTies_140 : decode prog_14_method_37_code 140 = .ok (.getfield 39, 3) := by decide +kernel
theorem d_Md_layTies_143 : decode prog_14_method_37_code 143 = .ok (.iload_n 2, 1) := by decide +kernel
theorem d_Md_layTies_144 : decode prog_14_method_37_code 144 = .ok (.iaload, 1) := by decide +kernel
theorem d_Md_layTies_145 : decode prog_14_method_37_code 145 = .ok (.iaload, 1) := by decide +kernel
theorem d_Md_layTies_146 : decode prog_14_method_37_code 146 = .ok (.iadd, 1) := by decide +kernel
theorem d_Md_layTies_147 : decode prog_14_method_37_code 147 = .ok (.iload 5, 2) := by decide +kernel
theorem d_Md_layTies_149 : decode prog_14_method_37_code 149 = .ok (.iadd, 1) := by decide +kernel
theorem d_Md_layTies_150 : decode prog_14_method_37_code 150 = .ok (.aload_n 0, 1) := by decide +kernel
theorem d_Md_layTies_151 : decode prog_14_method_37_code 151 = .ok (.getfield 112, 3) := by decide +kernel
theorem d_Md_layTies_154 : decode prog_14_method_37_code 154 = .ok (.aload_n 0, 1) := by decide +kernel
theorem d_Md_layTies_155 : decode prog_14_method_37_code 155 = .ok (.getfield 45, 3) := by decide +kernel
theorem d_Md_layTies_158 : decode prog_14_method_37_code 158 = .ok (.bipush 18, 2) := by decide +kernel
theorem d_Md_layTies_160 : decode prog_14_method_37_code 160 = .ok (.iload_n 2, 1) := by decide +kernel
theorem d_Md_layTies_161 : decode prog_14_method_37_code 161 = .ok (.imul, 1) := by decide +kernel
theorem d_Md_layTies_162 : decode prog_14_method_37_code 162 = .ok (.bipush 9, 2) := by decide +kernel
theorem d_Md_layTies_164 : decode prog_14_method_37_code 164 = .ok (.iadd, 1) := by decide +kernel
theorem d_Md_layTies_165 : decode prog_14_method_37_code 165 = .ok (.iconst 3, 1) := by decide +kernel
theorem d_Md_layTies_166 : decode prog_14_method_37_code 166 = .ok (.iload_n 3, 1) := by decide +kernel
theorem d_Md_layTies_167 : decode prog_14_method_37_code 167 = .ok (.imul, 1) := by decide +kernel
theorem d_Md_layTies_168 : decode prog_14_method_37_code 168 = .ok (.iadd, 1) := by decide +kernel
theorem d_Md_layTies_169 : decode prog_14_method_37_code 169 = .ok (.iload 5, 2) := by decide +kernel
theorem d_Md_layTies_171 : decode prog_14_method_37_code 171 = .ok (.iadd, 1) := by decide +kernel
theorem d_Md_layTies_172 : decode prog_14_method_37_code 172 = .ok (.iaload, 1) := by decide +kernel
theorem d_Md_layTies_173 : decode prog_14_method_37_code 173 = .ok (.isub, 1) := by decide +kernel
theorem d_Md_layTies_174 : decode prog_14_method_37_code 174 = .ok (.aload_n 0, 1) := by decide +kernel
theorem d_Md_layTies_175 : decode prog_14_method_37_code 175 = .ok (.getfield 112, 3) := by decide +kernel
theorem d_Md_layTies_178 : decode prog_14_method_37_code 178 = .ok (.irem, 1) := by decide +kernel
theorem d_Md_layTies_179 : decode prog_14_method_37_code 179 = .ok (.iastore, 1) := by decide +kernel
theorem d_Md_layTies_180 : decode prog_14_method_37_code 180 = .ok (.iinc 5 1, 3) := by decide +kernel
theorem d_Md_layTies_183 : decode prog_14_method_37_code 183 = .ok (.goto (-70), 3) := by decide +kernel
theorem d_Md_layTies_186 : decode prog_14_method_37_code 186 = .ok (.iinc 3 1, 3) := by decide +kernel
theorem d_Md_layTies_189 : decode prog_14_method_37_code 189 = .ok (.goto (-172), 3) := by decide +kernel
theorem d_Md_layTies_192 : decode prog_14_method_37_code 192 = .ok (.iinc 2 1, 3) := by decide +kernel
theorem d_Md_layTies_195 : decode prog_14_method_37_code 195 = .ok (.goto (-188), 3) := by decide +kernel
theorem d_Md_layTies_198 : decode prog_14_method_37_code 198 = .ok (.return_, 1) := by decide +kernel
set_option maxHeartbeats 2000000 in
theorem Md_layTies_L113_g {κ : tv_Kt} (hC : tv_Cx κ "TiedViewsModel" prog_14_method_37_code 6 1) (hR : tv_Re κ none) (F : Nat) {k7 : Int32 → Int32 → tv_M → Option (Unit × tv_M)} (hk7 : ∀ (l1 : Int32) (l2 : Int32) (M : tv_M), tv_G κ 6 (tv_Qm κ tv_ev) 7 [some (.ref (κ.b + 249)), some (.int l1), some (.int l2), none, none, none] [] M (k7 l1 l2 M)) {k17 : Int32 → Int32 → Int32 → tv_M → Option (Unit × tv_M)} (hk17 : ∀ (l1 : Int32) (l2 : Int32) (l3 : Int32) (M : tv_M), tv_G κ 6 (tv_Qm κ tv_ev) 17 [some (.ref (κ.b + 249)), some (.int l1), some (.int l2), some (.int l3), none, none] [] M (k17 l1 l2 l3 M)) : ∀ (n : Nat) (l1 : Int32) (l2 : Int32) (l3 : Int32) (l4 : Int32) (l5 : Int32) (M : tv_M), tv_G κ 6 (tv_Qm κ tv_ev) 113 [some (.ref (κ.b + 249)), some (.int l1), some (.int l2), some (.int l3), some (.int l4), some (.int l5)] [] M (Md_layTies_L113 F k7 k17 n l1 l2 l3 l4 l5 M) := by
  intro n
  induction n with
  | zero => intro _ _ _ _ _ _; exact g_none
  | succ nn ih =>
    intro l1 l2 l3 l4 l5 M
    rw [Md_layTies_L113]
    refine g_iload hC d_Md_layTies_113 rfl ?_
    refine g_aload_n hC d_Md_layTies_115 rfl ?_
    refine fg_Md_30 hC lc_249 d_Md_layTies_116 p0_249_8 ?_
    refine g_aload_n hC d_Md_layTies_119 rfl ?_
    refine fg_Md_39 hC lc_249 d_Md_layTies_120 p0_249_13 ?_
    refine g_iload_n hC d_Md_layTies_123 rfl ?_
    refine gv_iald hC ly_257 d_Md_layTies_124 (fun x11 => ?_)
    refine gv_iald hC ly_254 d_Md_layTies_125 (fun x12 => ?_)
    refine g_icmp_ge (tgt := 186) hC d_Md_layTies_126 (by decide) (fun _ => ?_) (fun _ => ?_)
    · refine g_iinc (ls' := [some (.ref (κ.b + 249)), some (.int l1), some (.int l2), some (.int (l3 + 1)), some (.int l4), some (.int l5)]) hC d_Md_layTies_186 rfl k_i1 rfl rfl ?_
      refine g_goto (tgt := 17) hC d_Md_layTies_189 (by decide) ?_
      refine g_mask [true, true, true, true, false, false] (ls' := [some (.ref (κ.b + 249)), some (.int l1), some (.int l2), some (.int (l3 + 1)), none, none]) rfl ?_
      exact hk17 l1 l2 (l3 + 1) M
    · refine g_aload_n hC d_Md_layTies_129 rfl ?_
      refine fg_Md_69 hC lc_249 d_Md_layTies_130 p0_249_38 ?_
      refine g_iload hC d_Md_layTies_133 rfl ?_
      refine g_aload_n hC d_Md_layTies_135 rfl ?_
      refine fg_Md_33 hC lc_249 d_Md_layTies_136 p0_249_9 ?_
      refine g_aload_n hC d_Md_layTies_139 rfl ?_
      refine fg_Md_39 hC lc_249 d_Md_layTies_140 p0_249_13 ?_
      refine g_iload_n hC d_Md_layTies_143 rfl ?_
      refine gv_iald hC ly_257 d_Md_layTies_144 (fun x13 => ?_)
      refine gv_iald hC ly_255 d_Md_layTies_145 (fun x14 => ?_)
      refine g_iadd hC d_Md_layTies_146 ?_
      refine g_iload hC d_Md_layTies_147 rfl ?_
      refine g_iadd hC d_Md_layTies_149 ?_
      refine g_aload_n hC d_Md_layTies_150 rfl ?_
      refine fg_Md_112 hC lc_249 d_Md_layTies_151 ?_
      refine g_aload_n hC d_Md_layTies_154 rfl ?_
      refine fg_Md_45 hC lc_249 d_Md_layTies_155 p0_249_15 ?_
      refine g_bipush hC d_Md_layTies_158 k_b18 ?_
      refine g_iload_n hC d_Md_layTies_160 rfl ?_
      refine g_imul hC d_Md_layTies_161 ?_
      refine g_bipush hC d_Md_layTies_162 k_b9 ?_
      refine g_iadd hC d_Md_layTies_164 ?_
      refine g_iconst hC d_Md_layTies_165 k_i3 ?_
      refine g_iload_n hC d_Md_layTies_166 rfl ?_
      refine g_imul hC d_Md_layTies_167 ?_
      refine g_iadd hC d_Md_layTies_168 ?_
      refine g_iload hC d_Md_layTies_169 rfl ?_
      refine g_iadd hC d_Md_layTies_171 ?_
      refine gv_iald hC ly_259 d_Md_layTies_172 (fun x15 => ?_)
      refine g_isub hC d_Md_layTies_173 ?_
      refine g_aload_n hC d_Md_layTies_174 rfl ?_
      refine fg_Md_112 hC lc_249 d_Md_layTies_175 ?_
      refine g_irem hC d_Md_layTies_178 ?_
      refine gv_iast hC ly_267 d_Md_layTies_179 (fun M16 => ?_)
      refine g_iinc (ls' := [some (.ref (κ.b + 249)), some (.int l1), some (.int l2), some (.int l3), some (.int l4), some (.int (l5 + 1))]) hC d_Md_layTies_180 rfl k_i1 rfl rfl ?_
      refine g_goto (tgt := 113) hC d_Md_layTies_183 (by decide) ?_
      exact ih l1 l2 l3 l4 (l5 + 1) M16
set_option maxHeartbeats 2000000 in
theorem Md_layTies_L50_g {κ : tv_Kt} (hC : tv_Cx κ "TiedViewsModel" prog_14_method_37_code 6 1) (hR : tv_Re κ none) (F : Nat) {k7 : Int32 → Int32 → tv_M → Option (Unit × tv_M)} (hk7 : ∀ (l1 : Int32) (l2 : Int32) (M : tv_M), tv_G κ 6 (tv_Qm κ tv_ev) 7 [some (.ref (κ.b + 249)), some (.int l1), some (.int l2), none, none, none] [] M (k7 l1 l2 M)) {k17 : Int32 → Int32 → Int32 → tv_M → Option (Unit × tv_M)} (hk17 : ∀ (l1 : Int32) (l2 : Int32) (l3 : Int32) (M : tv_M), tv_G κ 6 (tv_Qm κ tv_ev) 17 [some (.ref (κ.b + 249)), some (.int l1), some (.int l2), some (.int l3), none, none] [] M (k17 l1 l2 l3 M)) : ∀ (n : Nat) (l1 : Int32) (l2 : Int32) (l3 : Int32) (l4 : Int32) (l5 : Int32) (M : tv_M), tv_G κ 6 (tv_Qm κ tv_ev) 50 [some (.ref (κ.b + 249)), some (.int l1), some (.int l2), some (.int l3), some (.int l4), some (.int l5)] [] M (Md_layTies_L50 F k7 k17 n l1 l2 l3 l4 l5 M) := by
  intro n
  induction n with
  | zero => intro _ _ _ _ _ _; exact g_none
  | succ nn ih =>
    intro l1 l2 l3 l4 l5 M
    rw [Md_layTies_L50]
    refine g_iload hC d_Md_layTies_50 rfl ?_
    refine g_aload_n hC d_Md_layTies_52 rfl ?_
    refine fg_Md_30 hC lc_249 d_Md_layTies_53 p0_249_8 ?_
    refine g_aload_n hC d_Md_layTies_56 rfl ?_
    refine fg_Md_36 hC lc_249 d_Md_layTies_57 p0_249_12 ?_
    refine g_iload_n hC d_Md_layTies_60 rfl ?_
    refine gv_iald hC ly_256 d_Md_layTies_61 (fun x5 => ?_)
    refine gv_iald hC ly_254 d_Md_layTies_62 (fun x6 => ?_)
    refine g_icmp_ge (tgt := 110) hC d_Md_layTies_63 (by decide) (fun _ => ?_) (fun _ => ?_)
    · refine g_iconst hC d_Md_layTies_110 k_i0 ?_
      refine g_istore (ls' := [some (.ref (κ.b + 249)), some (.int l1), some (.int l2), some (.int l3), some (.int l4), some (.int 0)]) hC d_Md_layTies_111 rfl rfl ?_
      exact Md_layTies_L113_g hC hR F hk7 hk17 F l1 l2 l3 l4 0 M
    · refine g_aload_n hC d_Md_layTies_66 rfl ?_
      refine fg_Md_69 hC lc_249 d_Md_layTies_67 p0_249_38 ?_
      refine g_iload hC d_Md_layTies_70 rfl ?_
      refine g_aload_n hC d_Md_layTies_72 rfl ?_
      refine fg_Md_33 hC lc_249 d_Md_layTies_73 p0_249_9 ?_
      refine g_aload_n hC d_Md_layTies_76 rfl ?_
      refine fg_Md_36 hC lc_249 d_Md_layTies_77 p0_249_12 ?_
      refine g_iload_n hC d_Md_layTies_80 rfl ?_
      refine gv_iald hC ly_256 d_Md_layTies_81 (fun x7 => ?_)
      refine gv_iald hC ly_255 d_Md_layTies_82 (fun x8 => ?_)
      refine g_iadd hC d_Md_layTies_83 ?_
      refine g_iload hC d_Md_layTies_84 rfl ?_
      refine g_iadd hC d_Md_layTies_86 ?_
      refine g_aload_n hC d_Md_layTies_87 rfl ?_
      refine fg_Md_45 hC lc_249 d_Md_layTies_88 p0_249_15 ?_
      refine g_bipush hC d_Md_layTies_91 k_b18 ?_
      refine g_iload_n hC d_Md_layTies_93 rfl ?_
      refine g_imul hC d_Md_layTies_94 ?_
      refine g_iconst hC d_Md_layTies_95 k_i3 ?_
      refine g_iload_n hC d_Md_layTies_96 rfl ?_
      refine g_imul hC d_Md_layTies_97 ?_
      refine g_iadd hC d_Md_layTies_98 ?_
      refine g_iload hC d_Md_layTies_99 rfl ?_
      refine g_iadd hC d_Md_layTies_101 ?_
      refine gv_iald hC ly_259 d_Md_layTies_102 (fun x9 => ?_)
      refine gv_iast hC ly_267 d_Md_layTies_103 (fun M10 => ?_)
      refine g_iinc (ls' := [some (.ref (κ.b + 249)), some (.int l1), some (.int l2), some (.int l3), some (.int l4), some (.int (l5 + 1))]) hC d_Md_layTies_104 rfl k_i1 rfl rfl ?_
      refine g_goto (tgt := 50) hC d_Md_layTies_107 (by decide) ?_
      exact ih l1 l2 l3 l4 (l5 + 1) M10
set_option maxHeartbeats 2000000 in
theorem Md_layTies_L17_g {κ : tv_Kt} (hC : tv_Cx κ "TiedViewsModel" prog_14_method_37_code 6 1) (hR : tv_Re κ none) (F : Nat) {k7 : Int32 → Int32 → tv_M → Option (Unit × tv_M)} (hk7 : ∀ (l1 : Int32) (l2 : Int32) (M : tv_M), tv_G κ 6 (tv_Qm κ tv_ev) 7 [some (.ref (κ.b + 249)), some (.int l1), some (.int l2), none, none, none] [] M (k7 l1 l2 M)) : ∀ (n : Nat) (l1 : Int32) (l2 : Int32) (l3 : Int32) (M : tv_M), tv_G κ 6 (tv_Qm κ tv_ev) 17 [some (.ref (κ.b + 249)), some (.int l1), some (.int l2), some (.int l3), none, none] [] M (Md_layTies_L17 F k7 n l1 l2 l3 M) := by
  intro n
  induction n with
  | zero => intro _ _ _ _; exact g_none
  | succ nn ih =>
    intro l1 l2 l3 M
    rw [Md_layTies_L17]
    refine g_iload_n hC d_Md_layTies_17 rfl ?_
    refine g_aload_n hC d_Md_layTies_18 rfl ?_
    refine fg_Md_42 hC lc_249 d_Md_layTies_19 p0_249_14 ?_
    refine g_iload_n hC d_Md_layTies_22 rfl ?_
    refine gv_iald hC ly_258 d_Md_layTies_23 (fun x2 => ?_)
    refine g_icmp_ge (tgt := 192) hC d_Md_layTies_24 (by decide) (fun _ => ?_) (fun _ => ?_)
    · refine g_iinc (ls' := [some (.ref (κ.b + 249)), some (.int l1), some (.int (l2 + 1)), some (.int l3), none, none]) hC d_Md_layTies_192 rfl k_i1 rfl rfl ?_
      refine g_goto (tgt := 7) hC d_Md_layTies_195 (by decide) ?_
      refine g_mask [true, true, true, false, false, false] (ls' := [some (.ref (κ.b + 249)), some (.int l1), some (.int (l2 + 1)), none, none, none]) rfl ?_
      exact hk7 l1 (l2 + 1) M
    · refine g_iload_n hC d_Md_layTies_27 rfl ?_
      refine g_iload_n hC d_Md_layTies_28 rfl ?_
      refine g_icmp_eq (tgt := 192) hC d_Md_layTies_29 (by decide) (fun _ => ?_) (fun _ => ?_)
      · refine g_iinc (ls' := [some (.ref (κ.b + 249)), some (.int l1), some (.int (l2 + 1)), some (.int l3), none, none]) hC d_Md_layTies_192 rfl k_i1 rfl rfl ?_
        refine g_goto (tgt := 7) hC d_Md_layTies_195 (by decide) ?_
        refine g_mask [true, true, true, false, false, false] (ls' := [some (.ref (κ.b + 249)), some (.int l1), some (.int (l2 + 1)), none, none, none]) rfl ?_
        exact hk7 l1 (l2 + 1) M
      · refine g_aload_n hC d_Md_layTies_32 rfl ?_
        refine gv_callVv hC [] cw_Md_274 (Md_addLine_c F M) lc_249 rfl rfl rfl rfl rfl rfl rfl d_Md_layTies_33 (fun r3 M4 => ?_)
        refine g_bipush hC d_Md_layTies_36 k_b55 ?_
        refine g_aload_n hC d_Md_layTies_38 rfl ?_
        refine fg_Md_271 hC lc_249 d_Md_layTies_39 ?_
        refine g_iconst hC d_Md_layTies_42 k_i1 ?_
        refine g_isub hC d_Md_layTies_43 ?_
        refine g_imul hC d_Md_layTies_44 ?_
        refine g_istore (ls' := [some (.ref (κ.b + 249)), some (.int l1), some (.int l2), some (.int l3), some (.int (55 * ((M4.1 249 37) - 1))), none]) hC d_Md_layTies_45 rfl rfl ?_
        refine g_iconst hC d_Md_layTies_47 k_i0 ?_
        refine g_istore (ls' := [some (.ref (κ.b + 249)), some (.int l1), some (.int l2), some (.int l3), some (.int (55 * ((M4.1 249 37) - 1))), some (.int 0)]) hC d_Md_layTies_48 rfl rfl ?_
        exact Md_layTies_L50_g hC hR F hk7 ih F l1 l2 l3 (55 * ((M4.1 249 37) - 1)) 0 M4
set_option maxHeartbeats 2000000 in
theorem Md_layTies_L7_g {κ : tv_Kt} (hC : tv_Cx κ "TiedViewsModel" prog_14_method_37_code 6 1) (hR : tv_Re κ none) (F : Nat) : ∀ (n : Nat) (l1 : Int32) (l2 : Int32) (M : tv_M), tv_G κ 6 (tv_Qm κ tv_ev) 7 [some (.ref (κ.b + 249)), some (.int l1), some (.int l2), none, none, none] [] M (Md_layTies_L7 F n l1 l2 M) := by
  intro n
  induction n with
  | zero => intro _ _ _; exact g_none
  | succ nn ih =>
    intro l1 l2 M
    rw [Md_layTies_L7]
    refine g_iload_n hC d_Md_layTies_7 rfl ?_
    refine g_aload_n hC d_Md_layTies_8 rfl ?_
    refine fg_Md_238 hC lc_249 d_Md_layTies_9 ?_
    refine g_icmp_ge (tgt := 198) hC d_Md_layTies_12 (by decide) (fun _ => ?_) (fun _ => ?_)
    · exact g_vret hC hR d_Md_layTies_198
    · refine g_iconst hC d_Md_layTies_15 k_i0 ?_
      refine g_istore_n (ls' := [some (.ref (κ.b + 249)), some (.int l1), some (.int l2), some (.int 0), none, none]) hC d_Md_layTies_16 rfl rfl ?_
      exact Md_layTies_L17_g hC hR F ih F l1 l2 0 M
set_option maxHeartbeats 2000000 in
theorem Md_layTies_c {l : Launch} {θ : tv_Th} (F : Nat) (a1 : Int32) (M : tv_M) : tv_Ct l θ ⟨"TiedViewsModel", "layTies", "(I)V"⟩ prog_14_method_37_code 6 none 1 tv_ev [.ref (θ.1 + 249), .int a1] M (Md_layTies F a1 M) := by
  refine tv_ofG [some (.ref (θ.1 + 249)), some (.int a1), none, none, none, none] rfl rfl (tv_ent 4 rfl) ?_
  intro κ hl ht hC hR
  subst hl; subst ht
  unfold Md_layTies
  refine g_aload_n hC d_Md_layTies_0 rfl ?_
  refine g_iconst hC d_Md_layTies_1 k_i0 ?_
  refine fp_Md_271 hC lc_249 d_Md_layTies_2 (fun M1 => ?_)
  refine g_iconst hC d_Md_layTies_5 k_i0 ?_
  refine g_istore_n (ls' := [some (.ref (κ.b + 249)), some (.int a1), some (.int 0), none, none, none]) hC d_Md_layTies_6 rfl rfl ?_
  exact Md_layTies_L7_g hC hR F F a1 0 M1
theorem d_Md_turned_0 : decode prog_14_method_6_code 0 = .ok (.iconst 1, 1) := by decide +kernel
theorem d_Md_turned_1 : decode prog_14_method_6_code 1 = .ok (.istore_n 2, 1) := by decide +kernel
theorem d_Md_turned_2 : decode prog_14_method_6_code 2 = .ok (.iload_n 2, 1) := by decide +kernel
theorem d_Md_turned_3 : decode prog_14_method_6_code 3 = .ok (.iload_n 1, 1) := by decide +kernel
theorem d_Md_turned_4 : decode prog_14_method_6_code 4 = .ok (.imul, 1) := by decide +kernel
theorem d_Md_turned_5 : decode prog_14_method_6_code 5 = .ok (.aload_n 0, 1) := by decide +kernel
theorem d_Md_turned_6 : decode prog_14_method_6_code 6 = .ok (.getfield 112, 3) := by decide +kernel
theorem d_Md_turned_9 : decode prog_14_method_6_code 9 = .ok (.irem, 1) := by decide +kernel
theorem d_Md_turned_10 : decode prog_14_method_6_code 10 = .ok (.iconst 1, 1) := by decide +kernel
theorem d_Md_turned_11 : decode prog_14_method_6_code 11 = .ok (.if_icmp .eq 9, 3) := by decide +kernel
theorem d_Md_turned_14 : decode prog_14_method_6_code 14 = .ok (.iinc 2 1, 3) := by decide +kernel
theorem d_Md_turned_17 : decode prog_14_method_6_code 17 = .ok (.goto (-15), 3) := by decide +kernel
theorem d_Md_turned_20 : decode prog_14_method_6_code 20 = .ok (.iload_n 2, 1) := by decide +kernel
theorem d_Md_turned_21 : decode prog_14_method_6_code 21 = .ok (.ireturn, 1) := by decide +kernel
set_option maxHeartbeats 2000000 in
theorem Md_turned_L2_g {κ : tv_Kt} (hC : tv_Cx κ "TiedViewsModel" prog_14_method_6_code 3 0) (hR : tv_Re κ (some .int)) (F : Nat) : ∀ (n : Nat) (l1 : Int32) (l2 : Int32) (M : tv_M), tv_G κ 3 (tv_Qm κ tv_ei) 2 [some (.ref (κ.b + 249)), some (.int l1), some (.int l2)] [] M (Md_turned_L2 F n l1 l2 M) := by
  intro n
  induction n with
  | zero => intro _ _ _; exact g_none
  | succ nn ih =>
    intro l1 l2 M
    rw [Md_turned_L2]
    refine g_iload_n hC d_Md_turned_2 rfl ?_
    refine g_iload_n hC d_Md_turned_3 rfl ?_
    refine g_imul hC d_Md_turned_4 ?_
    refine g_aload_n hC d_Md_turned_5 rfl ?_
    refine fg_Md_112 hC lc_249 d_Md_turned_6 ?_
    refine g_irem hC d_Md_turned_9 ?_
    refine g_iconst hC d_Md_turned_10 k_i1 ?_
    refine g_icmp_eq (tgt := 20) hC d_Md_turned_11 (by decide) (fun _ => ?_) (fun _ => ?_)
    · refine g_iload_n hC d_Md_turned_20 rfl ?_
      exact g_iret hC hR d_Md_turned_21
    · refine g_iinc (ls' := [some (.ref (κ.b + 249)), some (.int l1), some (.int (l2 + 1))]) hC d_Md_turned_14 rfl k_i1 rfl rfl ?_
      refine g_goto (tgt := 2) hC d_Md_turned_17 (by decide) ?_
      exact ih l1 (l2 + 1) M
set_option maxHeartbeats 2000000 in
theorem Md_turned_c {l : Launch} {θ : tv_Th} (F : Nat) (a1 : Int32) (M : tv_M) : tv_Ct l θ ⟨"TiedViewsModel", "turned", "(I)I"⟩ prog_14_method_6_code 3 (some .int) 0 tv_ei [.ref (θ.1 + 249), .int a1] M (Md_turned F a1 M) := by
  refine tv_ofG [some (.ref (θ.1 + 249)), some (.int a1), none] rfl rfl (tv_ent 1 rfl) ?_
  intro κ hl ht hC hR
  subst hl; subst ht
  unfold Md_turned
  refine g_iconst hC d_Md_turned_0 k_i1 ?_
  refine g_istore_n (ls' := [some (.ref (κ.b + 249)), some (.int a1), some (.int 1)]) hC d_Md_turned_1 rfl rfl ?_
  exact Md_turned_L2_g hC hR F F a1 1 M
theorem d_Md_takeSteps_0 : decode prog_14_method_38_code 0 = .ok (.iconst 0, 1) := by decide +kernel
theorem d_Md_takeSteps_1 : decode prog_14_method_38_code 1 = .ok (.istore_n 1, 1) := by decide +kernel
theorem d_Md_takeSteps_2 : decode prog_14_method_38_code 2 = .ok (.iload_n 1, 1) := by decide +kernel
theorem d_Md_takeSteps_3 : decode prog_14_method_38_code 3 = .ok (.aload_n 0, 1) := by decide +kernel
theorem d_Md_takeSteps_4 : decode prog_14_method_38_code 4 = .ok (.getfield 271, 3) := by decide +kernel
theorem d_Md_takeSteps_7 : decode prog_14_method_38_code 7 = .ok (.if_icmp .ge 16, 3) := by decide +kernel
theorem d_Md_takeSteps_10 : decode prog_14_method_38_code 10 = .ok (.aload_n 0, 1) := by decide +kernel
theorem d_Md_takeSteps_11 : decode prog_14_method_38_code 11 = .ok (.getfield 72, 3) := by decide +kernel
theorem d_Md_takeSteps_14 : decode prog_14_method_38_code 14 = .ok (.iload_n 1, 1) := by decide +kernel
theorem d_Md_takeSteps_15 : decode prog_14_method_38_code 15 = .ok (.iconst 0, 1) := by decide +kernel
theorem d_Md_takeSteps_16 : decode prog_14_method_38_code 16 = .ok (.bastore, 1) := by decide +kernel
theorem d_Md_takeSteps_17 : decode prog_14_method_38_code 17 = .ok (.iinc 1 1, 3) := by decide +kernel
theorem d_Md_takeSteps_20 : decode prog_14_method_38_code 20 = .ok (.goto (-18), 3) := by decide +kernel
theorem d_Md_takeSteps_23 : decode prog_14_method_38_code 23 = .ok (.iconst 0, 1) := by decide +kernel
theorem d_Md_takeSteps_24 : decode prog_14_method_38_code 24 = .ok (.istore_n 1, 1) := by decide +kernel
theorem d_Md_takeSteps_25 : decode prog_14_method_38_code 25 = .ok (.iload_n 1, 1) := by decide +kernel
theorem d_Md_takeSteps_26 : decode prog_14_method_38_code 26 = .ok (.aload_n 0, 1) := by decide +kernel
theorem d_Md_takeSteps_27 : decode prog_14_method_38_code 27 = .ok (.getfield 235, 3) := by decide +kernel
theorem d_Md_takeSteps_30 : decode prog_14_method_38_code 30 = .ok (.if_icmp .ge 279, 3) := by decide +kernel
theorem d_Md_takeSteps_33 : decode prog_14_method_38_code 33 = .ok (.aload_n 0, 1) := by decide +kernel
theorem d_Md_takeSteps_34 : decode prog_14_method_38_code 34 = .ok (.getfield 76, 3) := by decide +kernel
theorem d_Md_takeSteps_37 : decode prog_14_method_38_code 37 = .ok (.iload_n 1, 1) := by decide +kernel
theorem d_Md_takeSteps_38 : decode prog_14_method_38_code 38 = .ok (.ldc 146, 2) := by decide +kernel
theorem d_Md_takeSteps_40 : decode prog_14_method_38_code 40 = .ok (.iastore, 1) := by decide +kernel
theorem d_Md_takeSteps_41 : decode prog_14_method_38_code 41 = .ok (.iconst 0, 1) := by decide +kernel
theorem d_Md_takeSteps_42 : decode prog_14_method_38_code 42 = .ok (.istore_n 2, 1) := by decide +kernel
theorem d_Md_takeSteps_43 : decode prog_14_method_38_code 43 = .ok (.iload_n 2, 1) := by decide +kernel
theorem d_Md_takeSteps_44 : decode prog_14_method_38_code 44 = .ok (.aload_n 0, 1) := by decide +kernel
theorem d_Md_takeSteps_45 : decode prog_14_method_38_code 45 = .ok (.getfield 271, 3) := by decide +kernel
theorem d_Md_takeSteps_48 : decode prog_14_method_38_code 48 = .ok (.if_icmp .ge 55, 3) := by decide +kernel
theorem d_Md_takeSteps_51 : decode prog_14_method_38_code 51 = .ok (.aload_n 0, 1) := by decide +kernel
theorem d_Md_takeSteps_52 : decode prog_14_method_38_code 52 = .ok (.getfield 76, 3) := by decide +kernel
theorem d_Md_takeSteps_55 : decode prog_14_method_38_code 55 = .ok (.iload_n 1, 1) := by decide +kernel
theorem d_Md_takeSteps_56 : decode prog_14_method_38_code 56 = .ok (.iaload, 1) := by decide +kernel
theorem d_Md_takeSteps_57 : decode prog_14_method_38_code 57 = .ok (.ldc 146, 2) := by decide +kernel
theorem d_Md_takeSteps_59 : decode prog_14_method_38_code 59 = .ok (.if_icmp .ne 44, 3) := by decide +kernel
theorem d_Md_takeSteps_62 : decode prog_14_method_38_code 62 = .ok (.aload_n 0, 1) := by decide +kernel
theorem d_Md_takeSteps_63 : decode prog_14_method_38_code 63 = .ok (.getfield 76, 3) := by decide +kernel
theorem d_Md_takeSteps_66 : decode prog_14_method_38_code 66 = .ok (.iload_n 1, 1) := by decide +kernel
theorem d_Md_takeSteps_67 : decode prog_14_method_38_code 67 = .ok (.aload_n 0, 1) := by decide +kernel
theorem d_Md_takeSteps_68 : decode prog_14_method_38_code 68 = .ok (.getfield 72, 3) := by decide +kernel
theorem d_Md_takeSteps_71 : decode prog_14_method_38_code 71 = .ok (.iload_n 2, 1) := by decide +kernel
theorem d_Md_takeSteps_72 : decode prog_14_method_38_code 72 = .ok (.baload, 1) := by decide +kernel
theorem d_Md_takeSteps_73 : decode prog_14_method_38_code 73 = .ok (.ifCond .ne 21, 3) := by decide +kernel
theorem d_Md_takeSteps_76 : decode prog_14_method_38_code 76 = .ok (.aload_n 0, 1) := by decide +kernel
theorem d_Md_takeSteps_77 : decode prog_14_method_38_code 77 = .ok (.getfield 69, 3) := by decide +kernel
theorem d_Md_takeSteps_80 : decode prog_14_method_38_code 80 = .ok (.bipush 55, 2) := by decide +kernel
theorem d_Md_takeSteps_82 : decode prog_14_method_38_code 82 = .ok (.iload_n 2, 1) := by decide +kernel
theorem d_Md_takeSteps_83 : decode prog_14_method_38_code 83 = .ok (.imul, 1) := by decide +kernel
theorem d_Md_takeSteps_84 : decode prog_14_method_38_code 84 = .ok (.iload_n 1, 1) := by decide +kernel
theorem d_Md_takeSteps_85 : decode prog_14_method_38_code 85 = .ok (.iadd, 1) := by decide +kernel
theorem d_Md_takeSteps_86 : decode prog_14_method_38_code 86 = .ok (.iaload, 1) := by decide +kernel
theorem d_Md_takeSteps_87 : decode prog_14_method_38_code 87 = .ok (.ifCond .eq 7, 3) := by decide +kernel
theorem d_Md_takeSteps_90 : decode prog_14_method_38_code 90 = .ok (.iload_n 2, 1) := by decide +kernel
theorem d_Md_takeSteps_91 : decode prog_14_method_38_code 91 = .ok (.goto 5, 3) := by decide +kernel
theorem d_Md_takeSteps_94 : decode prog_14_method_38_code 94 = .ok (.ldc 146, 2) := by decide +kernel
theorem d_Md_takeSteps_96 : decode prog_14_method_38_code 96 = .ok (.iastore, 1) := by decide +kernel
theorem d_Md_takeSteps_97 : decode prog_14_method_38_code 97 = .ok (.iinc 2 1, 3) := by decide +kernel
theorem d_Md_takeSteps_100 : decode prog_14_method_38_code 100 = .ok (.goto (-57), 3) := by decide +kernel
theorem d_Md_takeSteps_103 : decode prog_14_method_38_code 103 = .ok (.aload_n 0, 1) := by decide +kernel
theorem d_Md_takeSteps_104 : decode prog_14_method_38_code 104 = .ok (.getfield 76, 3) := by decide +kernel
theorem d_Md_takeSteps_107 : decode prog_14_method_38_code 107 = .ok (.iload_n 1, 1) := by decide +kernel
theorem d_Md_takeSteps_108 : decode prog_14_method_38_code 108 = .ok (.iaload, 1) := by decide +kernel
theorem d_Md_takeSteps_109 : decode prog_14_method_38_code 109 = .ok (.ldc 146, 2) := by decide +kernel
theorem d_Md_takeSteps_111 : decode prog_14_method_38_code 111 = .ok (.if_icmp .eq 192, 3) := by decide +kernel
theorem d_Md_takeSteps_114 : decode prog_14_method_38_code 114 = .ok (.bipush 55, 2) := by decide +kernel
theorem d_Md_takeSteps_116 : decode prog_14_method_38_code 116 = .ok (.aload_n 0, 1) := by decide +kernel
theorem d_Md_takeSteps_117 : decode prog_14_method_38_code 117 = .ok (.getfield 76, 3) := by decide +kernel
theorem d_Md_takeSteps_120 : decode prog_14_method_38_code 120 = .ok (.iload_n 1, 1) := by decide +kernel
theorem d_Md_takeSteps_121 : decode prog_14_method_38_code 121 = .ok (.iaload, 1) := by decide +kernel
theorem d_Md_takeSteps_122 : decode prog_14_method_38_code 122 = .ok (.imul, 1) := by decide +kernel
theorem d_Md_takeSteps_123 : decode prog_14_method_38_code 123 = .ok (.istore_n 2, 1) := by decide +kernel
theorem d_Md_takeSteps_124 : decode prog_14_method_38_code 124 = .ok (.aload_n 0, 1) := by decide +kernel
theorem d_Md_takeSteps_125 : decode prog_14_method_38_code 125 = .ok (.getfield 72, 3) := by decide +kernel
theorem d_Md_takeSteps_128 : decode prog_14_method_38_code 128 = .ok (.aload_n 0, 1) := by decide +kernel
theorem d_Md_takeSteps_129 : decode prog_14_method_38_code 129 = .ok (.getfield 76, 3) := by decide +kernel
theorem d_Md_takeSteps_132 : decode prog_14_method_38_code 132 = .ok (.iload_n 1, 1) := by decide +kernel
theorem d_Md_takeSteps_133 : decode prog_14_method_38_code 133 = .ok (.iaload, 1) := by decide +kernel
theorem d_Md_takeSteps_134 : decode prog_14_method_38_code 134 = .ok (.iconst 1, 1) := by decide +kernel
theorem d_Md_takeSteps_135 : decode prog_14_method_38_code 135 = .ok (.bastore, 1) := by decide +kernel
theorem d_Md_takeSteps_136 : decode prog_14_method_38_code 136 = .ok (.aload_n 0, 1) := by decide +kernel
theorem d_Md_takeSteps_137 : decode prog_14_method_38_code 137 = .ok (.aload_n 0, 1) := by decide +kernel
theorem d_Md_takeSteps_138 : decode prog_14_method_38_code 138 = .ok (.getfield 69, 3) := by decide +kernel
theorem d_Md_takeSteps_141 : decode prog_14_method_38_code 141 = .ok (.iload_n 2, 1) := by decide +kernel
theorem d_Md_takeSteps_142 : decode prog_14_method_38_code 142 = .ok (.iload_n 1, 1) := by decide +kernel
theorem d_Md_takeSteps_143 : decode prog_14_method_38_code 143 = .ok (.iadd, 1) := by decide +kernel
theorem d_Md_takeSteps_144 : decode prog_14_method_38_code 144 = .ok (.iaload, 1) := by decide +kernel
theorem d_Md_takeSteps_145 : decode prog_14_method_38_code 145 = .ok (.invokevirtual 277, 3) := by decide +kernel
theorem d_Md_takeSteps_148 : decode prog_14_method_38_code 148 = .ok (.istore_n 3, 1) := by decide +kernel
theorem d_Md_takeSteps_149 : decode prog_14_method_38_code 149 = .ok (.iconst 0, 1) := by decide +kernel
theorem d_Md_takeSteps_150 : decode prog_14_method_38_code 150 = .ok (.istore 4, 2) := by decide +kernel
theorem d_Md_takeSteps_152 : decode prog_14_method_38_code 152 = .ok (.iload 4, 2) := by decide +kernel
theorem d_Md_takeSteps_154 : decode prog_14_method_38_code 154 = .ok (.bipush 55, 2) := by decide +kernel
theorem d_Md_takeSteps_156 : decode prog_14_method_38_code 156 = .ok (.if_icmp .ge 34, 3) := by decide +kernel
theorem d_Md_takeSteps_159 : decode prog_14_method_38_code 159 = .ok (.aload_n 0, 1) := by decide +kernel
theorem d_Md_takeSteps_160 : decode prog_14_method_38_code 160 = .ok (.getfield 69, 3) := by decide +kernel
theorem d_Md_takeSteps_163 : decode prog_14_method_38_code 163 = .ok (.iload_n 2, 1) := by decide +kernel
theorem d_Md_takeSteps_164 : decode prog_14_method_38_code 164 = .ok (.iload 4, 2) := by decide +kernel
theorem d_Md_takeSteps_166 : decode prog_14_method_38_code 166 = .ok (.iadd, 1) := by decide +kernel
theorem d_Md_takeSteps_167 : decode prog_14_method_38_code 167 = .ok (.aload_n 0, 1) := by decide +kernel
theorem d_Md_takeSteps_168 : decode prog_14_method_38_code 168 = .ok (.getfield 69, 3) := by decide +kernel
theorem d_Md_takeSteps_171 : decode prog_14_method_38_code 171 = .ok (.iload_n 2, 1) := by decide +kernel
theorem d_Md_takeSteps_172 : decode prog_14_method_38_code 172 = .ok (.iload 4, 2) := by decide +kernel
theorem d_Md_takeSteps_174 : decode prog_14_method_38_code 174 = .ok (.iadd, 1) := by decide +kernel
theorem d_Md_takeSteps_175 : decode prog_14_method_38_code 175 = .ok (.iaload, 1) := by decide +kernel
theorem d_Md_takeSteps_176 : decode prog_14_method_38_code 176 = .ok (.iload_n 3, 1) := by decide +kernel
theorem d_Md_takeSteps_177 : decode prog_14_method_38_code 177 = .ok (.imul, 1) := by decide +kernel
theorem d_Md_takeSteps_178 : decode prog_14_method_38_code 178 = .ok (.aload_n 0, 1) := by decide +kernel
theorem d_Md_takeSteps_179 : decode prog_14_method_38_code 179 = .ok (.getfield 112, 3) := by decide +kernel
theorem d_Md_takeSteps_182 : decode prog_14_method_38_code 182 = .ok (.irem, 1) := by decide +kernel
theorem d_Md_takeSteps_183 : decode prog_14_method_38_code 183 = .ok (.iastore, 1) := by decide +kernel
theorem d_Md_takeSteps_184 : decode prog_14_method_38_code 184 = .ok (.iinc 4 1, 3) := by decide +kernel
theorem d_Md_takeSteps_187 : decode prog_14_method_38_code 187 = .ok (.goto (-35), 3) := by decide +kernel
theorem d_Md_takeSteps_190 : decode prog_14_method_38_code 190 = .ok (.iconst 0, 1) := by decide +kernel
theorem d_Md_takeSteps_191 : decode prog_14_method_38_code 191 = .ok (.istore 4, 2) := by decide +kernel
theorem d_Md_takeSteps_193 : decode prog_14_method_38_code 193 = .ok (.iload 4, 2) := by decide +kernel
theorem d_Md_takeSteps_195 : decode prog_14_method_38_code 195 = .ok (.aload_n 0, 1) := by decide +kernel
theorem d_Md_takeSteps_196 : decode prog_14_method_38_code 196 = .ok (.getfield 271, 3) := by decide +kernel
theorem d_Md_takeSteps_199 : decode prog_14_method_38_code 199 = .ok (.if_icmp .ge 104, 3) := by decide +kernel
theorem d_Md_takeSteps_202 : decode prog_14_method_38_code 202 = .ok (.aload_n 0, 1) := by decide +kernel
theorem d_Md_takeSteps_203 : decode prog_14_method_38_code 203 = .ok (.getfield 69, 3) := by decide +kernel
theorem d_Md_takeSteps_206 : decode prog_14_method_38_code 206 = .ok (.bipush 55, 2) := by decide +kernel
theorem d_Md_takeSteps_208 : decode prog_14_method_38_code 208 = .ok (.iload 4, 2) := by decide +kernel
theorem d_Md_takeSteps_210 : decode prog_14_method_38_code 210 = .ok (.imul, 1) := by decide +kernel
theorem d_Md_takeSteps_211 : decode prog_14_method_38_code 211 = .ok (.iload_n 1, 1) := by decide +kernel
theorem d_Md_takeSteps_212 : decode prog_14_method_38_code 212 = .ok (.iadd, 1) := by decide +kernel
theorem d_Md_takeSteps_213 : decode prog_14_method_38_code 213 = .ok (.iaload, 1) := by decide +kernel
theorem d_Md_takeSteps_214 : decode prog_14_method_38_code 214 = .ok (.istore 5, 2) := by decide +kernel
theorem d_Md_takeSteps_216 : decode prog_14_method_38_code 216 = .ok (.iconst 0, 1) := by decide +kernel
theorem d_Md_takeSteps_217 : decode prog_14_method_38_code 217 = .ok (.istore 6, 2) := by decide +kernel
theorem d_Md_takeSteps_219 : decode prog_14_method_38_code 219 = .ok (.iload 6, 2) := by decide +kernel
theorem d_Md_takeSteps_221 : decode prog_14_method_38_code 221 = .ok (.bipush 55, 2) := by decide +kernel
theorem d_Md_takeSteps_223 : decode prog_14_method_38_code 223 = .ok (.if_icmp .ge 74, 3) := by decide +kernel
theorem d_Md_takeSteps_226 : decode prog_14_method_38_code 226 = .ok (.iload 4, 2) := by decide +kernel
theorem d_Md_takeSteps_228 : decode prog_14_method_38_code 228 = .ok (.aload_n 0, 1) := by decide +kernel
theorem d_Md_takeSteps_229 : decode prog_14_method_38_code 229 = .ok (.getfield 76, 3) := by decide +kernel
theorem d_Md_takeSteps_232 : decode prog_14_method_38_code 232 = .ok (.iload_n 1, 1) := by decide +kernel
theorem d_Md_takeSteps_233 : decode prog_14_method_38_code 233 = .ok (.iaload, 1) := by decide +kernel
theorem d_Md_takeSteps_234 : decode prog_14_method_38_code 234 = .ok (.if_icmp .eq 63, 3) := by decide +kernel
theorem d_Md_takeSteps_237 : decode prog_14_method_38_code 237 = .ok (.iload 5, 2) := by decide +kernel
theorem d_Md_takeSteps_239 : decode prog_14_method_38_code 239 = .ok (.ifCond .eq 58, 3) := by decide +kernel
theorem d_Md_takeSteps_242 : decode prog_14_method_38_code 242 = .ok (.aload_n 0, 1) := by decide +kernel
theorem d_Md_takeSteps_243 : decode prog_14_method_38_code 243 = .ok (.getfield 69, 3) := by decide +kernel
theorem d_Md_takeSteps_246 : decode prog_14_method_38_code 246 = .ok (.bipush 55, 2) := by decide +kernel
theorem d_Md_takeSteps_248 : decode prog_14_method_38_code 248 = .ok (.iload 4, 2) := by decide +kernel
theorem d_Md_takeSteps_250 : decode prog_14_method_38_code 250 = .ok (.imul, 1) := by decide +kernel
theorem d_Md_takeSteps_251 : decode prog_14_method_38_code 251 = .ok (.iload 6, 2) := by decide +kernel
theorem d_Md_takeSteps_253 : decode prog_14_method_38_code 253 = .ok (.iadd, 1) := by decide +kernel
theorem d_Md_takeSteps_254 : decode prog_14_method_38_code 254 = .ok (.aload_n 0, 1) := by decide +kernel
theorem d_Md_takeSteps_255 : decode prog_14_method_38_code 255 = .ok (.getfield 69, 3) := by decide +kernel
theorem d_Md_takeSteps_258 : decode prog_14_method_38_code 258 = .ok (.bipush 55, 2) := by decide +kernel
theorem d_Md_takeSteps_260 : decode prog_14_method_38_code 260 = .ok (.iload 4, 2) := by decide +kernel
theorem d_Md_takeSteps_262 : decode prog_14_method_38_code 262 = .ok (.imul, 1) := by decide +kernel
theorem d_Md_takeSteps_263 : decode prog_14_method_38_code 263 = .ok (.iload 6, 2) := by decide +kernel
theorem d_Md_takeSteps_265 : decode prog_14_method_38_code 265 = .ok (.iadd, 1) := by decide +kernel
theorem d_Md_takeSteps_266 : decode prog_14_method_38_code 266 = .ok (.iaload, 1) := by decide +kernel
theorem d_Md_takeSteps_267 : decode prog_14_method_38_code 267 = .ok (.aload_n 0, 1) := by decide +kernel
theorem d_Md_takeSteps_268 : decode prog_14_method_38_code 268 = .ok (.getfield 112, 3) := by decide +kernel
theorem d_Md_takeSteps_271 : decode prog_14_method_38_code 271 = .ok (.iload 5, 2) := by decide +kernel
theorem d_Md_takeSteps_273 : decode prog_14_method_38_code 273 = .ok (.isub, 1) := by decide +kernel
theorem d_Md_takeSteps_274 : decode prog_14_method_38_code 274 = .ok (.aload_n 0, 1) := by decide +kernel
theorem d_Md_takeSteps_275 : decode prog_14_method_38_code 275 = .ok (.getfield 69, 3) := by decide +kernel
theorem d_Md_takeSteps_278 : decode prog_14_method_38_code 278 = .ok (.iload_n 2, 1) := by decide +kernel
theorem d_Md_takeSteps_279 : decode prog_14_method_38_code 279 = .ok (.iload 6, 2) := by decide +kernel
theorem d_Md_takeSteps_281 : decode prog_14_method_38_code 281 = .ok (.iadd, 1) := by decide +kernel
theorem d_Md_takeSteps_282 : decode prog_14_method_38_code 282 = .ok (.iaload, 1) := by decide +kernel
theorem d_Md_takeSteps_283 : decode prog_14_method_38_code 283 = .ok (.imul, 1) := by decide +kernel
theorem d_Md_takeSteps_284 : decode prog_14_method_38_code 284 = .ok (.iadd, 1) := by decide +kernel
theorem d_Md_takeSteps_285 : decode prog_14_method_38_code 285 = .ok (.aload_n 0, 1) := by decide +kernel
theorem d_Md_takeSteps_286 : decode prog_14_method_38_code 286 = .ok (.getfield 112, 3) := by decide +kernel
theorem d_Md_takeSteps_289 : decode prog_14_method_38_code 289 = .ok (.irem, 1) := by decide +kernel
theorem d_Md_takeSteps_290 : decode prog_14_method_38_code 290 = .ok (.iastore, 1) := by decide +kernel
theorem d_Md_takeSteps_291 : decode prog_14_method_38_code 291 = .ok (.iinc 6 1, 3) := by decide +kernel
theorem d_Md_takeSteps_294 : decode prog_14_method_38_code 294 = .ok (.goto (-75), 3) := by decide +kernel
theorem d_Md_takeSteps_297 : decode prog_14_method_38_code 297 = .ok (.iinc 4 1, 3) := by decide +kernel
theorem d_Md_takeSteps_300 : decode prog_14_method_38_code 300 = .ok (.goto (-107), 3) := by decide +kernel
theorem d_Md_takeSteps_303 : decode prog_14_method_38_code 303 = .ok (.iinc 1 1, 3) := by decide +kernel
theorem d_Md_takeSteps_306 : decode prog_14_method_38_code 306 = .ok (.goto (-281), 3) := by decide +kernel
theorem d_Md_takeSteps_309 : decode prog_14_method_38_code 309 = .ok (.return_, 1) := by decide +kernel
set_option maxHeartbeats 2000000 in
theorem Md_takeSteps_L219_g {κ : tv_Kt} (hC : tv_Cx κ "TiedViewsModel" prog_14_method_38_code 7 1) (hR : tv_Re κ none) (F : Nat) {k25 : Int32 → tv_M → Option (Unit × tv_M)} (hk25 : ∀ (l1 : Int32) (M : tv_M), tv_G κ 7 (tv_Qm κ tv_ev) 25 [some (.ref (κ.b + 249)), some (.int l1), none, none, none, none, none] [] M (k25 l1 M)) {k193 : Int32 → Int32 → Int32 → tv_M → Option (Unit × tv_M)} (hk193 : ∀ (l1 : Int32) (l2 : Int32) (l4 : Int32) (M : tv_M), tv_G κ 7 (tv_Qm κ tv_ev) 193 [some (.ref (κ.b + 249)), some (.int l1), some (.int l2), none, some (.int l4), none, none] [] M (k193 l1 l2 l4 M)) : ∀ (n : Nat) (l1 : Int32) (l2 : Int32) (l4 : Int32) (l5 : Int32) (l6 : Int32) (M : tv_M), tv_G κ 7 (tv_Qm κ tv_ev) 219 [some (.ref (κ.b + 249)), some (.int l1), some (.int l2), none, some (.int l4), some (.int l5), some (.int l6)] [] M (Md_takeSteps_L219 F k25 k193 n l1 l2 l4 l5 l6 M) := by
  intro n
  induction n with
  | zero => intro _ _ _ _ _ _; exact g_none
  | succ nn ih =>
    intro l1 l2 l4 l5 l6 M
    rw [Md_takeSteps_L219]
    refine g_iload hC d_Md_takeSteps_219 rfl ?_
    refine g_bipush hC d_Md_takeSteps_221 k_b55 ?_
    refine g_icmp_ge (tgt := 297) hC d_Md_takeSteps_223 (by decide) (fun _ => ?_) (fun _ => ?_)
    · refine g_iinc (ls' := [some (.ref (κ.b + 249)), some (.int l1), some (.int l2), none, some (.int (l4 + 1)), some (.int l5), some (.int l6)]) hC d_Md_takeSteps_297 rfl k_i1 rfl rfl ?_
      refine g_goto (tgt := 193) hC d_Md_takeSteps_300 (by decide) ?_
      refine g_mask [true, true, true, false, true, false, false] (ls' := [some (.ref (κ.b + 249)), some (.int l1), some (.int l2), none, some (.int (l4 + 1)), none, none]) rfl ?_
      exact hk193 l1 l2 (l4 + 1) M
    · refine g_iload hC d_Md_takeSteps_226 rfl ?_
      refine g_aload_n hC d_Md_takeSteps_228 rfl ?_
      refine fg_Md_76 hC lc_249 d_Md_takeSteps_229 p0_249_40 ?_
      refine g_iload_n hC d_Md_takeSteps_232 rfl ?_
      refine gv_iald hC ly_269 d_Md_takeSteps_233 (fun x19 => ?_)
      refine g_icmp_eq (tgt := 297) hC d_Md_takeSteps_234 (by decide) (fun _ => ?_) (fun _ => ?_)
      · refine g_iinc (ls' := [some (.ref (κ.b + 249)), some (.int l1), some (.int l2), none, some (.int (l4 + 1)), some (.int l5), some (.int l6)]) hC d_Md_takeSteps_297 rfl k_i1 rfl rfl ?_
        refine g_goto (tgt := 193) hC d_Md_takeSteps_300 (by decide) ?_
        refine g_mask [true, true, true, false, true, false, false] (ls' := [some (.ref (κ.b + 249)), some (.int l1), some (.int l2), none, some (.int (l4 + 1)), none, none]) rfl ?_
        exact hk193 l1 l2 (l4 + 1) M
      · refine g_iload hC d_Md_takeSteps_237 rfl ?_
        refine g_if_eq (tgt := 297) hC d_Md_takeSteps_239 (by decide) (fun _ => ?_) (fun _ => ?_)
        · refine g_iinc (ls' := [some (.ref (κ.b + 249)), some (.int l1), some (.int l2), none, some (.int (l4 + 1)), some (.int l5), some (.int l6)]) hC d_Md_takeSteps_297 rfl k_i1 rfl rfl ?_
          refine g_goto (tgt := 193) hC d_Md_takeSteps_300 (by decide) ?_
          refine g_mask [true, true, true, false, true, false, false] (ls' := [some (.ref (κ.b + 249)), some (.int l1), some (.int l2), none, some (.int (l4 + 1)), none, none]) rfl ?_
          exact hk193 l1 l2 (l4 + 1) M
        · refine g_aload_n hC d_Md_takeSteps_242 rfl ?_
          refine fg_Md_69 hC lc_249 d_Md_takeSteps_243 p0_249_38 ?_
          refine g_bipush hC d_Md_takeSteps_246 k_b55 ?_
          refine g_iload hC d_Md_takeSteps_248 rfl ?_
          refine g_imul hC d_Md_takeSteps_250 ?_
          refine g_iload hC d_Md_takeSteps_251 rfl ?_
          refine g_iadd hC d_Md_takeSteps_253 ?_
          refine g_aload_n hC d_Md_takeSteps_254 rfl ?_
          refine fg_Md_69 hC lc_249 d_Md_takeSteps_255 p0_249_38 ?_
          refine g_bipush hC d_Md_takeSteps_258 k_b55 ?_
          refine g_iload hC d_Md_takeSteps_260 rfl ?_
          refine g_imul hC d_Md_takeSteps_262 ?_
          refine g_iload hC d_Md_takeSteps_263 rfl ?_
          refine g_iadd hC d_Md_takeSteps_265 ?_
          refine gv_iald hC ly_267 d_Md_takeSteps_266 (fun x20 => ?_)
          refine g_aload_n hC d_Md_takeSteps_267 rfl ?_
          refine fg_Md_112 hC lc_249 d_Md_takeSteps_268 ?_
          refine g_iload hC d_Md_takeSteps_271 rfl ?_
          refine g_isub hC d_Md_takeSteps_273 ?_
          refine g_aload_n hC d_Md_takeSteps_274 rfl ?_
          refine fg_Md_69 hC lc_249 d_Md_takeSteps_275 p0_249_38 ?_
          refine g_iload_n hC d_Md_takeSteps_278 rfl ?_
          refine g_iload hC d_Md_takeSteps_279 rfl ?_
          refine g_iadd hC d_Md_takeSteps_281 ?_
          refine gv_iald hC ly_267 d_Md_takeSteps_282 (fun x21 => ?_)
          refine g_imul hC d_Md_takeSteps_283 ?_
          refine g_iadd hC d_Md_takeSteps_284 ?_
          refine g_aload_n hC d_Md_takeSteps_285 rfl ?_
          refine fg_Md_112 hC lc_249 d_Md_takeSteps_286 ?_
          refine g_irem hC d_Md_takeSteps_289 ?_
          refine gv_iast hC ly_267 d_Md_takeSteps_290 (fun M22 => ?_)
          refine g_iinc (ls' := [some (.ref (κ.b + 249)), some (.int l1), some (.int l2), none, some (.int l4), some (.int l5), some (.int (l6 + 1))]) hC d_Md_takeSteps_291 rfl k_i1 rfl rfl ?_
          refine g_goto (tgt := 219) hC d_Md_takeSteps_294 (by decide) ?_
          exact ih l1 l2 l4 l5 (l6 + 1) M22
set_option maxHeartbeats 2000000 in
theorem Md_takeSteps_L193_g {κ : tv_Kt} (hC : tv_Cx κ "TiedViewsModel" prog_14_method_38_code 7 1) (hR : tv_Re κ none) (F : Nat) {k25 : Int32 → tv_M → Option (Unit × tv_M)} (hk25 : ∀ (l1 : Int32) (M : tv_M), tv_G κ 7 (tv_Qm κ tv_ev) 25 [some (.ref (κ.b + 249)), some (.int l1), none, none, none, none, none] [] M (k25 l1 M)) : ∀ (n : Nat) (l1 : Int32) (l2 : Int32) (l4 : Int32) (M : tv_M), tv_G κ 7 (tv_Qm κ tv_ev) 193 [some (.ref (κ.b + 249)), some (.int l1), some (.int l2), none, some (.int l4), none, none] [] M (Md_takeSteps_L193 F k25 n l1 l2 l4 M) := by
  intro n
  induction n with
  | zero => intro _ _ _ _; exact g_none
  | succ nn ih =>
    intro l1 l2 l4 M
    rw [Md_takeSteps_L193]
    refine g_iload hC d_Md_takeSteps_193 rfl ?_
    refine g_aload_n hC d_Md_takeSteps_195 rfl ?_
    refine fg_Md_271 hC lc_249 d_Md_takeSteps_196 ?_
    refine g_icmp_ge (tgt := 303) hC d_Md_takeSteps_199 (by decide) (fun _ => ?_) (fun _ => ?_)
    · refine g_iinc (ls' := [some (.ref (κ.b + 249)), some (.int (l1 + 1)), some (.int l2), none, some (.int l4), none, none]) hC d_Md_takeSteps_303 rfl k_i1 rfl rfl ?_
      refine g_goto (tgt := 25) hC d_Md_takeSteps_306 (by decide) ?_
      refine g_mask [true, true, false, false, false, false, false] (ls' := [some (.ref (κ.b + 249)), some (.int (l1 + 1)), none, none, none, none, none]) rfl ?_
      exact hk25 (l1 + 1) M
    · refine g_aload_n hC d_Md_takeSteps_202 rfl ?_
      refine fg_Md_69 hC lc_249 d_Md_takeSteps_203 p0_249_38 ?_
      refine g_bipush hC d_Md_takeSteps_206 k_b55 ?_
      refine g_iload hC d_Md_takeSteps_208 rfl ?_
      refine g_imul hC d_Md_takeSteps_210 ?_
      refine g_iload_n hC d_Md_takeSteps_211 rfl ?_
      refine g_iadd hC d_Md_takeSteps_212 ?_
      refine gv_iald hC ly_267 d_Md_takeSteps_213 (fun x18 => ?_)
      refine g_istore (ls' := [some (.ref (κ.b + 249)), some (.int l1), some (.int l2), none, some (.int l4), some (.int x18), none]) hC d_Md_takeSteps_214 rfl rfl ?_
      refine g_iconst hC d_Md_takeSteps_216 k_i0 ?_
      refine g_istore (ls' := [some (.ref (κ.b + 249)), some (.int l1), some (.int l2), none, some (.int l4), some (.int x18), some (.int 0)]) hC d_Md_takeSteps_217 rfl rfl ?_
      exact Md_takeSteps_L219_g hC hR F hk25 ih F l1 l2 l4 x18 0 M
set_option maxHeartbeats 2000000 in
theorem Md_takeSteps_L152_g {κ : tv_Kt} (hC : tv_Cx κ "TiedViewsModel" prog_14_method_38_code 7 1) (hR : tv_Re κ none) (F : Nat) {k25 : Int32 → tv_M → Option (Unit × tv_M)} (hk25 : ∀ (l1 : Int32) (M : tv_M), tv_G κ 7 (tv_Qm κ tv_ev) 25 [some (.ref (κ.b + 249)), some (.int l1), none, none, none, none, none] [] M (k25 l1 M)) : ∀ (n : Nat) (l1 : Int32) (l2 : Int32) (l3 : Int32) (l4 : Int32) (M : tv_M), tv_G κ 7 (tv_Qm κ tv_ev) 152 [some (.ref (κ.b + 249)), some (.int l1), some (.int l2), some (.int l3), some (.int l4), none, none] [] M (Md_takeSteps_L152 F k25 n l1 l2 l3 l4 M) := by
  intro n
  induction n with
  | zero => intro _ _ _ _ _; exact g_none
  | succ nn ih =>
    intro l1 l2 l3 l4 M
    rw [Md_takeSteps_L152]
    refine g_iload hC d_Md_takeSteps_152 rfl ?_
    refine g_bipush hC d_Md_takeSteps_154 k_b55 ?_
    refine g_icmp_ge (tgt := 190) hC d_Md_takeSteps_156 (by decide) (fun _ => ?_) (fun _ => ?_)
    · refine g_iconst hC d_Md_takeSteps_190 k_i0 ?_
      refine g_istore (ls' := [some (.ref (κ.b + 249)), some (.int l1), some (.int l2), some (.int l3), some (.int 0), none, none]) hC d_Md_takeSteps_191 rfl rfl ?_
      refine g_mask [true, true, true, false, true, false, false] (ls' := [some (.ref (κ.b + 249)), some (.int l1), some (.int l2), none, some (.int 0), none, none]) rfl ?_
      exact Md_takeSteps_L193_g hC hR F hk25 F l1 l2 0 M
    · refine g_aload_n hC d_Md_takeSteps_159 rfl ?_
      refine fg_Md_69 hC lc_249 d_Md_takeSteps_160 p0_249_38 ?_
      refine g_iload_n hC d_Md_takeSteps_163 rfl ?_
      refine g_iload hC d_Md_takeSteps_164 rfl ?_
      refine g_iadd hC d_Md_takeSteps_166 ?_
      refine g_aload_n hC d_Md_takeSteps_167 rfl ?_
      refine fg_Md_69 hC lc_249 d_Md_takeSteps_168 p0_249_38 ?_
      refine g_iload_n hC d_Md_takeSteps_171 rfl ?_
      refine g_iload hC d_Md_takeSteps_172 rfl ?_
      refine g_iadd hC d_Md_takeSteps_174 ?_
      refine gv_iald hC ly_267 d_Md_takeSteps_175 (fun x16 => ?_)
      refine g_iload_n hC d_Md_takeSteps_176 rfl ?_
      refine g_imul hC d_Md_takeSteps_177 ?_
      refine g_aload_n hC d_Md_takeSteps_178 rfl ?_
      refine fg_Md_112 hC lc_249 d_Md_takeSteps_179 ?_
      refine g_irem hC d_Md_takeSteps_182 ?_
      refine gv_iast hC ly_267 d_Md_takeSteps_183 (fun M17 => ?_)
      refine g_iinc (ls' := [some (.ref (κ.b + 249)), some (.int l1), some (.int l2), some (.int l3), some (.int (l4 + 1)), none, none]) hC d_Md_takeSteps_184 rfl k_i1 rfl rfl ?_
      refine g_goto (tgt := 152) hC d_Md_takeSteps_187 (by decide) ?_
      exact ih l1 l2 l3 (l4 + 1) M17
set_option maxHeartbeats 2000000 in
theorem Md_takeSteps_L103_g {κ : tv_Kt} (hC : tv_Cx κ "TiedViewsModel" prog_14_method_38_code 7 1) (hR : tv_Re κ none) (F : Nat) {k25 : Int32 → tv_M → Option (Unit × tv_M)} (hk25 : ∀ (l1 : Int32) (M : tv_M), tv_G κ 7 (tv_Qm κ tv_ev) 25 [some (.ref (κ.b + 249)), some (.int l1), none, none, none, none, none] [] M (k25 l1 M)) (l1 : Int32) (M : tv_M) : tv_G κ 7 (tv_Qm κ tv_ev) 103 [some (.ref (κ.b + 249)), some (.int l1), none, none, none, none, none] [] M (Md_takeSteps_L103 F k25 l1 M) := by
  rw [Md_takeSteps_L103]
  refine g_aload_n hC d_Md_takeSteps_103 rfl ?_
  refine fg_Md_76 hC lc_249 d_Md_takeSteps_104 p0_249_40 ?_
  refine g_iload_n hC d_Md_takeSteps_107 rfl ?_
  refine gv_iald hC ly_269 d_Md_takeSteps_108 (fun x9 => ?_)
  refine g_ldc hC d_Md_takeSteps_109 wk_Md_146 ?_
  refine g_icmp_eq (tgt := 303) hC d_Md_takeSteps_111 (by decide) (fun _ => ?_) (fun _ => ?_)
  · refine g_iinc (ls' := [some (.ref (κ.b + 249)), some (.int (l1 + 1)), none, none, none, none, none]) hC d_Md_takeSteps_303 rfl k_i1 rfl rfl ?_
    refine g_goto (tgt := 25) hC d_Md_takeSteps_306 (by decide) ?_
    exact hk25 (l1 + 1) M
  · refine g_bipush hC d_Md_takeSteps_114 k_b55 ?_
    refine g_aload_n hC d_Md_takeSteps_116 rfl ?_
    refine fg_Md_76 hC lc_249 d_Md_takeSteps_117 p0_249_40 ?_
    refine g_iload_n hC d_Md_takeSteps_120 rfl ?_
    refine gv_iald hC ly_269 d_Md_takeSteps_121 (fun x10 => ?_)
    refine g_imul hC d_Md_takeSteps_122 ?_
    refine g_istore_n (ls' := [some (.ref (κ.b + 249)), some (.int l1), some (.int (55 * x10)), none, none, none, none]) hC d_Md_takeSteps_123 rfl rfl ?_
    refine g_aload_n hC d_Md_takeSteps_124 rfl ?_
    refine fg_Md_72 hC lc_249 d_Md_takeSteps_125 p0_249_39 ?_
    refine g_aload_n hC d_Md_takeSteps_128 rfl ?_
    refine fg_Md_76 hC lc_249 d_Md_takeSteps_129 p0_249_40 ?_
    refine g_iload_n hC d_Md_takeSteps_132 rfl ?_
    refine gv_iald hC ly_269 d_Md_takeSteps_133 (fun x11 => ?_)
    refine g_iconst hC d_Md_takeSteps_134 k_i1 ?_
    refine gv_zast hC ly_268 d_Md_takeSteps_135 (fun M12 => ?_)
    refine g_aload_n hC d_Md_takeSteps_136 rfl ?_
    refine g_aload_n hC d_Md_takeSteps_137 rfl ?_
    refine fg_Md_69 hC lc_249 d_Md_takeSteps_138 p0_249_38 ?_
    refine g_iload_n hC d_Md_takeSteps_141 rfl ?_
    refine g_iload_n hC d_Md_takeSteps_142 rfl ?_
    refine g_iadd hC d_Md_takeSteps_143 ?_
    refine gv_iald hC ly_267 d_Md_takeSteps_144 (fun x13 => ?_)
    refine gv_callVi hC [.int x13] cw_Md_277 (Md_turned_c F x13 M12) lc_249 rfl rfl rfl rfl rfl rfl rfl d_Md_takeSteps_145 (fun r14 M15 => ?_)
    refine g_istore_n (ls' := [some (.ref (κ.b + 249)), some (.int l1), some (.int (55 * x10)), some (.int r14), none, none, none]) hC d_Md_takeSteps_148 rfl rfl ?_
    refine g_iconst hC d_Md_takeSteps_149 k_i0 ?_
    refine g_istore (ls' := [some (.ref (κ.b + 249)), some (.int l1), some (.int (55 * x10)), some (.int r14), some (.int 0), none, none]) hC d_Md_takeSteps_150 rfl rfl ?_
    exact Md_takeSteps_L152_g hC hR F hk25 F l1 (55 * x10) r14 0 M15
set_option maxHeartbeats 2000000 in
theorem Md_takeSteps_L43_g {κ : tv_Kt} (hC : tv_Cx κ "TiedViewsModel" prog_14_method_38_code 7 1) (hR : tv_Re κ none) (F : Nat) {k25 : Int32 → tv_M → Option (Unit × tv_M)} (hk25 : ∀ (l1 : Int32) (M : tv_M), tv_G κ 7 (tv_Qm κ tv_ev) 25 [some (.ref (κ.b + 249)), some (.int l1), none, none, none, none, none] [] M (k25 l1 M)) : ∀ (n : Nat) (l1 : Int32) (l2 : Int32) (M : tv_M), tv_G κ 7 (tv_Qm κ tv_ev) 43 [some (.ref (κ.b + 249)), some (.int l1), some (.int l2), none, none, none, none] [] M (Md_takeSteps_L43 F k25 n l1 l2 M) := by
  intro n
  induction n with
  | zero => intro _ _ _; exact g_none
  | succ nn ih =>
    intro l1 l2 M
    rw [Md_takeSteps_L43]
    refine g_iload_n hC d_Md_takeSteps_43 rfl ?_
    refine g_aload_n hC d_Md_takeSteps_44 rfl ?_
    refine fg_Md_271 hC lc_249 d_Md_takeSteps_45 ?_
    refine g_icmp_ge (tgt := 103) hC d_Md_takeSteps_48 (by decide) (fun _ => ?_) (fun _ => ?_)
    · refine g_mask [true, true, false, false, false, false, false] (ls' := [some (.ref (κ.b + 249)), some (.int l1), none, none, none, none, none]) rfl ?_
      exact Md_takeSteps_L103_g hC hR F hk25 l1 M
    · refine g_aload_n hC d_Md_takeSteps_51 rfl ?_
      refine fg_Md_76 hC lc_249 d_Md_takeSteps_52 p0_249_40 ?_
      refine g_iload_n hC d_Md_takeSteps_55 rfl ?_
      refine gv_iald hC ly_269 d_Md_takeSteps_56 (fun x3 => ?_)
      refine g_ldc hC d_Md_takeSteps_57 wk_Md_146 ?_
      refine g_icmp_ne (tgt := 103) hC d_Md_takeSteps_59 (by decide) (fun _ => ?_) (fun _ => ?_)
      · refine g_mask [true, true, false, false, false, false, false] (ls' := [some (.ref (κ.b + 249)), some (.int l1), none, none, none, none, none]) rfl ?_
        exact Md_takeSteps_L103_g hC hR F hk25 l1 M
      · refine g_aload_n hC d_Md_takeSteps_62 rfl ?_
        refine fg_Md_76 hC lc_249 d_Md_takeSteps_63 p0_249_40 ?_
        refine g_iload_n hC d_Md_takeSteps_66 rfl ?_
        refine g_aload_n hC d_Md_takeSteps_67 rfl ?_
        refine fg_Md_72 hC lc_249 d_Md_takeSteps_68 p0_249_39 ?_
        refine g_iload_n hC d_Md_takeSteps_71 rfl ?_
        refine gv_zald hC ly_268 d_Md_takeSteps_72 (fun x4 => ?_)
        refine g_if_ne (tgt := 94) hC d_Md_takeSteps_73 (by decide) (fun _ => ?_) (fun _ => ?_)
        · refine g_ldc hC d_Md_takeSteps_94 wk_Md_146 ?_
          refine gv_iast hC ly_269 d_Md_takeSteps_96 (fun M5 => ?_)
          refine g_iinc (ls' := [some (.ref (κ.b + 249)), some (.int l1), some (.int (l2 + 1)), none, none, none, none]) hC d_Md_takeSteps_97 rfl k_i1 rfl rfl ?_
          refine g_goto (tgt := 43) hC d_Md_takeSteps_100 (by decide) ?_
          exact ih l1 (l2 + 1) M5
        · refine g_aload_n hC d_Md_takeSteps_76 rfl ?_
          refine fg_Md_69 hC lc_249 d_Md_takeSteps_77 p0_249_38 ?_
          refine g_bipush hC d_Md_takeSteps_80 k_b55 ?_
          refine g_iload_n hC d_Md_takeSteps_82 rfl ?_
          refine g_imul hC d_Md_takeSteps_83 ?_
          refine g_iload_n hC d_Md_takeSteps_84 rfl ?_
          refine g_iadd hC d_Md_takeSteps_85 ?_
          refine gv_iald hC ly_267 d_Md_takeSteps_86 (fun x6 => ?_)
          refine g_if_eq (tgt := 94) hC d_Md_takeSteps_87 (by decide) (fun _ => ?_) (fun _ => ?_)
          · refine g_ldc hC d_Md_takeSteps_94 wk_Md_146 ?_
            refine gv_iast hC ly_269 d_Md_takeSteps_96 (fun M7 => ?_)
            refine g_iinc (ls' := [some (.ref (κ.b + 249)), some (.int l1), some (.int (l2 + 1)), none, none, none, none]) hC d_Md_takeSteps_97 rfl k_i1 rfl rfl ?_
            refine g_goto (tgt := 43) hC d_Md_takeSteps_100 (by decide) ?_
            exact ih l1 (l2 + 1) M7
          · refine g_iload_n hC d_Md_takeSteps_90 rfl ?_
            refine g_goto (tgt := 96) hC d_Md_takeSteps_91 (by decide) ?_
            refine gv_iast hC ly_269 d_Md_takeSteps_96 (fun M8 => ?_)
            refine g_iinc (ls' := [some (.ref (κ.b + 249)), some (.int l1), some (.int (l2 + 1)), none, none, none, none]) hC d_Md_takeSteps_97 rfl k_i1 rfl rfl ?_
            refine g_goto (tgt := 43) hC d_Md_takeSteps_100 (by decide) ?_
            exact ih l1 (l2 + 1) M8
set_option maxHeartbeats 2000000 in
theorem Md_takeSteps_L25_g {κ : tv_Kt} (hC : tv_Cx κ "TiedViewsModel" prog_14_method_38_code 7 1) (hR : tv_Re κ none) (F : Nat) : ∀ (n : Nat) (l1 : Int32) (M : tv_M), tv_G κ 7 (tv_Qm κ tv_ev) 25 [some (.ref (κ.b + 249)), some (.int l1), none, none, none, none, none] [] M (Md_takeSteps_L25 F n l1 M) := by
  intro n
  induction n with
  | zero => intro _ _; exact g_none
  | succ nn ih =>
    intro l1 M
    rw [Md_takeSteps_L25]
    refine g_iload_n hC d_Md_takeSteps_25 rfl ?_
    refine g_aload_n hC d_Md_takeSteps_26 rfl ?_
    refine fg_Md_235 hC lc_249 d_Md_takeSteps_27 ?_
    refine g_icmp_ge (tgt := 309) hC d_Md_takeSteps_30 (by decide) (fun _ => ?_) (fun _ => ?_)
    · exact g_vret hC hR d_Md_takeSteps_309
    · refine g_aload_n hC d_Md_takeSteps_33 rfl ?_
      refine fg_Md_76 hC lc_249 d_Md_takeSteps_34 p0_249_40 ?_
      refine g_iload_n hC d_Md_takeSteps_37 rfl ?_
      refine g_ldc hC d_Md_takeSteps_38 wk_Md_146 ?_
      refine gv_iast hC ly_269 d_Md_takeSteps_40 (fun M2 => ?_)
      refine g_iconst hC d_Md_takeSteps_41 k_i0 ?_
      refine g_istore_n (ls' := [some (.ref (κ.b + 249)), some (.int l1), some (.int 0), none, none, none, none]) hC d_Md_takeSteps_42 rfl rfl ?_
      exact Md_takeSteps_L43_g hC hR F ih F l1 0 M2
set_option maxHeartbeats 2000000 in
theorem Md_takeSteps_L2_g {κ : tv_Kt} (hC : tv_Cx κ "TiedViewsModel" prog_14_method_38_code 7 1) (hR : tv_Re κ none) (F : Nat) : ∀ (n : Nat) (l1 : Int32) (M : tv_M), tv_G κ 7 (tv_Qm κ tv_ev) 2 [some (.ref (κ.b + 249)), some (.int l1), none, none, none, none, none] [] M (Md_takeSteps_L2 F n l1 M) := by
  intro n
  induction n with
  | zero => intro _ _; exact g_none
  | succ nn ih =>
    intro l1 M
    rw [Md_takeSteps_L2]
    refine g_iload_n hC d_Md_takeSteps_2 rfl ?_
    refine g_aload_n hC d_Md_takeSteps_3 rfl ?_
    refine fg_Md_271 hC lc_249 d_Md_takeSteps_4 ?_
    refine g_icmp_ge (tgt := 23) hC d_Md_takeSteps_7 (by decide) (fun _ => ?_) (fun _ => ?_)
    · refine g_iconst hC d_Md_takeSteps_23 k_i0 ?_
      refine g_istore_n (ls' := [some (.ref (κ.b + 249)), some (.int 0), none, none, none, none, none]) hC d_Md_takeSteps_24 rfl rfl ?_
      exact Md_takeSteps_L25_g hC hR F F 0 M
    · refine g_aload_n hC d_Md_takeSteps_10 rfl ?_
      refine fg_Md_72 hC lc_249 d_Md_takeSteps_11 p0_249_39 ?_
      refine g_iload_n hC d_Md_takeSteps_14 rfl ?_
      refine g_iconst hC d_Md_takeSteps_15 k_i0 ?_
      refine gv_zast hC ly_268 d_Md_takeSteps_16 (fun M1 => ?_)
      refine g_iinc (ls' := [some (.ref (κ.b + 249)), some (.int (l1 + 1)), none, none, none, none, none]) hC d_Md_takeSteps_17 rfl k_i1 rfl rfl ?_
      refine g_goto (tgt := 2) hC d_Md_takeSteps_20 (by decide) ?_
      exact ih (l1 + 1) M1
set_option maxHeartbeats 2000000 in
theorem Md_takeSteps_c {l : Launch} {θ : tv_Th} (F : Nat) (M : tv_M) : tv_Ct l θ ⟨"TiedViewsModel", "takeSteps", "()V"⟩ prog_14_method_38_code 7 none 1 tv_ev [.ref (θ.1 + 249)] M (Md_takeSteps F M) := by
  refine tv_ofG [some (.ref (θ.1 + 249)), none, none, none, none, none, none] rfl rfl (tv_ent 6 rfl) ?_
  intro κ hl ht hC hR
  subst hl; subst ht
  unfold Md_takeSteps
  refine g_iconst hC d_Md_takeSteps_0 k_i0 ?_
  refine g_istore_n (ls' := [some (.ref (κ.b + 249)), some (.int 0), none, none, none, none, none]) hC d_Md_takeSteps_1 rfl rfl ?_
  exact Md_takeSteps_L2_g hC hR F F 0 M
theorem d_Md_leaders_0 : decode prog_14_method_39_code 0 = .ok (.iconst 0, 1) := by decide +kernel
theorem d_Md_leaders_1 : decode prog_14_method_39_code 1 = .ok (.istore_n 1, 1) := by decide +kernel
theorem d_Md_leaders_2 : decode prog_14_method_39_code 2 = .ok (.iconst 0, 1) := by decide +kernel
theorem d_Md_leaders_3 : decode prog_14_method_39_code 3 = .ok (.istore_n 2, 1) := by decide +kernel
theorem d_Md_leaders_4 : decode prog_14_method_39_code 4 = .ok (.iload_n 2, 1) := by decide +kernel
theorem d_Md_leaders_5 : decode prog_14_method_39_code 5 = .ok (.aload_n 0, 1) := by decide +kernel
theorem d_Md_leaders_6 : decode prog_14_method_39_code 6 = .ok (.getfield 235, 3) := by decide +kernel
theorem d_Md_leaders_9 : decode prog_14_method_39_code 9 = .ok (.if_icmp .ge 28, 3) := by decide +kernel
theorem d_Md_leaders_12 : decode prog_14_method_39_code 12 = .ok (.iload_n 1, 1) := by decide +kernel
theorem d_Md_leaders_13 : decode prog_14_method_39_code 13 = .ok (.aload_n 0, 1) := by decide +kernel
theorem d_Md_leaders_14 : decode prog_14_method_39_code 14 = .ok (.getfield 76, 3) := by decide +kernel
theorem d_Md_leaders_17 : decode prog_14_method_39_code 17 = .ok (.iload_n 2, 1) := by decide +kernel
theorem d_Md_leaders_18 : decode prog_14_method_39_code 18 = .ok (.iaload, 1) := by decide +kernel
theorem d_Md_leaders_19 : decode prog_14_method_39_code 19 = .ok (.ldc 146, 2) := by decide +kernel
theorem d_Md_leaders_21 : decode prog_14_method_39_code 21 = .ok (.if_icmp .eq 7, 3) := by decide +kernel
theorem d_Md_leaders_24 : decode prog_14_method_39_code 24 = .ok (.iconst 1, 1) := by decide +kernel
theorem d_Md_leaders_25 : decode prog_14_method_39_code 25 = .ok (.goto 4, 3) := by decide +kernel
theorem d_Md_leaders_28 : decode prog_14_method_39_code 28 = .ok (.iconst 0, 1) := by decide +kernel
theorem d_Md_leaders_29 : decode prog_14_method_39_code 29 = .ok (.iadd, 1) := by decide +kernel
theorem d_Md_leaders_30 : decode prog_14_method_39_code 30 = .ok (.istore_n 1, 1) := by decide +kernel
theorem d_Md_leaders_31 : decode prog_14_method_39_code 31 = .ok (.iinc 2 1, 3) := by decide +kernel
theorem d_Md_leaders_34 : decode prog_14_method_39_code 34 = .ok (.goto (-30), 3) := by decide +kernel
theorem d_Md_leaders_37 : decode prog_14_method_39_code 37 = .ok (.iload_n 1, 1) := by decide +kernel
theorem d_Md_leaders_38 : decode prog_14_method_39_code 38 = .ok (.ireturn, 1) := by decide +kernel
set_option maxHeartbeats 2000000 in
theorem Md_leaders_L4_g {κ : tv_Kt} (hC : tv_Cx κ "TiedViewsModel" prog_14_method_39_code 3 0) (hR : tv_Re κ (some .int)) (F : Nat) : ∀ (n : Nat) (l1 : Int32) (l2 : Int32) (M : tv_M), tv_G κ 3 (tv_Qm κ tv_ei) 4 [some (.ref (κ.b + 249)), some (.int l1), some (.int l2)] [] M (Md_leaders_L4 F n l1 l2 M) := by
  intro n
  induction n with
  | zero => intro _ _ _; exact g_none
  | succ nn ih =>
    intro l1 l2 M
    rw [Md_leaders_L4]
    refine g_iload_n hC d_Md_leaders_4 rfl ?_
    refine g_aload_n hC d_Md_leaders_5 rfl ?_
    refine fg_Md_235 hC lc_249 d_Md_leaders_6 ?_
    refine g_icmp_ge (tgt := 37) hC d_Md_leaders_9 (by decide) (fun _ => ?_) (fun _ => ?_)
    · refine g_iload_n hC d_Md_leaders_37 rfl ?_
      exact g_iret hC hR d_Md_leaders_38
    · refine g_iload_n hC d_Md_leaders_12 rfl ?_
      refine g_aload_n hC d_Md_leaders_13 rfl ?_
      refine fg_Md_76 hC lc_249 d_Md_leaders_14 p0_249_40 ?_
      refine g_iload_n hC d_Md_leaders_17 rfl ?_
      refine gv_iald hC ly_269 d_Md_leaders_18 (fun x1 => ?_)
      refine g_ldc hC d_Md_leaders_19 wk_Md_146 ?_
      refine g_icmp_eq (tgt := 28) hC d_Md_leaders_21 (by decide) (fun _ => ?_) (fun _ => ?_)
      · refine g_iconst hC d_Md_leaders_28 k_i0 ?_
        refine g_iadd hC d_Md_leaders_29 ?_
        refine g_istore_n (ls' := [some (.ref (κ.b + 249)), some (.int (l1 + 0)), some (.int l2)]) hC d_Md_leaders_30 rfl rfl ?_
        refine g_iinc (ls' := [some (.ref (κ.b + 249)), some (.int (l1 + 0)), some (.int (l2 + 1))]) hC d_Md_leaders_31 rfl k_i1 rfl rfl ?_
        refine g_goto (tgt := 4) hC d_Md_leaders_34 (by decide) ?_
        exact ih (l1 + 0) (l2 + 1) M
      · refine g_iconst hC d_Md_leaders_24 k_i1 ?_
        refine g_goto (tgt := 29) hC d_Md_leaders_25 (by decide) ?_
        refine g_iadd hC d_Md_leaders_29 ?_
        refine g_istore_n (ls' := [some (.ref (κ.b + 249)), some (.int (l1 + 1)), some (.int l2)]) hC d_Md_leaders_30 rfl rfl ?_
        refine g_iinc (ls' := [some (.ref (κ.b + 249)), some (.int (l1 + 1)), some (.int (l2 + 1))]) hC d_Md_leaders_31 rfl k_i1 rfl rfl ?_
        refine g_goto (tgt := 4) hC d_Md_leaders_34 (by decide) ?_
        exact ih (l1 + 1) (l2 + 1) M
set_option maxHeartbeats 2000000 in
theorem Md_leaders_c {l : Launch} {θ : tv_Th} (F : Nat) (M : tv_M) : tv_Ct l θ ⟨"TiedViewsModel", "leaders", "()I"⟩ prog_14_method_39_code 3 (some .int) 0 tv_ei [.ref (θ.1 + 249)] M (Md_leaders F M) := by
  refine tv_ofG [some (.ref (θ.1 + 249)), none, none] rfl rfl (tv_ent 2 rfl) ?_
  intro κ hl ht hC hR
  subst hl; subst ht
  unfold Md_leaders
  refine g_iconst hC d_Md_leaders_0 k_i0 ?_
  refine g_istore_n (ls' := [some (.ref (κ.b + 249)), some (.int 0), none]) hC d_Md_leaders_1 rfl rfl ?_
  refine g_iconst hC d_Md_leaders_2 k_i0 ?_
  refine g_istore_n (ls' := [some (.ref (κ.b + 249)), some (.int 0), some (.int 0)]) hC d_Md_leaders_3 rfl rfl ?_
  exact Md_leaders_L4_g hC hR F F 0 0 M
theorem d_Md_all_0 : decode prog_14_method_41_code 0 = .ok (.aload_n 0, 1) := by decide +kernel
theorem d_Md_all_1 : decode prog_14_method_41_code 1 = .ok (.iconst 0, 1) := by decide +kernel
theorem d_Md_all_2 : decode prog_14_method_41_code 2 = .ok (.putfield 1, 3) := by decide +kernel
theorem d_Md_all_5 : decode prog_14_method_41_code 5 = .ok (.iload_n 1, 1) := by decide +kernel
theorem d_Md_all_6 : decode prog_14_method_41_code 6 = .ok (.i2l, 1) := by decide +kernel
theorem d_Md_all_7 : decode prog_14_method_41_code 7 = .ok (.lconst 0, 1) := by decide +kernel
theorem d_Md_all_8 : decode prog_14_method_41_code 8 = .ok (.ldc2_w 280, 3) := by decide +kernel
theorem d_Md_all_11 : decode prog_14_method_41_code 11 = .ok (.invokestatic 115, 3) := by decide +kernel
theorem d_Md_all_14 : decode prog_14_method_41_code 14 = .ok (.ifCond .ne 6, 3) := by decide +kernel
theorem d_Md_all_17 : decode prog_14_method_41_code 17 = .ok (.ldc 127, 2) := by decide +kernel
theorem d_Md_all_19 : decode prog_14_method_41_code 19 = .ok (.ireturn, 1) := by decide +kernel
theorem d_Md_all_20 : decode prog_14_method_41_code 20 = .ok (.aload_n 0, 1) := by decide +kernel
theorem d_Md_all_21 : decode prog_14_method_41_code 21 = .ok (.ldc 146, 2) := by decide +kernel
theorem d_Md_all_23 : decode prog_14_method_41_code 23 = .ok (.invokevirtual 282, 3) := by decide +kernel
theorem d_Md_all_26 : decode prog_14_method_41_code 26 = .ok (.aload_n 0, 1) := by decide +kernel
theorem d_Md_all_27 : decode prog_14_method_41_code 27 = .ok (.invokevirtual 285, 3) := by decide +kernel
theorem d_Md_all_30 : decode prog_14_method_41_code 30 = .ok (.iload_n 1, 1) := by decide +kernel
theorem d_Md_all_31 : decode prog_14_method_41_code 31 = .ok (.ifCond .ne 15, 3) := by decide +kernel
theorem d_Md_all_34 : decode prog_14_method_41_code 34 = .ok (.aload_n 0, 1) := by decide +kernel
theorem d_Md_all_35 : decode prog_14_method_41_code 35 = .ok (.getfield 235, 3) := by decide +kernel
theorem d_Md_all_38 : decode prog_14_method_41_code 38 = .ok (.aload_n 0, 1) := by decide +kernel
theorem d_Md_all_39 : decode prog_14_method_41_code 39 = .ok (.invokevirtual 288, 3) := by decide +kernel
theorem d_Md_all_42 : decode prog_14_method_41_code 42 = .ok (.isub, 1) := by decide +kernel
theorem d_Md_all_43 : decode prog_14_method_41_code 43 = .ok (.goto 48, 3) := by decide +kernel
theorem d_Md_all_46 : decode prog_14_method_41_code 46 = .ok (.iload_n 1, 1) := by decide +kernel
theorem d_Md_all_47 : decode prog_14_method_41_code 47 = .ok (.iconst 1, 1) := by decide +kernel
theorem d_Md_all_48 : decode prog_14_method_41_code 48 = .ok (.if_icmp .ne 10, 3) := by decide +kernel
theorem d_Md_all_51 : decode prog_14_method_41_code 51 = .ok (.aload_n 0, 1) := by decide +kernel
theorem d_Md_all_52 : decode prog_14_method_41_code 52 = .ok (.getfield 235, 3) := by decide +kernel
theorem d_Md_all_55 : decode prog_14_method_41_code 55 = .ok (.goto 36, 3) := by decide +kernel
theorem d_Md_all_58 : decode prog_14_method_41_code 58 = .ok (.iload_n 1, 1) := by decide +kernel
theorem d_Md_all_59 : decode prog_14_method_41_code 59 = .ok (.iconst 2, 1) := by decide +kernel
theorem d_Md_all_60 : decode prog_14_method_41_code 60 = .ok (.if_icmp .ne 10, 3) := by decide +kernel
theorem d_Md_all_63 : decode prog_14_method_41_code 63 = .ok (.aload_n 0, 1) := by decide +kernel
theorem d_Md_all_64 : decode prog_14_method_41_code 64 = .ok (.getfield 271, 3) := by decide +kernel
theorem d_Md_all_67 : decode prog_14_method_41_code 67 = .ok (.goto 24, 3) := by decide +kernel
theorem d_Md_all_70 : decode prog_14_method_41_code 70 = .ok (.iload_n 1, 1) := by decide +kernel
theorem d_Md_all_71 : decode prog_14_method_41_code 71 = .ok (.iconst 3, 1) := by decide +kernel
theorem d_Md_all_72 : decode prog_14_method_41_code 72 = .ok (.if_icmp .ne 10, 3) := by decide +kernel
theorem d_Md_all_75 : decode prog_14_method_41_code 75 = .ok (.aload_n 0, 1) := by decide +kernel
theorem d_Md_all_76 : decode prog_14_method_41_code 76 = .ok (.invokevirtual 288, 3) := by decide +kernel
theorem d_Md_all_79 : decode prog_14_method_41_code 79 = .ok (.goto 12, 3) := by decide +kernel
theorem d_Md_all_82 : decode prog_14_method_41_code 82 = .ok (.aload_n 0, 1) := by decide +kernel
theorem d_Md_all_83 : decode prog_14_method_41_code 83 = .ok (.getfield 271, 3) := by decide +kernel
theorem d_Md_all_86 : decode prog_14_method_41_code 86 = .ok (.aload_n 0, 1) := by decide +kernel
theorem d_Md_all_87 : decode prog_14_method_41_code 87 = .ok (.invokevirtual 288, 3) := by decide +kernel
theorem d_Md_all_90 : decode prog_14_method_41_code 90 = .ok (.isub, 1) := by decide +kernel
theorem d_Md_all_91 : decode prog_14_method_41_code 91 = .ok (.ireturn, 1) := by decide +kernel
set_option maxHeartbeats 2000000 in
theorem Md_all_c {l : Launch} {θ : tv_Th} (F : Nat) (a1 : Int32) (M : tv_M) : tv_Ct l θ ⟨"TiedViewsModel", "all", "(I)I"⟩ prog_14_method_41_code 2 (some .int) 2 tv_ei [.ref (θ.1 + 249), .int a1] M (Md_all F a1 M) := by
  refine tv_ofG [some (.ref (θ.1 + 249)), some (.int a1)] rfl rfl (tv_ent 0 rfl) ?_
  intro κ hl ht hC hR
  subst hl; subst ht
  unfold Md_all
  refine g_aload_n hC d_Md_all_0 rfl ?_
  refine g_iconst hC d_Md_all_1 k_i0 ?_
  refine fp_Md_1 hC lc_249 d_Md_all_2 (fun M1 => ?_)
  refine g_iload_n hC d_Md_all_5 rfl ?_
  refine g_i2l hC d_Md_all_6 ?_
  refine g_lconst hC d_Md_all_7 k_l0 ?_
  refine g_ldc2 hC d_Md_all_8 wl_Md_280 ?_
  refine gv_callSi hC [.long ((a1 : Int32).toInt64), .long 0, .long 4] cw_Md_115 (Md_in_c F ((a1 : Int32).toInt64) 0 4 M1) rfl rfl rfl rfl rfl d_Md_all_11 (fun r2 M3 => ?_)
  refine g_if_ne (tgt := 20) hC d_Md_all_14 (by decide) (fun _ => ?_) (fun _ => ?_)
  · refine g_aload_n hC d_Md_all_20 rfl ?_
    refine g_ldc hC d_Md_all_21 wk_Md_146 ?_
    refine gv_callVv hC [.int (-1000000)] cw_Md_282 (Md_layTies_c F (-1000000) M3) lc_249 rfl rfl rfl rfl rfl rfl rfl d_Md_all_23 (fun r4 M5 => ?_)
    refine g_aload_n hC d_Md_all_26 rfl ?_
    refine gv_callVv hC [] cw_Md_285 (Md_takeSteps_c F M5) lc_249 rfl rfl rfl rfl rfl rfl rfl d_Md_all_27 (fun r6 M7 => ?_)
    refine g_iload_n hC d_Md_all_30 rfl ?_
    refine g_if_ne (tgt := 46) hC d_Md_all_31 (by decide) (fun _ => ?_) (fun _ => ?_)
    · refine g_iload_n hC d_Md_all_46 rfl ?_
      refine g_iconst hC d_Md_all_47 k_i1 ?_
      refine g_icmp_ne (tgt := 58) hC d_Md_all_48 (by decide) (fun _ => ?_) (fun _ => ?_)
      · refine g_iload_n hC d_Md_all_58 rfl ?_
        refine g_iconst hC d_Md_all_59 k_i2 ?_
        refine g_icmp_ne (tgt := 70) hC d_Md_all_60 (by decide) (fun _ => ?_) (fun _ => ?_)
        · refine g_iload_n hC d_Md_all_70 rfl ?_
          refine g_iconst hC d_Md_all_71 k_i3 ?_
          refine g_icmp_ne (tgt := 82) hC d_Md_all_72 (by decide) (fun _ => ?_) (fun _ => ?_)
          · refine g_aload_n hC d_Md_all_82 rfl ?_
            refine fg_Md_271 hC lc_249 d_Md_all_83 ?_
            refine g_aload_n hC d_Md_all_86 rfl ?_
            refine gv_callVi hC [] cw_Md_288 (Md_leaders_c F M7) lc_249 rfl rfl rfl rfl rfl rfl rfl d_Md_all_87 (fun r8 M9 => ?_)
            refine g_isub hC d_Md_all_90 ?_
            exact g_iret hC hR d_Md_all_91
          · refine g_aload_n hC d_Md_all_75 rfl ?_
            refine gv_callVi hC [] cw_Md_288 (Md_leaders_c F M7) lc_249 rfl rfl rfl rfl rfl rfl rfl d_Md_all_76 (fun r10 M11 => ?_)
            refine g_goto (tgt := 91) hC d_Md_all_79 (by decide) ?_
            exact g_iret hC hR d_Md_all_91
        · refine g_aload_n hC d_Md_all_63 rfl ?_
          refine fg_Md_271 hC lc_249 d_Md_all_64 ?_
          refine g_goto (tgt := 91) hC d_Md_all_67 (by decide) ?_
          exact g_iret hC hR d_Md_all_91
      · refine g_aload_n hC d_Md_all_51 rfl ?_
        refine fg_Md_235 hC lc_249 d_Md_all_52 ?_
        refine g_goto (tgt := 91) hC d_Md_all_55 (by decide) ?_
        exact g_iret hC hR d_Md_all_91
    · refine g_aload_n hC d_Md_all_34 rfl ?_
      refine fg_Md_235 hC lc_249 d_Md_all_35 ?_
      refine g_aload_n hC d_Md_all_38 rfl ?_
      refine gv_callVi hC [] cw_Md_288 (Md_leaders_c F M7) lc_249 rfl rfl rfl rfl rfl rfl rfl d_Md_all_39 (fun r12 M13 => ?_)
      refine g_isub hC d_Md_all_42 ?_
      refine g_goto (tgt := 91) hC d_Md_all_43 (by decide) ?_
      exact g_iret hC hR d_Md_all_91
  · refine g_ldc hC d_Md_all_17 wk_Md_127 ?_
    exact g_iret hC hR d_Md_all_19
theorem d_Md_isColumn_0 : decode prog_14_method_42_code 0 = .ok (.iload_n 1, 1) := by decide +kernel
theorem d_Md_isColumn_1 : decode prog_14_method_42_code 1 = .ok (.i2l, 1) := by decide +kernel
theorem d_Md_isColumn_2 : decode prog_14_method_42_code 2 = .ok (.lconst 0, 1) := by decide +kernel
theorem d_Md_isColumn_3 : decode prog_14_method_42_code 3 = .ok (.aload_n 0, 1) := by decide +kernel
theorem d_Md_isColumn_4 : decode prog_14_method_42_code 4 = .ok (.getfield 235, 3) := by decide +kernel
theorem d_Md_isColumn_7 : decode prog_14_method_42_code 7 = .ok (.iconst 1, 1) := by decide +kernel
theorem d_Md_isColumn_8 : decode prog_14_method_42_code 8 = .ok (.isub, 1) := by decide +kernel
theorem d_Md_isColumn_9 : decode prog_14_method_42_code 9 = .ok (.i2l, 1) := by decide +kernel
theorem d_Md_isColumn_10 : decode prog_14_method_42_code 10 = .ok (.invokestatic 115, 3) := by decide +kernel
theorem d_Md_isColumn_13 : decode prog_14_method_42_code 13 = .ok (.ireturn, 1) := by decide +kernel
set_option maxHeartbeats 2000000 in
theorem Md_isColumn_c {l : Launch} {θ : tv_Th} (F : Nat) (a1 : Int32) (M : tv_M) : tv_Ct l θ ⟨"TiedViewsModel", "isColumn", "(I)Z"⟩ prog_14_method_42_code 2 (some .boolean) 1 tv_ei [.ref (θ.1 + 249), .int a1] M (Md_isColumn F a1 M) := by
  refine tv_ofG [some (.ref (θ.1 + 249)), some (.int a1)] rfl rfl (tv_ent 0 rfl) ?_
  intro κ hl ht hC hR
  subst hl; subst ht
  unfold Md_isColumn
  refine g_iload_n hC d_Md_isColumn_0 rfl ?_
  refine g_i2l hC d_Md_isColumn_1 ?_
  refine g_lconst hC d_Md_isColumn_2 k_l0 ?_
  refine g_aload_n hC d_Md_isColumn_3 rfl ?_
  refine fg_Md_235 hC lc_249 d_Md_isColumn_4 ?_
  refine g_iconst hC d_Md_isColumn_7 k_i1 ?_
  refine g_isub hC d_Md_isColumn_8 ?_
  refine g_i2l hC d_Md_isColumn_9 ?_
  refine gv_callSi hC [.long ((a1 : Int32).toInt64), .long 0, .long (((M.1 249 10) - 1 : Int32).toInt64)] cw_Md_115 (Md_in_c F ((a1 : Int32).toInt64) 0 (((M.1 249 10) - 1 : Int32).toInt64) M) rfl rfl rfl rfl rfl d_Md_isColumn_10 (fun r1 M2 => ?_)
  refine g_zo (fun z3 => ?_)
  exact g_zret hC hR z3 d_Md_isColumn_13
theorem d_Md_basis_0 : decode prog_14_method_43_code 0 = .ok (.aload_n 0, 1) := by decide +kernel
theorem d_Md_basis_1 : decode prog_14_method_43_code 1 = .ok (.iconst 0, 1) := by decide +kernel
theorem d_Md_basis_2 : decode prog_14_method_43_code 2 = .ok (.putfield 1, 3) := by decide +kernel
theorem d_Md_basis_5 : decode prog_14_method_43_code 5 = .ok (.iload_n 1, 1) := by decide +kernel
theorem d_Md_basis_6 : decode prog_14_method_43_code 6 = .ok (.ifCond .lt 11, 3) := by decide +kernel
theorem d_Md_basis_9 : decode prog_14_method_43_code 9 = .ok (.aload_n 0, 1) := by decide +kernel
theorem d_Md_basis_10 : decode prog_14_method_43_code 10 = .ok (.iload_n 2, 1) := by decide +kernel
theorem d_Md_basis_11 : decode prog_14_method_43_code 11 = .ok (.invokevirtual 291, 3) := by decide +kernel
theorem d_Md_basis_14 : decode prog_14_method_43_code 14 = .ok (.ifCond .ne 6, 3) := by decide +kernel
theorem d_Md_basis_17 : decode prog_14_method_43_code 17 = .ok (.ldc 127, 2) := by decide +kernel
theorem d_Md_basis_19 : decode prog_14_method_43_code 19 = .ok (.ireturn, 1) := by decide +kernel
theorem d_Md_basis_20 : decode prog_14_method_43_code 20 = .ok (.aload_n 0, 1) := by decide +kernel
theorem d_Md_basis_21 : decode prog_14_method_43_code 21 = .ok (.ldc 146, 2) := by decide +kernel
theorem d_Md_basis_23 : decode prog_14_method_43_code 23 = .ok (.invokevirtual 282, 3) := by decide +kernel
theorem d_Md_basis_26 : decode prog_14_method_43_code 26 = .ok (.aload_n 0, 1) := by decide +kernel
theorem d_Md_basis_27 : decode prog_14_method_43_code 27 = .ok (.invokevirtual 285, 3) := by decide +kernel
theorem d_Md_basis_30 : decode prog_14_method_43_code 30 = .ok (.iconst 0, 1) := by decide +kernel
theorem d_Md_basis_31 : decode prog_14_method_43_code 31 = .ok (.istore_n 3, 1) := by decide +kernel
theorem d_Md_basis_32 : decode prog_14_method_43_code 32 = .ok (.iconst 0, 1) := by decide +kernel
theorem d_Md_basis_33 : decode prog_14_method_43_code 33 = .ok (.istore 4, 2) := by decide +kernel
theorem d_Md_basis_35 : decode prog_14_method_43_code 35 = .ok (.iload 4, 2) := by decide +kernel
theorem d_Md_basis_37 : decode prog_14_method_43_code 37 = .ok (.aload_n 0, 1) := by decide +kernel
theorem d_Md_basis_38 : decode prog_14_method_43_code 38 = .ok (.getfield 235, 3) := by decide +kernel
theorem d_Md_basis_41 : decode prog_14_method_43_code 41 = .ok (.if_icmp .ge 82, 3) := by decide +kernel
theorem d_Md_basis_44 : decode prog_14_method_43_code 44 = .ok (.aload_n 0, 1) := by decide +kernel
theorem d_Md_basis_45 : decode prog_14_method_43_code 45 = .ok (.getfield 76, 3) := by decide +kernel
theorem d_Md_basis_48 : decode prog_14_method_43_code 48 = .ok (.iload 4, 2) := by decide +kernel
theorem d_Md_basis_50 : decode prog_14_method_43_code 50 = .ok (.iaload, 1) := by decide +kernel
theorem d_Md_basis_51 : decode prog_14_method_43_code 51 = .ok (.ldc 146, 2) := by decide +kernel
theorem d_Md_basis_53 : decode prog_14_method_43_code 53 = .ok (.if_icmp .ne 64, 3) := by decide +kernel
theorem d_Md_basis_56 : decode prog_14_method_43_code 56 = .ok (.iload_n 3, 1) := by decide +kernel
theorem d_Md_basis_57 : decode prog_14_method_43_code 57 = .ok (.iload_n 1, 1) := by decide +kernel
theorem d_Md_basis_58 : decode prog_14_method_43_code 58 = .ok (.if_icmp .ne 56, 3) := by decide +kernel
theorem d_Md_basis_61 : decode prog_14_method_43_code 61 = .ok (.aload_n 0, 1) := by decide +kernel
theorem d_Md_basis_62 : decode prog_14_method_43_code 62 = .ok (.getfield 76, 3) := by decide +kernel
theorem d_Md_basis_65 : decode prog_14_method_43_code 65 = .ok (.iload_n 2, 1) := by decide +kernel
theorem d_Md_basis_66 : decode prog_14_method_43_code 66 = .ok (.iaload, 1) := by decide +kernel
theorem d_Md_basis_67 : decode prog_14_method_43_code 67 = .ok (.ldc 146, 2) := by decide +kernel
theorem d_Md_basis_69 : decode prog_14_method_43_code 69 = .ok (.if_icmp .ne 17, 3) := by decide +kernel
theorem d_Md_basis_72 : decode prog_14_method_43_code 72 = .ok (.iload 4, 2) := by decide +kernel
theorem d_Md_basis_74 : decode prog_14_method_43_code 74 = .ok (.iload_n 2, 1) := by decide +kernel
theorem d_Md_basis_75 : decode prog_14_method_43_code 75 = .ok (.if_icmp .ne 7, 3) := by decide +kernel
theorem d_Md_basis_78 : decode prog_14_method_43_code 78 = .ok (.iconst 1, 1) := by decide +kernel
theorem d_Md_basis_79 : decode prog_14_method_43_code 79 = .ok (.goto 34, 3) := by decide +kernel
theorem d_Md_basis_82 : decode prog_14_method_43_code 82 = .ok (.iconst 0, 1) := by decide +kernel
theorem d_Md_basis_83 : decode prog_14_method_43_code 83 = .ok (.goto 30, 3) := by decide +kernel
theorem d_Md_basis_86 : decode prog_14_method_43_code 86 = .ok (.aload_n 0, 1) := by decide +kernel
theorem d_Md_basis_87 : decode prog_14_method_43_code 87 = .ok (.getfield 112, 3) := by decide +kernel
theorem d_Md_basis_90 : decode prog_14_method_43_code 90 = .ok (.aload_n 0, 1) := by decide +kernel
theorem d_Md_basis_91 : decode prog_14_method_43_code 91 = .ok (.getfield 69, 3) := by decide +kernel
theorem d_Md_basis_94 : decode prog_14_method_43_code 94 = .ok (.bipush 55, 2) := by decide +kernel
theorem d_Md_basis_96 : decode prog_14_method_43_code 96 = .ok (.aload_n 0, 1) := by decide +kernel
theorem d_Md_basis_97 : decode prog_14_method_43_code 97 = .ok (.getfield 76, 3) := by decide +kernel
theorem d_Md_basis_100 : decode prog_14_method_43_code 100 = .ok (.iload_n 2, 1) := by decide +kernel
theorem d_Md_basis_101 : decode prog_14_method_43_code 101 = .ok (.iaload, 1) := by decide +kernel
theorem d_Md_basis_102 : decode prog_14_method_43_code 102 = .ok (.imul, 1) := by decide +kernel
theorem d_Md_basis_103 : decode prog_14_method_43_code 103 = .ok (.iload 4, 2) := by decide +kernel
theorem d_Md_basis_105 : decode prog_14_method_43_code 105 = .ok (.iadd, 1) := by decide +kernel
theorem d_Md_basis_106 : decode prog_14_method_43_code 106 = .ok (.iaload, 1) := by decide +kernel
theorem d_Md_basis_107 : decode prog_14_method_43_code 107 = .ok (.isub, 1) := by decide +kernel
theorem d_Md_basis_108 : decode prog_14_method_43_code 108 = .ok (.aload_n 0, 1) := by decide +kernel
theorem d_Md_basis_109 : decode prog_14_method_43_code 109 = .ok (.getfield 112, 3) := by decide +kernel
theorem d_Md_basis_112 : decode prog_14_method_43_code 112 = .ok (.irem, 1) := by decide +kernel
theorem d_Md_basis_113 : decode prog_14_method_43_code 113 = .ok (.ireturn, 1) := by decide +kernel
theorem d_Md_basis_114 : decode prog_14_method_43_code 114 = .ok (.iinc 3 1, 3) := by decide +kernel
theorem d_Md_basis_117 : decode prog_14_method_43_code 117 = .ok (.iinc 4 1, 3) := by decide +kernel
theorem d_Md_basis_120 : decode prog_14_method_43_code 120 = .ok (.goto (-85), 3) := by decide +kernel
theorem d_Md_basis_123 : decode prog_14_method_43_code 123 = .ok (.ldc 146, 2) := by decide +kernel
theorem d_Md_basis_125 : decode prog_14_method_43_code 125 = .ok (.ireturn, 1) := by decide +kernel
set_option maxHeartbeats 2000000 in
theorem Md_basis_L35_g {κ : tv_Kt} (hC : tv_Cx κ "TiedViewsModel" prog_14_method_43_code 5 2) (hR : tv_Re κ (some .int)) (F : Nat) : ∀ (n : Nat) (l1 : Int32) (l2 : Int32) (l3 : Int32) (l4 : Int32) (M : tv_M), tv_G κ 5 (tv_Qm κ tv_ei) 35 [some (.ref (κ.b + 249)), some (.int l1), some (.int l2), some (.int l3), some (.int l4)] [] M (Md_basis_L35 F n l1 l2 l3 l4 M) := by
  intro n
  induction n with
  | zero => intro _ _ _ _ _; exact g_none
  | succ nn ih =>
    intro l1 l2 l3 l4 M
    rw [Md_basis_L35]
    refine g_iload hC d_Md_basis_35 rfl ?_
    refine g_aload_n hC d_Md_basis_37 rfl ?_
    refine fg_Md_235 hC lc_249 d_Md_basis_38 ?_
    refine g_icmp_ge (tgt := 123) hC d_Md_basis_41 (by decide) (fun _ => ?_) (fun _ => ?_)
    · refine g_ldc hC d_Md_basis_123 wk_Md_146 ?_
      exact g_iret hC hR d_Md_basis_125
    · refine g_aload_n hC d_Md_basis_44 rfl ?_
      refine fg_Md_76 hC lc_249 d_Md_basis_45 p0_249_40 ?_
      refine g_iload hC d_Md_basis_48 rfl ?_
      refine gv_iald hC ly_269 d_Md_basis_50 (fun x8 => ?_)
      refine g_ldc hC d_Md_basis_51 wk_Md_146 ?_
      refine g_icmp_ne (tgt := 117) hC d_Md_basis_53 (by decide) (fun _ => ?_) (fun _ => ?_)
      · refine g_iinc (ls' := [some (.ref (κ.b + 249)), some (.int l1), some (.int l2), some (.int l3), some (.int (l4 + 1))]) hC d_Md_basis_117 rfl k_i1 rfl rfl ?_
        refine g_goto (tgt := 35) hC d_Md_basis_120 (by decide) ?_
        exact ih l1 l2 l3 (l4 + 1) M
      · refine g_iload_n hC d_Md_basis_56 rfl ?_
        refine g_iload_n hC d_Md_basis_57 rfl ?_
        refine g_icmp_ne (tgt := 114) hC d_Md_basis_58 (by decide) (fun _ => ?_) (fun _ => ?_)
        · refine g_iinc (ls' := [some (.ref (κ.b + 249)), some (.int l1), some (.int l2), some (.int (l3 + 1)), some (.int l4)]) hC d_Md_basis_114 rfl k_i1 rfl rfl ?_
          refine g_iinc (ls' := [some (.ref (κ.b + 249)), some (.int l1), some (.int l2), some (.int (l3 + 1)), some (.int (l4 + 1))]) hC d_Md_basis_117 rfl k_i1 rfl rfl ?_
          refine g_goto (tgt := 35) hC d_Md_basis_120 (by decide) ?_
          exact ih l1 l2 (l3 + 1) (l4 + 1) M
        · refine g_aload_n hC d_Md_basis_61 rfl ?_
          refine fg_Md_76 hC lc_249 d_Md_basis_62 p0_249_40 ?_
          refine g_iload_n hC d_Md_basis_65 rfl ?_
          refine gv_iald hC ly_269 d_Md_basis_66 (fun x9 => ?_)
          refine g_ldc hC d_Md_basis_67 wk_Md_146 ?_
          refine g_icmp_ne (tgt := 86) hC d_Md_basis_69 (by decide) (fun _ => ?_) (fun _ => ?_)
          · refine g_aload_n hC d_Md_basis_86 rfl ?_
            refine fg_Md_112 hC lc_249 d_Md_basis_87 ?_
            refine g_aload_n hC d_Md_basis_90 rfl ?_
            refine fg_Md_69 hC lc_249 d_Md_basis_91 p0_249_38 ?_
            refine g_bipush hC d_Md_basis_94 k_b55 ?_
            refine g_aload_n hC d_Md_basis_96 rfl ?_
            refine fg_Md_76 hC lc_249 d_Md_basis_97 p0_249_40 ?_
            refine g_iload_n hC d_Md_basis_100 rfl ?_
            refine gv_iald hC ly_269 d_Md_basis_101 (fun x10 => ?_)
            refine g_imul hC d_Md_basis_102 ?_
            refine g_iload hC d_Md_basis_103 rfl ?_
            refine g_iadd hC d_Md_basis_105 ?_
            refine gv_iald hC ly_267 d_Md_basis_106 (fun x11 => ?_)
            refine g_isub hC d_Md_basis_107 ?_
            refine g_aload_n hC d_Md_basis_108 rfl ?_
            refine fg_Md_112 hC lc_249 d_Md_basis_109 ?_
            refine g_irem hC d_Md_basis_112 ?_
            exact g_iret hC hR d_Md_basis_113
          · refine g_iload hC d_Md_basis_72 rfl ?_
            refine g_iload_n hC d_Md_basis_74 rfl ?_
            refine g_icmp_ne (tgt := 82) hC d_Md_basis_75 (by decide) (fun _ => ?_) (fun _ => ?_)
            · refine g_iconst hC d_Md_basis_82 k_i0 ?_
              refine g_goto (tgt := 113) hC d_Md_basis_83 (by decide) ?_
              exact g_iret hC hR d_Md_basis_113
            · refine g_iconst hC d_Md_basis_78 k_i1 ?_
              refine g_goto (tgt := 113) hC d_Md_basis_79 (by decide) ?_
              exact g_iret hC hR d_Md_basis_113
set_option maxHeartbeats 2000000 in
theorem Md_basis_c {l : Launch} {θ : tv_Th} (F : Nat) (a1 : Int32) (a2 : Int32) (M : tv_M) : tv_Ct l θ ⟨"TiedViewsModel", "basis", "(II)I"⟩ prog_14_method_43_code 5 (some .int) 2 tv_ei [.ref (θ.1 + 249), .int a1, .int a2] M (Md_basis F a1 a2 M) := by
  refine tv_ofG [some (.ref (θ.1 + 249)), some (.int a1), some (.int a2), none, none] rfl rfl (tv_ent 2 rfl) ?_
  intro κ hl ht hC hR
  subst hl; subst ht
  unfold Md_basis
  refine g_aload_n hC d_Md_basis_0 rfl ?_
  refine g_iconst hC d_Md_basis_1 k_i0 ?_
  refine fp_Md_1 hC lc_249 d_Md_basis_2 (fun M1 => ?_)
  refine g_iload_n hC d_Md_basis_5 rfl ?_
  refine g_if_lt (tgt := 17) hC d_Md_basis_6 (by decide) (fun _ => ?_) (fun _ => ?_)
  · refine g_ldc hC d_Md_basis_17 wk_Md_127 ?_
    exact g_iret hC hR d_Md_basis_19
  · refine g_aload_n hC d_Md_basis_9 rfl ?_
    refine g_iload_n hC d_Md_basis_10 rfl ?_
    refine gv_callVi hC [.int a2] cw_Md_291 (Md_isColumn_c F a2 M1) lc_249 rfl rfl rfl rfl rfl rfl rfl d_Md_basis_11 (fun r2 M3 => ?_)
    refine g_if_ne (tgt := 20) hC d_Md_basis_14 (by decide) (fun _ => ?_) (fun _ => ?_)
    · refine g_aload_n hC d_Md_basis_20 rfl ?_
      refine g_ldc hC d_Md_basis_21 wk_Md_146 ?_
      refine gv_callVv hC [.int (-1000000)] cw_Md_282 (Md_layTies_c F (-1000000) M3) lc_249 rfl rfl rfl rfl rfl rfl rfl d_Md_basis_23 (fun r4 M5 => ?_)
      refine g_aload_n hC d_Md_basis_26 rfl ?_
      refine gv_callVv hC [] cw_Md_285 (Md_takeSteps_c F M5) lc_249 rfl rfl rfl rfl rfl rfl rfl d_Md_basis_27 (fun r6 M7 => ?_)
      refine g_iconst hC d_Md_basis_30 k_i0 ?_
      refine g_istore_n (ls' := [some (.ref (κ.b + 249)), some (.int a1), some (.int a2), some (.int 0), none]) hC d_Md_basis_31 rfl rfl ?_
      refine g_iconst hC d_Md_basis_32 k_i0 ?_
      refine g_istore (ls' := [some (.ref (κ.b + 249)), some (.int a1), some (.int a2), some (.int 0), some (.int 0)]) hC d_Md_basis_33 rfl rfl ?_
      exact Md_basis_L35_g hC hR F F a1 a2 0 0 M7
    · refine g_ldc hC d_Md_basis_17 wk_Md_127 ?_
      exact g_iret hC hR d_Md_basis_19
theorem d_Md_isLinear_0 : decode prog_14_method_32_code 0 = .ok (.aload_n 0, 1) := by decide +kernel
theorem d_Md_isLinear_1 : decode prog_14_method_32_code 1 = .ok (.iload_n 1, 1) := by decide +kernel
theorem d_Md_isLinear_2 : decode prog_14_method_32_code 2 = .ok (.invokevirtual 263, 3) := by decide +kernel
theorem d_Md_isLinear_5 : decode prog_14_method_32_code 5 = .ok (.ifCond .eq 17, 3) := by decide +kernel
theorem d_Md_isLinear_8 : decode prog_14_method_32_code 8 = .ok (.aload_n 0, 1) := by decide +kernel
theorem d_Md_isLinear_9 : decode prog_14_method_32_code 9 = .ok (.getfield 27, 3) := by decide +kernel
theorem d_Md_isLinear_12 : decode prog_14_method_32_code 12 = .ok (.iload_n 1, 1) := by decide +kernel
theorem d_Md_isLinear_13 : decode prog_14_method_32_code 13 = .ok (.iaload, 1) := by decide +kernel
theorem d_Md_isLinear_14 : decode prog_14_method_32_code 14 = .ok (.iconst 3, 1) := by decide +kernel
theorem d_Md_isLinear_15 : decode prog_14_method_32_code 15 = .ok (.if_icmp .eq 7, 3) := by decide +kernel
theorem d_Md_isLinear_18 : decode prog_14_method_32_code 18 = .ok (.iconst 1, 1) := by decide +kernel
theorem d_Md_isLinear_19 : decode prog_14_method_32_code 19 = .ok (.goto 4, 3) := by decide +kernel
theorem d_Md_isLinear_22 : decode prog_14_method_32_code 22 = .ok (.iconst 0, 1) := by decide +kernel
theorem d_Md_isLinear_23 : decode prog_14_method_32_code 23 = .ok (.ireturn, 1) := by decide +kernel
set_option maxHeartbeats 2000000 in
theorem Md_isLinear_c {l : Launch} {θ : tv_Th} (F : Nat) (a1 : Int32) (M : tv_M) : tv_Ct l θ ⟨"TiedViewsModel", "isLinear", "(I)Z"⟩ prog_14_method_32_code 2 (some .boolean) 2 tv_ei [.ref (θ.1 + 249), .int a1] M (Md_isLinear F a1 M) := by
  refine tv_ofG [some (.ref (θ.1 + 249)), some (.int a1)] rfl rfl (tv_ent 0 rfl) ?_
  intro κ hl ht hC hR
  subst hl; subst ht
  unfold Md_isLinear
  refine g_aload_n hC d_Md_isLinear_0 rfl ?_
  refine g_iload_n hC d_Md_isLinear_1 rfl ?_
  refine gv_callVi hC [.int a1] cw_Md_263 (Md_isEye_c F a1 M) lc_249 rfl rfl rfl rfl rfl rfl rfl d_Md_isLinear_2 (fun r1 M2 => ?_)
  refine g_if_eq (tgt := 22) hC d_Md_isLinear_5 (by decide) (fun _ => ?_) (fun _ => ?_)
  · refine g_iconst hC d_Md_isLinear_22 k_i0 ?_
    exact g_zret hC hR tv_z0 d_Md_isLinear_23
  · refine g_aload_n hC d_Md_isLinear_8 rfl ?_
    refine fg_Md_27 hC lc_249 d_Md_isLinear_9 p0_249_7 ?_
    refine g_iload_n hC d_Md_isLinear_12 rfl ?_
    refine gv_iald hC ly_253 d_Md_isLinear_13 (fun x3 => ?_)
    refine g_iconst hC d_Md_isLinear_14 k_i3 ?_
    refine g_icmp_eq (tgt := 22) hC d_Md_isLinear_15 (by decide) (fun _ => ?_) (fun _ => ?_)
    · refine g_iconst hC d_Md_isLinear_22 k_i0 ?_
      exact g_zret hC hR tv_z0 d_Md_isLinear_23
    · refine g_iconst hC d_Md_isLinear_18 k_i1 ?_
      refine g_goto (tgt := 23) hC d_Md_isLinear_19 (by decide) ?_
      exact g_zret hC hR tv_z1 d_Md_isLinear_23
