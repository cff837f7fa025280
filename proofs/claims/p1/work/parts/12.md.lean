theorem d_Md_adopt_0 : decode prog_14_method_33_code 0 = .ok (.iload_n 1, 1) := by decide +kernel
theorem d_Md_adopt_1 : decode prog_14_method_33_code 1 = .ok (.iconst 1, 1) := by decide +kernel
theorem d_Md_adopt_2 : decode prog_14_method_33_code 2 = .ok (.iadd, 1) := by decide +kernel
theorem d_Md_adopt_3 : decode prog_14_method_33_code 3 = .ok (.istore_n 3, 1) := by decide +kernel
theorem d_Md_adopt_4 : decode prog_14_method_33_code 4 = .ok (.iload_n 3, 1) := by decide +kernel
theorem d_Md_adopt_5 : decode prog_14_method_33_code 5 = .ok (.aload_n 0, 1) := by decide +kernel
theorem d_Md_adopt_6 : decode prog_14_method_33_code 6 = .ok (.getfield 148, 3) := by decide +kernel
theorem d_Md_adopt_9 : decode prog_14_method_33_code 9 = .ok (.if_icmp .ge 24, 3) := by decide +kernel
theorem d_Md_adopt_12 : decode prog_14_method_33_code 12 = .ok (.aload_n 0, 1) := by decide +kernel
theorem d_Md_adopt_13 : decode prog_14_method_33_code 13 = .ok (.aload_n 0, 1) := by decide +kernel
theorem d_Md_adopt_14 : decode prog_14_method_33_code 14 = .ok (.getfield 31, 3) := by decide +kernel
theorem d_Md_adopt_17 : decode prog_14_method_33_code 17 = .ok (.iload_n 3, 1) := by decide +kernel
theorem d_Md_adopt_18 : decode prog_14_method_33_code 18 = .ok (.iaload, 1) := by decide +kernel
theorem d_Md_adopt_19 : decode prog_14_method_33_code 19 = .ok (.ldc 235, 2) := by decide +kernel
theorem d_Md_adopt_21 : decode prog_14_method_33_code 21 = .ok (.invokevirtual 192, 3) := by decide +kernel
theorem d_Md_adopt_24 : decode prog_14_method_33_code 24 = .ok (.ifCond .ne 9, 3) := by decide +kernel
theorem d_Md_adopt_27 : decode prog_14_method_33_code 27 = .ok (.iinc 3 1, 3) := by decide +kernel
theorem d_Md_adopt_30 : decode prog_14_method_33_code 30 = .ok (.goto (-26), 3) := by decide +kernel
theorem d_Md_adopt_33 : decode prog_14_method_33_code 33 = .ok (.aload_n 0, 1) := by decide +kernel
theorem d_Md_adopt_34 : decode prog_14_method_33_code 34 = .ok (.getfield 31, 3) := by decide +kernel
theorem d_Md_adopt_37 : decode prog_14_method_33_code 37 = .ok (.iload_n 3, 1) := by decide +kernel
theorem d_Md_adopt_38 : decode prog_14_method_33_code 38 = .ok (.iaload, 1) := by decide +kernel
theorem d_Md_adopt_39 : decode prog_14_method_33_code 39 = .ok (.istore 4, 2) := by decide +kernel
theorem d_Md_adopt_41 : decode prog_14_method_33_code 41 = .ok (.aload_n 0, 1) := by decide +kernel
theorem d_Md_adopt_42 : decode prog_14_method_33_code 42 = .ok (.iload 4, 2) := by decide +kernel
theorem d_Md_adopt_44 : decode prog_14_method_33_code 44 = .ok (.invokevirtual 202, 3) := by decide +kernel
theorem d_Md_adopt_47 : decode prog_14_method_33_code 47 = .ok (.istore 5, 2) := by decide +kernel
theorem d_Md_adopt_49 : decode prog_14_method_33_code 49 = .ok (.aload_n 0, 1) := by decide +kernel
theorem d_Md_adopt_50 : decode prog_14_method_33_code 50 = .ok (.iload 5, 2) := by decide +kernel
theorem d_Md_adopt_52 : decode prog_14_method_33_code 52 = .ok (.invokevirtual 205, 3) := by decide +kernel
theorem d_Md_adopt_55 : decode prog_14_method_33_code 55 = .ok (.iload 5, 2) := by decide +kernel
theorem d_Md_adopt_57 : decode prog_14_method_33_code 57 = .ok (.isub, 1) := by decide +kernel
theorem d_Md_adopt_58 : decode prog_14_method_33_code 58 = .ok (.istore 6, 2) := by decide +kernel
theorem d_Md_adopt_60 : decode prog_14_method_33_code 60 = .ok (.iconst 0, 1) := by decide +kernel
theorem d_Md_adopt_61 : decode prog_14_method_33_code 61 = .ok (.istore 7, 2) := by decide +kernel
theorem d_Md_adopt_63 : decode prog_14_method_33_code 63 = .ok (.iload 7, 2) := by decide +kernel
theorem d_Md_adopt_65 : decode prog_14_method_33_code 65 = .ok (.iload 6, 2) := by decide +kernel
theorem d_Md_adopt_67 : decode prog_14_method_33_code 67 = .ok (.if_icmp .ge 26, 3) := by decide +kernel
theorem d_Md_adopt_70 : decode prog_14_method_33_code 70 = .ok (.aload_n 0, 1) := by decide +kernel
theorem d_Md_adopt_71 : decode prog_14_method_33_code 71 = .ok (.getfield 28, 3) := by decide +kernel
theorem d_Md_adopt_74 : decode prog_14_method_33_code 74 = .ok (.iload 7, 2) := by decide +kernel
theorem d_Md_adopt_76 : decode prog_14_method_33_code 76 = .ok (.aload_n 0, 1) := by decide +kernel
theorem d_Md_adopt_77 : decode prog_14_method_33_code 77 = .ok (.getfield 16, 3) := by decide +kernel
theorem d_Md_adopt_80 : decode prog_14_method_33_code 80 = .ok (.iload 5, 2) := by decide +kernel
theorem d_Md_adopt_82 : decode prog_14_method_33_code 82 = .ok (.iload 7, 2) := by decide +kernel
theorem d_Md_adopt_84 : decode prog_14_method_33_code 84 = .ok (.iadd, 1) := by decide +kernel
theorem d_Md_adopt_85 : decode prog_14_method_33_code 85 = .ok (.iaload, 1) := by decide +kernel
theorem d_Md_adopt_86 : decode prog_14_method_33_code 86 = .ok (.iastore, 1) := by decide +kernel
theorem d_Md_adopt_87 : decode prog_14_method_33_code 87 = .ok (.iinc 7 1, 3) := by decide +kernel
theorem d_Md_adopt_90 : decode prog_14_method_33_code 90 = .ok (.goto (-27), 3) := by decide +kernel
theorem d_Md_adopt_93 : decode prog_14_method_33_code 93 = .ok (.aload_n 0, 1) := by decide +kernel
theorem d_Md_adopt_94 : decode prog_14_method_33_code 94 = .ok (.dup, 1) := by decide +kernel
theorem d_Md_adopt_95 : decode prog_14_method_33_code 95 = .ok (.getfield 142, 3) := by decide +kernel
theorem d_Md_adopt_98 : decode prog_14_method_33_code 98 = .ok (.iload 6, 2) := by decide +kernel
theorem d_Md_adopt_100 : decode prog_14_method_33_code 100 = .ok (.isub, 1) := by decide +kernel
theorem d_Md_adopt_101 : decode prog_14_method_33_code 101 = .ok (.putfield 142, 3) := by decide +kernel
theorem d_Md_adopt_104 : decode prog_14_method_33_code 104 = .ok (.iload 5, 2) := by decide +kernel
theorem d_Md_adopt_106 : decode prog_14_method_33_code 106 = .ok (.istore 7, 2) := by decide +kernel
theorem d_Md_adopt_108 : decode prog_14_method_33_code 108 = .ok (.iload 7, 2) := by decide +kernel
theorem d_Md_adopt_110 : decode prog_14_method_33_code 110 = .ok (.aload_n 0, 1) := by decide +kernel
theorem d_Md_adopt_111 : decode prog_14_method_33_code 111 = .ok (.getfield 142, 3) := by decide +kernel
theorem d_Md_adopt_114 : decode prog_14_method_33_code 114 = .ok (.if_icmp .ge 26, 3) := by decide +kernel
theorem d_Md_adopt_117 : decode prog_14_method_33_code 117 = .ok (.aload_n 0, 1) := by decide +kernel
theorem d_Md_adopt_118 : decode prog_14_method_33_code 118 = .ok (.getfield 16, 3) := by decide +kernel
theorem d_Md_adopt_121 : decode prog_14_method_33_code 121 = .ok (.iload 7, 2) := by decide +kernel
theorem d_Md_adopt_123 : decode prog_14_method_33_code 123 = .ok (.aload_n 0, 1) := by decide +kernel
theorem d_Md_adopt_124 : decode prog_14_method_33_code 124 = .ok (.getfield 16, 3) := by decide +kernel
theorem d_Md_adopt_127 : decode prog_14_method_33_code 127 = .ok (.iload 7, 2) := by decide +kernel
theorem d_Md_adopt_129 : decode prog_14_method_33_code 129 = .ok (.iload 6, 2) := by decide +kernel
theorem d_Md_adopt_131 : decode prog_14_method_33_code 131 = .ok (.iadd, 1) := by decide +kernel
theorem d_Md_adopt_132 : decode prog_14_method_33_code 132 = .ok (.iaload, 1) := by decide +kernel
theorem d_Md_adopt_133 : decode prog_14_method_33_code 133 = .ok (.iastore, 1) := by decide +kernel
theorem d_Md_adopt_134 : decode prog_14_method_33_code 134 = .ok (.iinc 7 1, 3) := by decide +kernel
theorem d_Md_adopt_137 : decode prog_14_method_33_code 137 = .ok (.goto (-29), 3) := by decide +kernel
theorem d_Md_adopt_140 : decode prog_14_method_33_code 140 = .ok (.aload_n 0, 1) := by decide +kernel
theorem d_Md_adopt_141 : decode prog_14_method_33_code 141 = .ok (.iload_n 1, 1) := by decide +kernel
theorem d_Md_adopt_142 : decode prog_14_method_33_code 142 = .ok (.invokevirtual 226, 3) := by decide +kernel
theorem d_Md_adopt_145 : decode prog_14_method_33_code 145 = .ok (.aload_n 0, 1) := by decide +kernel
theorem d_Md_adopt_146 : decode prog_14_method_33_code 146 = .ok (.getfield 211, 3) := by decide +kernel
theorem d_Md_adopt_149 : decode prog_14_method_33_code 149 = .ok (.aload_n 0, 1) := by decide +kernel
theorem d_Md_adopt_150 : decode prog_14_method_33_code 150 = .ok (.getfield 25, 3) := by decide +kernel
theorem d_Md_adopt_153 : decode prog_14_method_33_code 153 = .ok (.iload 4, 2) := by decide +kernel
theorem d_Md_adopt_155 : decode prog_14_method_33_code 155 = .ok (.iaload, 1) := by decide +kernel
theorem d_Md_adopt_156 : decode prog_14_method_33_code 156 = .ok (.isub, 1) := by decide +kernel
theorem d_Md_adopt_157 : decode prog_14_method_33_code 157 = .ok (.istore 7, 2) := by decide +kernel
theorem d_Md_adopt_159 : decode prog_14_method_33_code 159 = .ok (.aload_n 0, 1) := by decide +kernel
theorem d_Md_adopt_160 : decode prog_14_method_33_code 160 = .ok (.getfield 208, 3) := by decide +kernel
theorem d_Md_adopt_163 : decode prog_14_method_33_code 163 = .ok (.istore 8, 2) := by decide +kernel
theorem d_Md_adopt_165 : decode prog_14_method_33_code 165 = .ok (.aload_n 0, 1) := by decide +kernel
theorem d_Md_adopt_166 : decode prog_14_method_33_code 166 = .ok (.getfield 142, 3) := by decide +kernel
theorem d_Md_adopt_169 : decode prog_14_method_33_code 169 = .ok (.iconst 1, 1) := by decide +kernel
theorem d_Md_adopt_170 : decode prog_14_method_33_code 170 = .ok (.isub, 1) := by decide +kernel
theorem d_Md_adopt_171 : decode prog_14_method_33_code 171 = .ok (.istore 9, 2) := by decide +kernel
theorem d_Md_adopt_173 : decode prog_14_method_33_code 173 = .ok (.iload 9, 2) := by decide +kernel
theorem d_Md_adopt_175 : decode prog_14_method_33_code 175 = .ok (.iload 8, 2) := by decide +kernel
theorem d_Md_adopt_177 : decode prog_14_method_33_code 177 = .ok (.if_icmp .lt 26, 3) := by decide +kernel
theorem d_Md_adopt_180 : decode prog_14_method_33_code 180 = .ok (.aload_n 0, 1) := by decide +kernel
theorem d_Md_adopt_181 : decode prog_14_method_33_code 181 = .ok (.getfield 16, 3) := by decide +kernel
theorem d_Md_adopt_184 : decode prog_14_method_33_code 184 = .ok (.iload 9, 2) := by decide +kernel
theorem d_Md_adopt_186 : decode prog_14_method_33_code 186 = .ok (.iload 6, 2) := by decide +kernel
theorem d_Md_adopt_188 : decode prog_14_method_33_code 188 = .ok (.iadd, 1) := by decide +kernel
theorem d_Md_adopt_189 : decode prog_14_method_33_code 189 = .ok (.aload_n 0, 1) := by decide +kernel
theorem d_Md_adopt_190 : decode prog_14_method_33_code 190 = .ok (.getfield 16, 3) := by decide +kernel
theorem d_Md_adopt_193 : decode prog_14_method_33_code 193 = .ok (.iload 9, 2) := by decide +kernel
theorem d_Md_adopt_195 : decode prog_14_method_33_code 195 = .ok (.iaload, 1) := by decide +kernel
theorem d_Md_adopt_196 : decode prog_14_method_33_code 196 = .ok (.iastore, 1) := by decide +kernel
theorem d_Md_adopt_197 : decode prog_14_method_33_code 197 = .ok (.iinc 9 (-1), 3) := by decide +kernel
theorem d_Md_adopt_200 : decode prog_14_method_33_code 200 = .ok (.goto (-27), 3) := by decide +kernel
theorem d_Md_adopt_203 : decode prog_14_method_33_code 203 = .ok (.aload_n 0, 1) := by decide +kernel
theorem d_Md_adopt_204 : decode prog_14_method_33_code 204 = .ok (.dup, 1) := by decide +kernel
theorem d_Md_adopt_205 : decode prog_14_method_33_code 205 = .ok (.getfield 142, 3) := by decide +kernel
theorem d_Md_adopt_208 : decode prog_14_method_33_code 208 = .ok (.iload 6, 2) := by decide +kernel
theorem d_Md_adopt_210 : decode prog_14_method_33_code 210 = .ok (.iadd, 1) := by decide +kernel
theorem d_Md_adopt_211 : decode prog_14_method_33_code 211 = .ok (.putfield 142, 3) := by decide +kernel
theorem d_Md_adopt_214 : decode prog_14_method_33_code 214 = .ok (.iconst 0, 1) := by decide +kernel
theorem d_Md_adopt_215 : decode prog_14_method_33_code 215 = .ok (.istore 9, 2) := by decide +kernel
theorem d_Md_adopt_217 : decode prog_14_method_33_code 217 = .ok (.iload 9, 2) := by decide +kernel
theorem d_Md_adopt_219 : decode prog_14_method_33_code 219 = .ok (.iload 6, 2) := by decide +kernel
theorem d_Md_adopt_221 : decode prog_14_method_33_code 221 = .ok (.if_icmp .ge 55, 3) := by decide +kernel
theorem d_Md_adopt_224 : decode prog_14_method_33_code 224 = .ok (.aload_n 0, 1) := by decide +kernel
theorem d_Md_adopt_225 : decode prog_14_method_33_code 225 = .ok (.getfield 16, 3) := by decide +kernel
theorem d_Md_adopt_228 : decode prog_14_method_33_code 228 = .ok (.iload 8, 2) := by decide +kernel
theorem d_Md_adopt_230 : decode prog_14_method_33_code 230 = .ok (.iload 9, 2) := by decide +kernel
theorem d_Md_adopt_232 : decode prog_14_method_33_code 232 = .ok (.iadd, 1) := by decide +kernel
theorem d_Md_adopt_233 : decode prog_14_method_33_code 233 = .ok (.aload_n 0, 1) := by decide +kernel
theorem d_Md_adopt_234 : decode prog_14_method_33_code 234 = .ok (.getfield 28, 3) := by decide +kernel
theorem d_Md_adopt_237 : decode prog_14_method_33_code 237 = .ok (.iload 9, 2) := by decide +kernel
theorem d_Md_adopt_239 : decode prog_14_method_33_code 239 = .ok (.iaload, 1) := by decide +kernel
theorem d_Md_adopt_240 : decode prog_14_method_33_code 240 = .ok (.iastore, 1) := by decide +kernel
theorem d_Md_adopt_241 : decode prog_14_method_33_code 241 = .ok (.aload_n 0, 1) := by decide +kernel
theorem d_Md_adopt_242 : decode prog_14_method_33_code 242 = .ok (.getfield 25, 3) := by decide +kernel
theorem d_Md_adopt_245 : decode prog_14_method_33_code 245 = .ok (.aload_n 0, 1) := by decide +kernel
theorem d_Md_adopt_246 : decode prog_14_method_33_code 246 = .ok (.getfield 28, 3) := by decide +kernel
theorem d_Md_adopt_249 : decode prog_14_method_33_code 249 = .ok (.iload 9, 2) := by decide +kernel
theorem d_Md_adopt_251 : decode prog_14_method_33_code 251 = .ok (.iaload, 1) := by decide +kernel
theorem d_Md_adopt_252 : decode prog_14_method_33_code 252 = .ok (.dup2, 1) := by decide +kernel
theorem d_Md_adopt_253 : decode prog_14_method_33_code 253 = .ok (.iaload, 1) := by decide +kernel
theorem d_Md_adopt_254 : decode prog_14_method_33_code 254 = .ok (.iload 9, 2) := by decide +kernel
theorem d_Md_adopt_256 : decode prog_14_method_33_code 256 = .ok (.ifCond .ne 8, 3) := by decide +kernel
theorem d_Md_adopt_259 : decode prog_14_method_33_code 259 = .ok (.iload 7, 2) := by decide +kernel
theorem d_Md_adopt_261 : decode prog_14_method_33_code 261 = .ok (.goto 7, 3) := by decide +kernel
theorem d_Md_adopt_264 : decode prog_14_method_33_code 264 = .ok (.iload 7, 2) := by decide +kernel
theorem d_Md_adopt_266 : decode prog_14_method_33_code 266 = .ok (.iconst 1, 1) := by decide +kernel
theorem d_Md_adopt_267 : decode prog_14_method_33_code 267 = .ok (.iadd, 1) := by decide +kernel
theorem d_Md_adopt_268 : decode prog_14_method_33_code 268 = .ok (.iadd, 1) := by decide +kernel
theorem d_Md_adopt_269 : decode prog_14_method_33_code 269 = .ok (.iastore, 1) := by decide +kernel
theorem d_Md_adopt_270 : decode prog_14_method_33_code 270 = .ok (.iinc 9 1, 3) := by decide +kernel
theorem d_Md_adopt_273 : decode prog_14_method_33_code 273 = .ok (.goto (-56), 3) := by decide +kernel
theorem d_Md_adopt_276 : decode prog_14_method_33_code 276 = .ok (.iload_n 3, 1) := by decide +kernel
theorem d_Md_adopt_277 : decode prog_14_method_33_code 277 = .ok (.istore 9, 2) := by decide +kernel
theorem d_Md_adopt_279 : decode prog_14_method_33_code 279 = .ok (.iload 9, 2) := by decide +kernel
theorem d_Md_adopt_281 : decode prog_14_method_33_code 281 = .ok (.aload_n 0, 1) := by decide +kernel
theorem d_Md_adopt_282 : decode prog_14_method_33_code 282 = .ok (.getfield 148, 3) := by decide +kernel
theorem d_Md_adopt_285 : decode prog_14_method_33_code 285 = .ok (.if_icmp .ge 27, 3) := by decide +kernel
theorem d_Md_adopt_288 : decode prog_14_method_33_code 288 = .ok (.aload_n 0, 1) := by decide +kernel
theorem d_Md_adopt_289 : decode prog_14_method_33_code 289 = .ok (.getfield 31, 3) := by decide +kernel
theorem d_Md_adopt_292 : decode prog_14_method_33_code 292 = .ok (.iload_n 1, 1) := by decide +kernel
theorem d_Md_adopt_293 : decode prog_14_method_33_code 293 = .ok (.iload 9, 2) := by decide +kernel
theorem d_Md_adopt_295 : decode prog_14_method_33_code 295 = .ok (.iadd, 1) := by decide +kernel
theorem d_Md_adopt_296 : decode prog_14_method_33_code 296 = .ok (.iload_n 3, 1) := by decide +kernel
theorem d_Md_adopt_297 : decode prog_14_method_33_code 297 = .ok (.isub, 1) := by decide +kernel
theorem d_Md_adopt_298 : decode prog_14_method_33_code 298 = .ok (.aload_n 0, 1) := by decide +kernel
theorem d_Md_adopt_299 : decode prog_14_method_33_code 299 = .ok (.getfield 31, 3) := by decide +kernel
theorem d_Md_adopt_302 : decode prog_14_method_33_code 302 = .ok (.iload 9, 2) := by decide +kernel
theorem d_Md_adopt_304 : decode prog_14_method_33_code 304 = .ok (.iaload, 1) := by decide +kernel
theorem d_Md_adopt_305 : decode prog_14_method_33_code 305 = .ok (.iastore, 1) := by decide +kernel
theorem d_Md_adopt_306 : decode prog_14_method_33_code 306 = .ok (.iinc 9 1, 3) := by decide +kernel
theorem d_Md_adopt_309 : decode prog_14_method_33_code 309 = .ok (.goto (-30), 3) := by decide +kernel
theorem d_Md_adopt_312 : decode prog_14_method_33_code 312 = .ok (.aload_n 0, 1) := by decide +kernel
theorem d_Md_adopt_313 : decode prog_14_method_33_code 313 = .ok (.dup, 1) := by decide +kernel
theorem d_Md_adopt_314 : decode prog_14_method_33_code 314 = .ok (.getfield 148, 3) := by decide +kernel
theorem d_Md_adopt_317 : decode prog_14_method_33_code 317 = .ok (.iload_n 3, 1) := by decide +kernel
theorem d_Md_adopt_318 : decode prog_14_method_33_code 318 = .ok (.iload_n 1, 1) := by decide +kernel
theorem d_Md_adopt_319 : decode prog_14_method_33_code 319 = .ok (.isub, 1) := by decide +kernel
theorem d_Md_adopt_320 : decode prog_14_method_33_code 320 = .ok (.isub, 1) := by decide +kernel
theorem d_Md_adopt_321 : decode prog_14_method_33_code 321 = .ok (.putfield 148, 3) := by decide +kernel
theorem d_Md_adopt_324 : decode prog_14_method_33_code 324 = .ok (.aload_n 0, 1) := by decide +kernel
theorem d_Md_adopt_325 : decode prog_14_method_33_code 325 = .ok (.iload 8, 2) := by decide +kernel
theorem d_Md_adopt_327 : decode prog_14_method_33_code 327 = .ok (.iconst 1, 1) := by decide +kernel
theorem d_Md_adopt_328 : decode prog_14_method_33_code 328 = .ok (.iadd, 1) := by decide +kernel
theorem d_Md_adopt_329 : decode prog_14_method_33_code 329 = .ok (.putfield 208, 3) := by decide +kernel
theorem d_Md_adopt_332 : decode prog_14_method_33_code 332 = .ok (.aload_n 0, 1) := by decide +kernel
theorem d_Md_adopt_333 : decode prog_14_method_33_code 333 = .ok (.aload_n 0, 1) := by decide +kernel
theorem d_Md_adopt_334 : decode prog_14_method_33_code 334 = .ok (.getfield 25, 3) := by decide +kernel
theorem d_Md_adopt_337 : decode prog_14_method_33_code 337 = .ok (.iload 4, 2) := by decide +kernel
theorem d_Md_adopt_339 : decode prog_14_method_33_code 339 = .ok (.iaload, 1) := by decide +kernel
theorem d_Md_adopt_340 : decode prog_14_method_33_code 340 = .ok (.iconst 1, 1) := by decide +kernel
theorem d_Md_adopt_341 : decode prog_14_method_33_code 341 = .ok (.iadd, 1) := by decide +kernel
theorem d_Md_adopt_342 : decode prog_14_method_33_code 342 = .ok (.putfield 211, 3) := by decide +kernel
theorem d_Md_adopt_345 : decode prog_14_method_33_code 345 = .ok (.aload_n 0, 1) := by decide +kernel
theorem d_Md_adopt_346 : decode prog_14_method_33_code 346 = .ok (.getfield 28, 3) := by decide +kernel
theorem d_Md_adopt_349 : decode prog_14_method_33_code 349 = .ok (.iconst 0, 1) := by decide +kernel
theorem d_Md_adopt_350 : decode prog_14_method_33_code 350 = .ok (.aload_n 0, 1) := by decide +kernel
theorem d_Md_adopt_351 : decode prog_14_method_33_code 351 = .ok (.aload_n 0, 1) := by decide +kernel
theorem d_Md_adopt_352 : decode prog_14_method_33_code 352 = .ok (.getfield 19, 3) := by decide +kernel
theorem d_Md_adopt_355 : decode prog_14_method_33_code 355 = .ok (.iload_n 2, 1) := by decide +kernel
theorem d_Md_adopt_356 : decode prog_14_method_33_code 356 = .ok (.iaload, 1) := by decide +kernel
theorem d_Md_adopt_357 : decode prog_14_method_33_code 357 = .ok (.aload_n 0, 1) := by decide +kernel
theorem d_Md_adopt_358 : decode prog_14_method_33_code 358 = .ok (.getfield 22, 3) := by decide +kernel
theorem d_Md_adopt_361 : decode prog_14_method_33_code 361 = .ok (.iload_n 2, 1) := by decide +kernel
theorem d_Md_adopt_362 : decode prog_14_method_33_code 362 = .ok (.iaload, 1) := by decide +kernel
theorem d_Md_adopt_363 : decode prog_14_method_33_code 363 = .ok (.invokevirtual 229, 3) := by decide +kernel
theorem d_Md_adopt_366 : decode prog_14_method_33_code 366 = .ok (.iastore, 1) := by decide +kernel
theorem d_Md_adopt_367 : decode prog_14_method_33_code 367 = .ok (.return_, 1) := by decide +kernel
def f_Md_adopt_4 (M : qM) : Nat → (Int32 → Option qM) → Int32 → Option qM
  | 0, _, _ => none
  | n + 1, K2, x1 => if (M.1 0 13) ≤ x1 then (K2 x1) else (q_ix x1 40 <| q_bp (f_Md_named (M.1 8 x1.toNatClampNeg) 1607816 M) fun x5 => if x5 = 0 then (f_Md_adopt_4 M n K2 (x1 + 1)) else (K2 x1))
def f_Md_adopt_63 (x10 : Int32) (x9 : Int32) : Nat → (qM → Option qM) → Int32 → qM → Option qM
  | 0, _, _, _ => none
  | n + 1, K13, x11, M12 => if (x10 - x9) ≤ x11 then (K13 M12) else (q_ix (x9 + x11) 40 <| q_ix x11 40 <| q_lt (qsI M12 7 x11.toNatClampNeg (M12.1 3 (x9 + x11).toNatClampNeg)) fun M17 => f_Md_adopt_63 x10 x9 n K13 (x11 + 1) M17)
def f_Md_adopt_108 (x10 : Int32) (x9 : Int32) : Nat → (qM → Option qM) → Int32 → qM → Option qM
  | 0, _, _, _ => none
  | n + 1, K22, x20, M21 => if (M21.1 0 5) ≤ x20 then (K22 M21) else (q_ix (x20 + (x10 - x9)) 40 <| q_ix x20 40 <| q_lt (qsI M21 3 x20.toNatClampNeg (M21.1 3 (x20 + (x10 - x9)).toNatClampNeg)) fun M26 => f_Md_adopt_108 x10 x9 n K22 (x20 + 1) M26)
def f_Md_adopt_173 (M28 : qM) (x10 : Int32) (x9 : Int32) : Nat → (qM → Option qM) → Int32 → qM → Option qM
  | 0, _, _, _ => none
  | n + 1, K33, x31, M32 => if x31 < (M28.1 0 20) then (K33 M32) else (q_ix x31 40 <| q_ix (x31 + (x10 - x9)) 40 <| q_lt (qsI M32 3 (x31 + (x10 - x9)).toNatClampNeg (M32.1 3 x31.toNatClampNeg)) fun M37 => f_Md_adopt_173 M28 x10 x9 n K33 (x31 + (-1)) M37)
def f_Md_adopt_217 (x10 : Int32) (x9 : Int32) (M28 : qM) (x30 : Int32) : Nat → (qM → Option qM) → Int32 → qM → Option qM
  | 0, _, _, _ => none
  | n + 1, K42, x40, M41 => if (x10 - x9) ≤ x40 then (K42 M41) else (q_ix x40 40 <| q_ix ((M28.1 0 20) + x40) 40 <| q_lt (qsI M41 3 ((M28.1 0 20) + x40).toNatClampNeg (M41.1 7 x40.toNatClampNeg)) fun M46 => q_ix x40 40 <| q_ix (M46.1 7 x40.toNatClampNeg) 40 <| q_lt (fun (x49 : Int32) => q_ix (M46.1 7 x40.toNatClampNeg) 40 <| q_lt (qsI M46 6 (M46.1 7 x40.toNatClampNeg).toNatClampNeg ((M46.1 6 (M46.1 7 x40.toNatClampNeg).toNatClampNeg) + x49)) fun M51 => f_Md_adopt_217 x10 x9 M28 x30 n K42 (x40 + 1) M51) fun (j52 : Int32 → Option qM) => if x40 = 0 then (j52 x30) else (j52 (x30 + 1)))
def f_Md_adopt_279 (a1 : Int32) (x7 : Int32) : Nat → (qM → Option qM) → Int32 → qM → Option qM
  | 0, _, _, _ => none
  | n + 1, K57, x55, M56 => if (M56.1 0 13) ≤ x55 then (K57 M56) else (q_ix x55 40 <| q_ix ((a1 + x55) - x7) 40 <| q_lt (qsI M56 8 ((a1 + x55) - x7).toNatClampNeg (M56.1 8 x55.toNatClampNeg)) fun M61 => f_Md_adopt_279 a1 x7 n K57 (x55 + 1) M61)
def f_Md_adopt (a1 : Int32) (a2 : Int32) (M : qM) : Option qM := f_Md_adopt_4 M 1000 (fun (x7 : Int32) => q_ix x7 40 <| q_bp (f_Md_seat (M.1 8 x7.toNatClampNeg) M) fun x9 => q_bp (f_Md_behind x9 M) fun x10 => f_Md_adopt_63 x10 x9 1000 (fun (M18 : qM) => q_lt (qsI M18 0 5 ((M18.1 0 5) - (x10 - x9))) fun M19 => f_Md_adopt_108 x10 x9 1000 (fun (M27 : qM) => q_cv (f_Md_findPlace a1 M27) fun M28 => q_ix (M.1 8 x7.toNatClampNeg) 40 <| q_lt ((M28.1 0 21) - (M28.1 6 (M.1 8 x7.toNatClampNeg).toNatClampNeg)) fun x30 => f_Md_adopt_173 M28 x10 x9 1000 (fun (M38 : qM) => q_lt (qsI M38 0 5 ((M38.1 0 5) + (x10 - x9))) fun M39 => f_Md_adopt_217 x10 x9 M28 x30 1000 (fun (M54 : qM) => f_Md_adopt_279 a1 x7 1000 (fun (M62 : qM) => q_lt (qsI M62 0 13 ((M62.1 0 13) - (x7 - a1))) fun M63 => q_lt (qsI M63 0 20 ((M28.1 0 20) + 1)) fun M64 => q_ix (M.1 8 x7.toNatClampNeg) 40 <| q_lt (qsI M64 0 21 ((M64.1 6 (M.1 8 x7.toNatClampNeg).toNatClampNeg) + 1)) fun M66 => q_ix a2 40 <| q_ix a2 40 <| q_cl (f_Md_create (M66.1 4 a2.toNatClampNeg) (M66.1 5 a2.toNatClampNeg) M66) fun x69 M70 => q_ix (0 : Int32) 40 <| q_lt (qsI M70 7 (0 : Int32).toNatClampNeg x69) fun M72 => some M72) x7 M54) 0 M39) ((M28.1 0 5) - 1) M28) x9 M19) 0 M) (a1 + 1)
abbrev rm_Md_adopt : Room := { frames := 4, cells := 0, slots := 0, locals := 86 }
set_option maxRecDepth 100000 in
set_option maxHeartbeats 4000000 in
theorem c_Md_adopt {l : Launch} {D : va_G} {dA : Nat → ClassId} {b : Nat} (a1 : Int32) (a2 : Int32)  (M : qM) (out : qM) (hf : f_Md_adopt a1 a2 M = some out) : CTv l y_Md_adopt w_Md_adopt rm_Md_adopt D (tysX dA) (enM dA b) 38 b (fun _ => True) [qr (some 0), qi a1, qi a2] M out := by
  refine qm_v (cc := prog_14_method_33_code) (nL := 10) (by decide) rfl (Nat.le_of_ble_eq_true rfl) ?_
  intro p e s m args below meth c Q hx hb hts0 hown hml hK hs hret
  have hts : ∀ w ∈ lw_g, w.before args s = true := fun w h => hts0 w (List.mem_cons_of_mem _ h)
  show QJ p l e rm_Md_adopt s m args below meth c (qA 38 b) b 10 0 0 Q (qWd D (enM dA b) 38 b) M 0 [(0, qr (some 0)), (1, qi a1), (2, qi a2)] []
  unfold f_Md_adopt at hf
  refine qj_iload_n hx hb d_Md_adopt_0 rfl 1 rfl ?_
  refine qj_iconst (v := 1) hx hb d_Md_adopt_1 (by decide) ?_
  refine qj_iadd hx hb d_Md_adopt_2 ?_
  refine qj_istore_n hx hb d_Md_adopt_3 rfl (by decide) rfl ?_
  have hL4 : ∀ (n : Nat) (K2 : Int32 → Option qM), (∀ (x7 : Int32), K2 x7 = some out → QJ p l e rm_Md_adopt s m args below meth c (qA 38 b) b 10 0 0 Q (qWd D (enM dA b) 38 b) M 33 [(0, qr (some 0)), (1, qi a1), (2, qi a2), (3, qi x7)] []) → ∀ (x1 : Int32), f_Md_adopt_4 M n K2 x1 = some out → QJ p l e rm_Md_adopt s m args below meth c (qA 38 b) b 10 0 0 Q (qWd D (enM dA b) 38 b) M 4 [(0, qr (some 0)), (1, qi a1), (2, qi a2), (3, qi x1)] [] := by
    clear hf
    intro n
    induction n with
    | zero =>
      intro K2 hK2 x1 hf
      exact absurd hf (by simp [f_Md_adopt_4])
    | succ n ih4 =>
      intro K2 hK2 x1 hf
      rw [f_Md_adopt_4] at hf
      have ih4 := ih4 K2 hK2
      refine qj_iload_n hx hb d_Md_adopt_4 rfl 3 rfl ?_
      refine qj_aload_n hx hb d_Md_adopt_5 rfl 0 rfl ?_
      refine qj_get hx hb hts hin_12 hown hK (by decide) rfl rfl 13 (by decide) (hts _ tw_454) (fun _ h => h) (qi (M.1 0 13)) rfl d_Md_adopt_6 ?_
      refine qj_icmp_ge (tgt := 33) hx hb d_Md_adopt_9 (by decide) (fun hc3 => ?_) (fun hc3 => ?_)
      · replace hf := q_if_t hc3 hf
        exact hK2 x1 hf
      · replace hf := q_if_f hc3 hf
        refine qj_aload_n hx hb d_Md_adopt_12 rfl 0 rfl ?_
        refine qj_aload_n hx hb d_Md_adopt_13 rfl 0 rfl ?_
        refine qj_get hx hb hts hin_12 hown hK (by decide) rfl rfl 12 (by decide) (hts _ tw_453) (fun _ h => h) (qr (some 8)) rfl d_Md_adopt_14 ?_
        refine qj_iload_n hx hb d_Md_adopt_17 rfl 3 rfl ?_
        have hf9 := q_ix_s hf; clear hf; obtain ⟨hi4, hf⟩ := hf9
        refine qj_iald (t0 := 0) hx hb hK (by decide) (fun _ _ => rfl) rfl hi4 d_Md_adopt_18 ?_
        refine qj_ldc (v := 1607816) hx hb hown (hts _ tw_516) d_Md_adopt_19 ?_
        have hf9 := q_bp_s hf; clear hf; obtain ⟨x5, hx5, hf⟩ := hf9
        refine qc_Vi (st := []) hx hb hml hown hts hK qT_ok hs (c_Md_named (M.1 8 x1.toNatClampNeg) 1607816 M _ hx5) ⟨(callB_of 2 hts (q_good tw_466) rfl rfl rfl (hts _ tw_459) (hts _ tw_467) (by decide +kernel) ⟨by decide, by decide⟩), (hts _ tw_468), (hts _ tw_469)⟩ (by decide) rfl rfl rfl rfl (Nat.le_of_ble_eq_true rfl) d_Md_adopt_21 ?_
        refine qj_if_ne (tgt := 33) hx hb d_Md_adopt_24 (by decide) (fun hc6 => ?_) (fun hc6 => ?_)
        · replace hf := q_if_f hc6 hf
          exact hK2 x1 hf
        · replace hf := q_if_t hc6 hf
          refine qj_iinc (j := 3) (v := x1 + 1) hx hb d_Md_adopt_27 rfl rfl (by decide) rfl ?_
          refine qj_goto (tgt := 4) hx hb d_Md_adopt_30 (by decide) ?_
          refine qj_sub [1, 2, 3, 0] rfl ?_
          exact ih4 (x1 + 1) hf
  refine qj_sub [1, 2, 3, 0] rfl ?_
  refine hL4 _ _ (fun x7 hf9 => ?_) (a1 + 1) hf
  clear hf; have hf := hf9; clear hf9
  refine qj_aload_n hx hb d_Md_adopt_33 rfl 0 rfl ?_
  refine qj_get hx hb hts hin_12 hown hK (by decide) rfl rfl 12 (by decide) (hts _ tw_453) (fun _ h => h) (qr (some 8)) rfl d_Md_adopt_34 ?_
  refine qj_iload_n hx hb d_Md_adopt_37 rfl 3 rfl ?_
  have hf9 := q_ix_s hf; clear hf; obtain ⟨hi8, hf⟩ := hf9
  refine qj_iald (t0 := 0) hx hb hK (by decide) (fun _ _ => rfl) rfl hi8 d_Md_adopt_38 ?_
  refine qj_istore hx hb d_Md_adopt_39 (by decide) rfl ?_
  refine qj_aload_n hx hb d_Md_adopt_41 rfl 1 rfl ?_
  refine qj_iload hx hb d_Md_adopt_42 0 rfl ?_
  have hf9 := q_bp_s hf; clear hf; obtain ⟨x9, hx9, hf⟩ := hf9
  refine qc_Vi (st := []) hx hb hml hown hts hK qT_ok hs (c_Md_seat (M.1 8 x7.toNatClampNeg) M _ hx9) ⟨(callB_of 1 hts (q_good tw_478) rfl rfl rfl (hts _ tw_459) (hts _ tw_479) (by decide +kernel) ⟨by decide, by decide⟩), (hts _ tw_480), (hts _ tw_481)⟩ (by decide) rfl rfl rfl rfl (Nat.le_of_ble_eq_true rfl) d_Md_adopt_44 ?_
  refine qj_istore hx hb d_Md_adopt_47 (by decide) rfl ?_
  refine qj_aload_n hx hb d_Md_adopt_49 rfl 2 rfl ?_
  refine qj_iload hx hb d_Md_adopt_50 0 rfl ?_
  have hf9 := q_bp_s hf; clear hf; obtain ⟨x10, hx10, hf⟩ := hf9
  refine qc_Vi (st := []) hx hb hml hown hts hK qT_ok hs (c_Md_behind x9 M _ hx10) ⟨(callB_of 1 hts (q_good tw_482) rfl rfl rfl (hts _ tw_459) (hts _ tw_483) (by decide +kernel) ⟨by decide, by decide⟩), (hts _ tw_484), (hts _ tw_485)⟩ (by decide) rfl rfl rfl rfl (Nat.le_of_ble_eq_true rfl) d_Md_adopt_52 ?_
  refine qj_iload hx hb d_Md_adopt_55 0 rfl ?_
  refine qj_isub hx hb d_Md_adopt_57 ?_
  refine qj_istore hx hb d_Md_adopt_58 (by decide) rfl ?_
  refine qj_iconst (v := 0) hx hb d_Md_adopt_60 (by decide) ?_
  refine qj_istore hx hb d_Md_adopt_61 (by decide) rfl ?_
  have hL63 : ∀ (n : Nat) (K13 : qM → Option qM), (∀ (M18 : qM), K13 M18 = some out → QJ p l e rm_Md_adopt s m args below meth c (qA 38 b) b 10 0 0 Q (qWd D (enM dA b) 38 b) M18 93 [(0, qr (some 0)), (1, qi a1), (2, qi a2), (3, qi x7), (4, qi (M.1 8 x7.toNatClampNeg)), (5, qi x9), (6, qi (x10 - x9))] []) → ∀ (x11 : Int32) (M12 : qM), f_Md_adopt_63 x10 x9 n K13 x11 M12 = some out → QJ p l e rm_Md_adopt s m args below meth c (qA 38 b) b 10 0 0 Q (qWd D (enM dA b) 38 b) M12 63 [(0, qr (some 0)), (1, qi a1), (2, qi a2), (3, qi x7), (4, qi (M.1 8 x7.toNatClampNeg)), (5, qi x9), (6, qi (x10 - x9)), (7, qi x11)] [] := by
    clear hf
    intro n
    induction n with
    | zero =>
      intro K13 hK13 x11 M12 hf
      exact absurd hf (by simp [f_Md_adopt_63])
    | succ n ih63 =>
      intro K13 hK13 x11 M12 hf
      rw [f_Md_adopt_63] at hf
      have ih63 := ih63 K13 hK13
      refine qj_iload hx hb d_Md_adopt_63 7 rfl ?_
      refine qj_iload hx hb d_Md_adopt_65 6 rfl ?_
      refine qj_icmp_ge (tgt := 93) hx hb d_Md_adopt_67 (by decide) (fun hc14 => ?_) (fun hc14 => ?_)
      · replace hf := q_if_t hc14 hf
        refine qj_sub [0, 1, 2, 3, 4, 5, 6] rfl ?_
        exact hK13 M12 hf
      · replace hf := q_if_f hc14 hf
        refine qj_aload_n hx hb d_Md_adopt_70 rfl 0 rfl ?_
        refine qj_get hx hb hts hin_12 hown hK (by decide) rfl rfl 11 (by decide) (hts _ tw_539) (fun _ h => h) (qr (some 7)) rfl d_Md_adopt_71 ?_
        refine qj_iload hx hb d_Md_adopt_74 7 rfl ?_
        refine qj_aload_n hx hb d_Md_adopt_76 rfl 0 rfl ?_
        refine qj_get hx hb hts hin_12 hown hK (by decide) rfl rfl 6 (by decide) (hts _ tw_448) (fun _ h => h) (qr (some 3)) rfl d_Md_adopt_77 ?_
        refine qj_iload hx hb d_Md_adopt_80 5 rfl ?_
        refine qj_iload hx hb d_Md_adopt_82 7 rfl ?_
        refine qj_iadd hx hb d_Md_adopt_84 ?_
        have hf9 := q_ix_s hf; clear hf; obtain ⟨hi15, hf⟩ := hf9
        refine qj_iald (t0 := 0) hx hb hK (by decide) (fun _ _ => rfl) rfl hi15 d_Md_adopt_85 ?_
        have hf9 := q_ix_s hf; clear hf; obtain ⟨hi16, hf⟩ := hf9
        have hf9 := q_lt_s hf; clear hf; obtain ⟨M17, eM17, hf⟩ := hf9
        refine qj_iast (t0 := 0) hx hb hK (by decide) (fun _ _ => rfl) rfl hi16 eM17 d_Md_adopt_86 ?_
        refine qj_iinc (j := 7) (v := x11 + 1) hx hb d_Md_adopt_87 rfl rfl (by decide) rfl ?_
        refine qj_goto (tgt := 63) hx hb d_Md_adopt_90 (by decide) ?_
        refine qj_sub [1, 2, 3, 4, 5, 6, 7, 0] rfl ?_
        exact ih63 (x11 + 1) M17 hf
  refine qj_sub [4, 5, 6, 7, 3, 2, 1, 0] rfl ?_
  refine hL63 _ _ (fun M18 hf9 => ?_) 0 M hf
  clear hf; have hf := hf9; clear hf9
  refine qj_aload_n hx hb d_Md_adopt_93 rfl 0 rfl ?_
  refine qj_dup hx hb d_Md_adopt_94 ?_
  refine qj_get hx hb hts hin_12 hown hK (by decide) rfl rfl 5 (by decide) (hts _ tw_447) (fun _ h => h) (qi (M18.1 0 5)) rfl d_Md_adopt_95 ?_
  refine qj_iload hx hb d_Md_adopt_98 6 rfl ?_
  refine qj_isub hx hb d_Md_adopt_100 ?_
  have hf9 := q_lt_s hf; clear hf; obtain ⟨M19, eM19, hf⟩ := hf9
  refine qj_puti (ty := .int) hx hb hts hin_12 ty_12 tyok_12 nm_12 hown hK (by decide) rfl rfl 5 (by decide) (hts _ tw_447) (fun _ h => h) rfl (by decide +kernel) rfl rfl (Nat.le_of_ble_eq_true rfl) sm_5 eM19 d_Md_adopt_101 ?_
  refine qj_iload hx hb d_Md_adopt_104 5 rfl ?_
  refine qj_istore hx hb d_Md_adopt_106 (by decide) rfl ?_
  have hL108 : ∀ (n : Nat) (K22 : qM → Option qM), (∀ (M27 : qM), K22 M27 = some out → QJ p l e rm_Md_adopt s m args below meth c (qA 38 b) b 10 0 0 Q (qWd D (enM dA b) 38 b) M27 140 [(0, qr (some 0)), (1, qi a1), (2, qi a2), (3, qi x7), (4, qi (M.1 8 x7.toNatClampNeg)), (6, qi (x10 - x9))] []) → ∀ (x20 : Int32) (M21 : qM), f_Md_adopt_108 x10 x9 n K22 x20 M21 = some out → QJ p l e rm_Md_adopt s m args below meth c (qA 38 b) b 10 0 0 Q (qWd D (enM dA b) 38 b) M21 108 [(0, qr (some 0)), (1, qi a1), (2, qi a2), (3, qi x7), (4, qi (M.1 8 x7.toNatClampNeg)), (6, qi (x10 - x9)), (7, qi x20)] [] := by
    clear hf
    intro n
    induction n with
    | zero =>
      intro K22 hK22 x20 M21 hf
      exact absurd hf (by simp [f_Md_adopt_108])
    | succ n ih108 =>
      intro K22 hK22 x20 M21 hf
      rw [f_Md_adopt_108] at hf
      have ih108 := ih108 K22 hK22
      refine qj_iload hx hb d_Md_adopt_108 6 rfl ?_
      refine qj_aload_n hx hb d_Md_adopt_110 rfl 0 rfl ?_
      refine qj_get hx hb hts hin_12 hown hK (by decide) rfl rfl 5 (by decide) (hts _ tw_447) (fun _ h => h) (qi (M21.1 0 5)) rfl d_Md_adopt_111 ?_
      refine qj_icmp_ge (tgt := 140) hx hb d_Md_adopt_114 (by decide) (fun hc23 => ?_) (fun hc23 => ?_)
      · replace hf := q_if_t hc23 hf
        refine qj_sub [0, 1, 2, 3, 4, 5] rfl ?_
        exact hK22 M21 hf
      · replace hf := q_if_f hc23 hf
        refine qj_aload_n hx hb d_Md_adopt_117 rfl 0 rfl ?_
        refine qj_get hx hb hts hin_12 hown hK (by decide) rfl rfl 6 (by decide) (hts _ tw_448) (fun _ h => h) (qr (some 3)) rfl d_Md_adopt_118 ?_
        refine qj_iload hx hb d_Md_adopt_121 6 rfl ?_
        refine qj_aload_n hx hb d_Md_adopt_123 rfl 0 rfl ?_
        refine qj_get hx hb hts hin_12 hown hK (by decide) rfl rfl 6 (by decide) (hts _ tw_448) (fun _ h => h) (qr (some 3)) rfl d_Md_adopt_124 ?_
        refine qj_iload hx hb d_Md_adopt_127 6 rfl ?_
        refine qj_iload hx hb d_Md_adopt_129 5 rfl ?_
        refine qj_iadd hx hb d_Md_adopt_131 ?_
        have hf9 := q_ix_s hf; clear hf; obtain ⟨hi24, hf⟩ := hf9
        refine qj_iald (t0 := 0) hx hb hK (by decide) (fun _ _ => rfl) rfl hi24 d_Md_adopt_132 ?_
        have hf9 := q_ix_s hf; clear hf; obtain ⟨hi25, hf⟩ := hf9
        have hf9 := q_lt_s hf; clear hf; obtain ⟨M26, eM26, hf⟩ := hf9
        refine qj_iast (t0 := 0) hx hb hK (by decide) (fun _ _ => rfl) rfl hi25 eM26 d_Md_adopt_133 ?_
        refine qj_iinc (j := 6) (v := x20 + 1) hx hb d_Md_adopt_134 rfl rfl (by decide) rfl ?_
        refine qj_goto (tgt := 108) hx hb d_Md_adopt_137 (by decide) ?_
        refine qj_sub [1, 2, 3, 4, 5, 6, 0] rfl ?_
        exact ih108 (x20 + 1) M26 hf
  refine qj_sub [1, 2, 3, 4, 5, 7, 0] rfl ?_
  refine hL108 _ _ (fun M27 hf9 => ?_) x9 M19 hf
  clear hf; have hf := hf9; clear hf9
  refine qj_aload_n hx hb d_Md_adopt_140 rfl 0 rfl ?_
  refine qj_iload_n hx hb d_Md_adopt_141 rfl 1 rfl ?_
  have hf9 := q_cv_s hf; clear hf; obtain ⟨M28, hM28, hf⟩ := hf9
  refine qc_Vv (st := []) hx hb hml hown hts hK qT_ok hs (c_Md_findPlace a1 M27 _ hM28) ⟨(callB_of 1 hts (q_good tw_504) rfl rfl rfl (hts _ tw_459) (hts _ tw_505) (by decide +kernel) ⟨by decide, by decide⟩), (hts _ tw_506), (hts _ tw_507)⟩ (by decide) rfl rfl rfl rfl (Nat.le_of_ble_eq_true rfl) d_Md_adopt_142 ?_
  refine qj_aload_n hx hb d_Md_adopt_145 rfl 0 rfl ?_
  refine qj_get hx hb hts hin_12 hown hK (by decide) rfl rfl 21 (by decide) (hts _ tw_487) (fun _ h => h) (qi (M28.1 0 21)) rfl d_Md_adopt_146 ?_
  refine qj_aload_n hx hb d_Md_adopt_149 rfl 0 rfl ?_
  refine qj_get hx hb hts hin_12 hown hK (by decide) rfl rfl 10 (by decide) (hts _ tw_452) (fun _ h => h) (qr (some 6)) rfl d_Md_adopt_150 ?_
  refine qj_iload hx hb d_Md_adopt_153 4 rfl ?_
  have hf9 := q_ix_s hf; clear hf; obtain ⟨hi29, hf⟩ := hf9
  refine qj_iald (t0 := 0) hx hb hK (by decide) (fun _ _ => rfl) rfl hi29 d_Md_adopt_155 ?_
  refine qj_isub hx hb d_Md_adopt_156 ?_
  have hf9 := q_lt_s hf; clear hf; obtain ⟨x30, ex30, hf⟩ := hf9
  rw [← ex30]
  refine qj_istore hx hb d_Md_adopt_157 (by decide) rfl ?_
  refine qj_aload_n hx hb d_Md_adopt_159 rfl 1 rfl ?_
  refine qj_get hx hb hts hin_12 hown hK (by decide) rfl rfl 20 (by decide) (hts _ tw_486) (fun _ h => h) (qi (M28.1 0 20)) rfl d_Md_adopt_160 ?_
  refine qj_istore hx hb d_Md_adopt_163 (by decide) rfl ?_
  refine qj_aload_n hx hb d_Md_adopt_165 rfl 2 rfl ?_
  refine qj_get hx hb hts hin_12 hown hK (by decide) rfl rfl 5 (by decide) (hts _ tw_447) (fun _ h => h) (qi (M28.1 0 5)) rfl d_Md_adopt_166 ?_
  refine qj_iconst (v := 1) hx hb d_Md_adopt_169 (by decide) ?_
  refine qj_isub hx hb d_Md_adopt_170 ?_
  refine qj_istore hx hb d_Md_adopt_171 (by decide) rfl ?_
  have hL173 : ∀ (n : Nat) (K33 : qM → Option qM), (∀ (M38 : qM), K33 M38 = some out → QJ p l e rm_Md_adopt s m args below meth c (qA 38 b) b 10 0 0 Q (qWd D (enM dA b) 38 b) M38 203 [(0, qr (some 0)), (1, qi a1), (2, qi a2), (3, qi x7), (4, qi (M.1 8 x7.toNatClampNeg)), (6, qi (x10 - x9)), (7, qi x30), (8, qi (M28.1 0 20))] []) → ∀ (x31 : Int32) (M32 : qM), f_Md_adopt_173 M28 x10 x9 n K33 x31 M32 = some out → QJ p l e rm_Md_adopt s m args below meth c (qA 38 b) b 10 0 0 Q (qWd D (enM dA b) 38 b) M32 173 [(0, qr (some 0)), (1, qi a1), (2, qi a2), (3, qi x7), (4, qi (M.1 8 x7.toNatClampNeg)), (6, qi (x10 - x9)), (7, qi x30), (8, qi (M28.1 0 20)), (9, qi x31)] [] := by
    clear hf
    intro n
    induction n with
    | zero =>
      intro K33 hK33 x31 M32 hf
      exact absurd hf (by simp [f_Md_adopt_173])
    | succ n ih173 =>
      intro K33 hK33 x31 M32 hf
      rw [f_Md_adopt_173] at hf
      have ih173 := ih173 K33 hK33
      refine qj_iload hx hb d_Md_adopt_173 8 rfl ?_
      refine qj_iload hx hb d_Md_adopt_175 7 rfl ?_
      refine qj_icmp_lt (tgt := 203) hx hb d_Md_adopt_177 (by decide) (fun hc34 => ?_) (fun hc34 => ?_)
      · replace hf := q_if_t hc34 hf
        refine qj_sub [0, 1, 2, 3, 4, 5, 6, 7] rfl ?_
        exact hK33 M32 hf
      · replace hf := q_if_f hc34 hf
        refine qj_aload_n hx hb d_Md_adopt_180 rfl 0 rfl ?_
        refine qj_get hx hb hts hin_12 hown hK (by decide) rfl rfl 6 (by decide) (hts _ tw_448) (fun _ h => h) (qr (some 3)) rfl d_Md_adopt_181 ?_
        refine qj_iload hx hb d_Md_adopt_184 8 rfl ?_
        refine qj_iload hx hb d_Md_adopt_186 5 rfl ?_
        refine qj_iadd hx hb d_Md_adopt_188 ?_
        refine qj_aload_n hx hb d_Md_adopt_189 rfl 0 rfl ?_
        refine qj_get hx hb hts hin_12 hown hK (by decide) rfl rfl 6 (by decide) (hts _ tw_448) (fun _ h => h) (qr (some 3)) rfl d_Md_adopt_190 ?_
        refine qj_iload hx hb d_Md_adopt_193 8 rfl ?_
        have hf9 := q_ix_s hf; clear hf; obtain ⟨hi35, hf⟩ := hf9
        refine qj_iald (t0 := 0) hx hb hK (by decide) (fun _ _ => rfl) rfl hi35 d_Md_adopt_195 ?_
        have hf9 := q_ix_s hf; clear hf; obtain ⟨hi36, hf⟩ := hf9
        have hf9 := q_lt_s hf; clear hf; obtain ⟨M37, eM37, hf⟩ := hf9
        refine qj_iast (t0 := 0) hx hb hK (by decide) (fun _ _ => rfl) rfl hi36 eM37 d_Md_adopt_196 ?_
        refine qj_iinc (j := 8) (v := x31 + (-1)) hx hb d_Md_adopt_197 rfl rfl (by decide) rfl ?_
        refine qj_goto (tgt := 173) hx hb d_Md_adopt_200 (by decide) ?_
        refine qj_sub [1, 2, 3, 4, 5, 6, 7, 8, 0] rfl ?_
        exact ih173 (x31 + (-1)) M37 hf
  refine qj_sub [3, 4, 5, 6, 7, 8, 2, 1, 0] rfl ?_
  refine hL173 _ _ (fun M38 hf9 => ?_) ((M28.1 0 5) - 1) M28 hf
  clear hf; have hf := hf9; clear hf9
  refine qj_aload_n hx hb d_Md_adopt_203 rfl 0 rfl ?_
  refine qj_dup hx hb d_Md_adopt_204 ?_
  refine qj_get hx hb hts hin_12 hown hK (by decide) rfl rfl 5 (by decide) (hts _ tw_447) (fun _ h => h) (qi (M38.1 0 5)) rfl d_Md_adopt_205 ?_
  refine qj_iload hx hb d_Md_adopt_208 5 rfl ?_
  refine qj_iadd hx hb d_Md_adopt_210 ?_
  have hf9 := q_lt_s hf; clear hf; obtain ⟨M39, eM39, hf⟩ := hf9
  refine qj_puti (ty := .int) hx hb hts hin_12 ty_12 tyok_12 nm_12 hown hK (by decide) rfl rfl 5 (by decide) (hts _ tw_447) (fun _ h => h) rfl (by decide +kernel) rfl rfl (Nat.le_of_ble_eq_true rfl) sm_5 eM39 d_Md_adopt_211 ?_
  refine qj_iconst (v := 0) hx hb d_Md_adopt_214 (by decide) ?_
  refine qj_istore hx hb d_Md_adopt_215 (by decide) rfl ?_
  have hL217 : ∀ (n : Nat) (K42 : qM → Option qM), (∀ (M54 : qM), K42 M54 = some out → QJ p l e rm_Md_adopt s m args below meth c (qA 38 b) b 10 0 0 Q (qWd D (enM dA b) 38 b) M54 276 [(0, qr (some 0)), (1, qi a1), (2, qi a2), (3, qi x7), (4, qi (M.1 8 x7.toNatClampNeg)), (8, qi (M28.1 0 20))] []) → ∀ (x40 : Int32) (M41 : qM), f_Md_adopt_217 x10 x9 M28 x30 n K42 x40 M41 = some out → QJ p l e rm_Md_adopt s m args below meth c (qA 38 b) b 10 0 0 Q (qWd D (enM dA b) 38 b) M41 217 [(0, qr (some 0)), (1, qi a1), (2, qi a2), (3, qi x7), (4, qi (M.1 8 x7.toNatClampNeg)), (6, qi (x10 - x9)), (7, qi x30), (8, qi (M28.1 0 20)), (9, qi x40)] [] := by
    clear hf
    intro n
    induction n with
    | zero =>
      intro K42 hK42 x40 M41 hf
      exact absurd hf (by simp [f_Md_adopt_217])
    | succ n ih217 =>
      intro K42 hK42 x40 M41 hf
      rw [f_Md_adopt_217] at hf
      have ih217 := ih217 K42 hK42
      refine qj_iload hx hb d_Md_adopt_217 8 rfl ?_
      refine qj_iload hx hb d_Md_adopt_219 5 rfl ?_
      refine qj_icmp_ge (tgt := 276) hx hb d_Md_adopt_221 (by decide) (fun hc43 => ?_) (fun hc43 => ?_)
      · replace hf := q_if_t hc43 hf
        refine qj_sub [0, 1, 2, 3, 4, 7] rfl ?_
        exact hK42 M41 hf
      · replace hf := q_if_f hc43 hf
        refine qj_aload_n hx hb d_Md_adopt_224 rfl 0 rfl ?_
        refine qj_get hx hb hts hin_12 hown hK (by decide) rfl rfl 6 (by decide) (hts _ tw_448) (fun _ h => h) (qr (some 3)) rfl d_Md_adopt_225 ?_
        refine qj_iload hx hb d_Md_adopt_228 7 rfl ?_
        refine qj_iload hx hb d_Md_adopt_230 8 rfl ?_
        refine qj_iadd hx hb d_Md_adopt_232 ?_
        refine qj_aload_n hx hb d_Md_adopt_233 rfl 0 rfl ?_
        refine qj_get hx hb hts hin_12 hown hK (by decide) rfl rfl 11 (by decide) (hts _ tw_539) (fun _ h => h) (qr (some 7)) rfl d_Md_adopt_234 ?_
        refine qj_iload hx hb d_Md_adopt_237 8 rfl ?_
        have hf9 := q_ix_s hf; clear hf; obtain ⟨hi44, hf⟩ := hf9
        refine qj_iald (t0 := 0) hx hb hK (by decide) (fun _ _ => rfl) rfl hi44 d_Md_adopt_239 ?_
        have hf9 := q_ix_s hf; clear hf; obtain ⟨hi45, hf⟩ := hf9
        have hf9 := q_lt_s hf; clear hf; obtain ⟨M46, eM46, hf⟩ := hf9
        refine qj_iast (t0 := 0) hx hb hK (by decide) (fun _ _ => rfl) rfl hi45 eM46 d_Md_adopt_240 ?_
        refine qj_aload_n hx hb d_Md_adopt_241 rfl 0 rfl ?_
        refine qj_get hx hb hts hin_12 hown hK (by decide) rfl rfl 10 (by decide) (hts _ tw_452) (fun _ h => h) (qr (some 6)) rfl d_Md_adopt_242 ?_
        refine qj_aload_n hx hb d_Md_adopt_245 rfl 0 rfl ?_
        refine qj_get hx hb hts hin_12 hown hK (by decide) rfl rfl 11 (by decide) (hts _ tw_539) (fun _ h => h) (qr (some 7)) rfl d_Md_adopt_246 ?_
        refine qj_iload hx hb d_Md_adopt_249 8 rfl ?_
        have hf9 := q_ix_s hf; clear hf; obtain ⟨hi47, hf⟩ := hf9
        refine qj_iald (t0 := 0) hx hb hK (by decide) (fun _ _ => rfl) rfl hi47 d_Md_adopt_251 ?_
        refine qj_dup2 hx hb d_Md_adopt_252 ?_
        have hf9 := q_ix_s hf; clear hf; obtain ⟨hi48, hf⟩ := hf9
        refine qj_iald (t0 := 0) hx hb hK (by decide) (fun _ _ => rfl) rfl hi48 d_Md_adopt_253 ?_
        refine qj_iload hx hb d_Md_adopt_254 8 rfl ?_
        have hf9 := q_lt_s hf; clear hf; obtain ⟨j52, ej52, hf⟩ := hf9
        have hj52 : ∀ (x49 : Int32), j52 x49 = some out → QJ p l e rm_Md_adopt s m args below meth c (qA 38 b) b 10 0 0 Q (qWd D (enM dA b) 38 b) M46 268 [(0, qr (some 0)), (1, qi a1), (2, qi a2), (3, qi x7), (4, qi (M.1 8 x7.toNatClampNeg)), (6, qi (x10 - x9)), (7, qi x30), (8, qi (M28.1 0 20)), (9, qi x40)] [qi x49, qi (M46.1 6 (M46.1 7 x40.toNatClampNeg).toNatClampNeg), qi (M46.1 7 x40.toNatClampNeg), qr (some 6)] := by
          clear hf
          intro x49 hf
          rw [ej52] at hf
          refine qj_iadd hx hb d_Md_adopt_268 ?_
          have hf9 := q_ix_s hf; clear hf; obtain ⟨hi50, hf⟩ := hf9
          have hf9 := q_lt_s hf; clear hf; obtain ⟨M51, eM51, hf⟩ := hf9
          refine qj_iast (t0 := 0) hx hb hK (by decide) (fun _ _ => rfl) rfl hi50 eM51 d_Md_adopt_269 ?_
          refine qj_iinc (j := 8) (v := x40 + 1) hx hb d_Md_adopt_270 rfl rfl (by decide) rfl ?_
          refine qj_goto (tgt := 217) hx hb d_Md_adopt_273 (by decide) ?_
          refine qj_sub [1, 2, 3, 4, 5, 6, 7, 8, 0] rfl ?_
          exact ih217 (x40 + 1) M51 hf
        refine qj_if_ne (tgt := 264) hx hb d_Md_adopt_256 (by decide) (fun hc53 => ?_) (fun hc53 => ?_)
        · replace hf := q_if_f hc53 hf
          refine qj_iload hx hb d_Md_adopt_264 6 rfl ?_
          refine qj_iconst (v := 1) hx hb d_Md_adopt_266 (by decide) ?_
          refine qj_iadd hx hb d_Md_adopt_267 ?_
          exact hj52 (x30 + 1) hf
        · replace hf := q_if_t hc53 hf
          refine qj_iload hx hb d_Md_adopt_259 6 rfl ?_
          refine qj_goto (tgt := 268) hx hb d_Md_adopt_261 (by decide) ?_
          exact hj52 x30 hf
  refine qj_sub [1, 2, 3, 4, 5, 6, 7, 8, 0] rfl ?_
  refine hL217 _ _ (fun M54 hf9 => ?_) 0 M39 hf
  clear hf; have hf := hf9; clear hf9
  refine qj_iload_n hx hb d_Md_adopt_276 rfl 3 rfl ?_
  refine qj_istore hx hb d_Md_adopt_277 (by decide) rfl ?_
  have hL279 : ∀ (n : Nat) (K57 : qM → Option qM), (∀ (M62 : qM), K57 M62 = some out → QJ p l e rm_Md_adopt s m args below meth c (qA 38 b) b 10 0 0 Q (qWd D (enM dA b) 38 b) M62 312 [(0, qr (some 0)), (1, qi a1), (2, qi a2), (3, qi x7), (4, qi (M.1 8 x7.toNatClampNeg)), (8, qi (M28.1 0 20))] []) → ∀ (x55 : Int32) (M56 : qM), f_Md_adopt_279 a1 x7 n K57 x55 M56 = some out → QJ p l e rm_Md_adopt s m args below meth c (qA 38 b) b 10 0 0 Q (qWd D (enM dA b) 38 b) M56 279 [(0, qr (some 0)), (1, qi a1), (2, qi a2), (3, qi x7), (4, qi (M.1 8 x7.toNatClampNeg)), (8, qi (M28.1 0 20)), (9, qi x55)] [] := by
    clear hf
    intro n
    induction n with
    | zero =>
      intro K57 hK57 x55 M56 hf
      exact absurd hf (by simp [f_Md_adopt_279])
    | succ n ih279 =>
      intro K57 hK57 x55 M56 hf
      rw [f_Md_adopt_279] at hf
      have ih279 := ih279 K57 hK57
      refine qj_iload hx hb d_Md_adopt_279 6 rfl ?_
      refine qj_aload_n hx hb d_Md_adopt_281 rfl 0 rfl ?_
      refine qj_get hx hb hts hin_12 hown hK (by decide) rfl rfl 13 (by decide) (hts _ tw_454) (fun _ h => h) (qi (M56.1 0 13)) rfl d_Md_adopt_282 ?_
      refine qj_icmp_ge (tgt := 312) hx hb d_Md_adopt_285 (by decide) (fun hc58 => ?_) (fun hc58 => ?_)
      · replace hf := q_if_t hc58 hf
        refine qj_sub [0, 1, 2, 3, 4, 5] rfl ?_
        exact hK57 M56 hf
      · replace hf := q_if_f hc58 hf
        refine qj_aload_n hx hb d_Md_adopt_288 rfl 0 rfl ?_
        refine qj_get hx hb hts hin_12 hown hK (by decide) rfl rfl 12 (by decide) (hts _ tw_453) (fun _ h => h) (qr (some 8)) rfl d_Md_adopt_289 ?_
        refine qj_iload_n hx hb d_Md_adopt_292 rfl 1 rfl ?_
        refine qj_iload hx hb d_Md_adopt_293 6 rfl ?_
        refine qj_iadd hx hb d_Md_adopt_295 ?_
        refine qj_iload_n hx hb d_Md_adopt_296 rfl 3 rfl ?_
        refine qj_isub hx hb d_Md_adopt_297 ?_
        refine qj_aload_n hx hb d_Md_adopt_298 rfl 0 rfl ?_
        refine qj_get hx hb hts hin_12 hown hK (by decide) rfl rfl 12 (by decide) (hts _ tw_453) (fun _ h => h) (qr (some 8)) rfl d_Md_adopt_299 ?_
        refine qj_iload hx hb d_Md_adopt_302 6 rfl ?_
        have hf9 := q_ix_s hf; clear hf; obtain ⟨hi59, hf⟩ := hf9
        refine qj_iald (t0 := 0) hx hb hK (by decide) (fun _ _ => rfl) rfl hi59 d_Md_adopt_304 ?_
        have hf9 := q_ix_s hf; clear hf; obtain ⟨hi60, hf⟩ := hf9
        have hf9 := q_lt_s hf; clear hf; obtain ⟨M61, eM61, hf⟩ := hf9
        refine qj_iast (t0 := 0) hx hb hK (by decide) (fun _ _ => rfl) rfl hi60 eM61 d_Md_adopt_305 ?_
        refine qj_iinc (j := 6) (v := x55 + 1) hx hb d_Md_adopt_306 rfl rfl (by decide) rfl ?_
        refine qj_goto (tgt := 279) hx hb d_Md_adopt_309 (by decide) ?_
        refine qj_sub [1, 2, 3, 4, 5, 6, 0] rfl ?_
        exact ih279 (x55 + 1) M61 hf
  refine qj_sub [1, 2, 3, 4, 5, 6, 0] rfl ?_
  refine hL279 _ _ (fun M62 hf9 => ?_) x7 M54 hf
  clear hf; have hf := hf9; clear hf9
  refine qj_aload_n hx hb d_Md_adopt_312 rfl 0 rfl ?_
  refine qj_dup hx hb d_Md_adopt_313 ?_
  refine qj_get hx hb hts hin_12 hown hK (by decide) rfl rfl 13 (by decide) (hts _ tw_454) (fun _ h => h) (qi (M62.1 0 13)) rfl d_Md_adopt_314 ?_
  refine qj_iload_n hx hb d_Md_adopt_317 rfl 3 rfl ?_
  refine qj_iload_n hx hb d_Md_adopt_318 rfl 1 rfl ?_
  refine qj_isub hx hb d_Md_adopt_319 ?_
  refine qj_isub hx hb d_Md_adopt_320 ?_
  have hf9 := q_lt_s hf; clear hf; obtain ⟨M63, eM63, hf⟩ := hf9
  refine qj_puti (ty := .int) hx hb hts hin_12 ty_12 tyok_12 nm_12 hown hK (by decide) rfl rfl 13 (by decide) (hts _ tw_454) (fun _ h => h) rfl (by decide +kernel) rfl rfl (Nat.le_of_ble_eq_true rfl) sm_13 eM63 d_Md_adopt_321 ?_
  refine qj_aload_n hx hb d_Md_adopt_324 rfl 0 rfl ?_
  refine qj_iload hx hb d_Md_adopt_325 5 rfl ?_
  refine qj_iconst (v := 1) hx hb d_Md_adopt_327 (by decide) ?_
  refine qj_iadd hx hb d_Md_adopt_328 ?_
  have hf9 := q_lt_s hf; clear hf; obtain ⟨M64, eM64, hf⟩ := hf9
  refine qj_puti (ty := .int) hx hb hts hin_12 ty_12 tyok_12 nm_12 hown hK (by decide) rfl rfl 20 (by decide) (hts _ tw_486) (fun _ h => h) rfl (by decide +kernel) rfl rfl (Nat.le_of_ble_eq_true rfl) sm_20 eM64 d_Md_adopt_329 ?_
  refine qj_aload_n hx hb d_Md_adopt_332 rfl 0 rfl ?_
  refine qj_aload_n hx hb d_Md_adopt_333 rfl 0 rfl ?_
  refine qj_get hx hb hts hin_12 hown hK (by decide) rfl rfl 10 (by decide) (hts _ tw_452) (fun _ h => h) (qr (some 6)) rfl d_Md_adopt_334 ?_
  refine qj_iload hx hb d_Md_adopt_337 4 rfl ?_
  have hf9 := q_ix_s hf; clear hf; obtain ⟨hi65, hf⟩ := hf9
  refine qj_iald (t0 := 0) hx hb hK (by decide) (fun _ _ => rfl) rfl hi65 d_Md_adopt_339 ?_
  refine qj_iconst (v := 1) hx hb d_Md_adopt_340 (by decide) ?_
  refine qj_iadd hx hb d_Md_adopt_341 ?_
  have hf9 := q_lt_s hf; clear hf; obtain ⟨M66, eM66, hf⟩ := hf9
  refine qj_puti (ty := .int) hx hb hts hin_12 ty_12 tyok_12 nm_12 hown hK (by decide) rfl rfl 21 (by decide) (hts _ tw_487) (fun _ h => h) rfl (by decide +kernel) rfl rfl (Nat.le_of_ble_eq_true rfl) sm_21 eM66 d_Md_adopt_342 ?_
  refine qj_aload_n hx hb d_Md_adopt_345 rfl 0 rfl ?_
  refine qj_get hx hb hts hin_12 hown hK (by decide) rfl rfl 11 (by decide) (hts _ tw_539) (fun _ h => h) (qr (some 7)) rfl d_Md_adopt_346 ?_
  refine qj_iconst (v := 0) hx hb d_Md_adopt_349 (by decide) ?_
  refine qj_aload_n hx hb d_Md_adopt_350 rfl 0 rfl ?_
  refine qj_aload_n hx hb d_Md_adopt_351 rfl 0 rfl ?_
  refine qj_get hx hb hts hin_12 hown hK (by decide) rfl rfl 8 (by decide) (hts _ tw_450) (fun _ h => h) (qr (some 4)) rfl d_Md_adopt_352 ?_
  refine qj_iload_n hx hb d_Md_adopt_355 rfl 2 rfl ?_
  have hf9 := q_ix_s hf; clear hf; obtain ⟨hi67, hf⟩ := hf9
  refine qj_iald (t0 := 0) hx hb hK (by decide) (fun _ _ => rfl) rfl hi67 d_Md_adopt_356 ?_
  refine qj_aload_n hx hb d_Md_adopt_357 rfl 0 rfl ?_
  refine qj_get hx hb hts hin_12 hown hK (by decide) rfl rfl 9 (by decide) (hts _ tw_451) (fun _ h => h) (qr (some 5)) rfl d_Md_adopt_358 ?_
  refine qj_iload_n hx hb d_Md_adopt_361 rfl 2 rfl ?_
  have hf9 := q_ix_s hf; clear hf; obtain ⟨hi68, hf⟩ := hf9
  refine qj_iald (t0 := 0) hx hb hK (by decide) (fun _ _ => rfl) rfl hi68 d_Md_adopt_362 ?_
  have hf9 := q_cl_s hf; clear hf; obtain ⟨x69, M70, hx69, hf⟩ := hf9
  refine qc_Vi (st := [qi 0, qr (some 7)]) hx hb hml hown hts hK qT_ok hs (c_Md_create (M66.1 4 a2.toNatClampNeg) (M66.1 5 a2.toNatClampNeg) M66 _ hx69) ⟨(callB_of 2 hts (q_good tw_508) rfl rfl rfl (hts _ tw_459) (hts _ tw_509) (by decide +kernel) ⟨by decide, by decide⟩), (hts _ tw_510), (hts _ tw_511)⟩ (by decide) rfl rfl rfl rfl (Nat.le_of_ble_eq_true rfl) d_Md_adopt_363 ?_
  have hf9 := q_ix_s hf; clear hf; obtain ⟨hi71, hf⟩ := hf9
  have hf9 := q_lt_s hf; clear hf; obtain ⟨M72, eM72, hf⟩ := hf9
  refine qj_iast (t0 := 0) hx hb hK (by decide) (fun _ _ => rfl) rfl hi71 eM72 d_Md_adopt_366 ?_
  exact hret _ _ _ d_Md_adopt_367 (Option.some.inj hf)
theorem d_Md_endOther_0 : decode prog_14_method_32_code 0 = .ok (.aload_n 0, 1) := by decide +kernel
theorem d_Md_endOther_1 : decode prog_14_method_32_code 1 = .ok (.invokevirtual 219, 3) := by decide +kernel
theorem d_Md_endOther_4 : decode prog_14_method_32_code 4 = .ok (.istore_n 2, 1) := by decide +kernel
theorem d_Md_endOther_5 : decode prog_14_method_32_code 5 = .ok (.iconst (-1), 1) := by decide +kernel
theorem d_Md_endOther_6 : decode prog_14_method_32_code 6 = .ok (.istore_n 3, 1) := by decide +kernel
theorem d_Md_endOther_7 : decode prog_14_method_32_code 7 = .ok (.iconst 0, 1) := by decide +kernel
theorem d_Md_endOther_8 : decode prog_14_method_32_code 8 = .ok (.istore 4, 2) := by decide +kernel
theorem d_Md_endOther_10 : decode prog_14_method_32_code 10 = .ok (.iload 4, 2) := by decide +kernel
theorem d_Md_endOther_12 : decode prog_14_method_32_code 12 = .ok (.aload_n 0, 1) := by decide +kernel
theorem d_Md_endOther_13 : decode prog_14_method_32_code 13 = .ok (.getfield 151, 3) := by decide +kernel
theorem d_Md_endOther_16 : decode prog_14_method_32_code 16 = .ok (.if_icmp .ge 49, 3) := by decide +kernel
theorem d_Md_endOther_19 : decode prog_14_method_32_code 19 = .ok (.iload_n 1, 1) := by decide +kernel
theorem d_Md_endOther_20 : decode prog_14_method_32_code 20 = .ok (.invokestatic 189, 3) := by decide +kernel
theorem d_Md_endOther_23 : decode prog_14_method_32_code 23 = .ok (.ldc 249, 2) := by decide +kernel
theorem d_Md_endOther_25 : decode prog_14_method_32_code 25 = .ok (.iand, 1) := by decide +kernel
theorem d_Md_endOther_26 : decode prog_14_method_32_code 26 = .ok (.ifCond .eq 39, 3) := by decide +kernel
theorem d_Md_endOther_29 : decode prog_14_method_32_code 29 = .ok (.aload_n 0, 1) := by decide +kernel
theorem d_Md_endOther_30 : decode prog_14_method_32_code 30 = .ok (.getfield 37, 3) := by decide +kernel
theorem d_Md_endOther_33 : decode prog_14_method_32_code 33 = .ok (.iload 4, 2) := by decide +kernel
theorem d_Md_endOther_35 : decode prog_14_method_32_code 35 = .ok (.iaload, 1) := by decide +kernel
theorem d_Md_endOther_36 : decode prog_14_method_32_code 36 = .ok (.iload_n 2, 1) := by decide +kernel
theorem d_Md_endOther_37 : decode prog_14_method_32_code 37 = .ok (.if_icmp .ne 22, 3) := by decide +kernel
theorem d_Md_endOther_40 : decode prog_14_method_32_code 40 = .ok (.aload_n 0, 1) := by decide +kernel
theorem d_Md_endOther_41 : decode prog_14_method_32_code 41 = .ok (.getfield 19, 3) := by decide +kernel
theorem d_Md_endOther_44 : decode prog_14_method_32_code 44 = .ok (.aload_n 0, 1) := by decide +kernel
theorem d_Md_endOther_45 : decode prog_14_method_32_code 45 = .ok (.getfield 34, 3) := by decide +kernel
theorem d_Md_endOther_48 : decode prog_14_method_32_code 48 = .ok (.iload 4, 2) := by decide +kernel
theorem d_Md_endOther_50 : decode prog_14_method_32_code 50 = .ok (.iaload, 1) := by decide +kernel
theorem d_Md_endOther_51 : decode prog_14_method_32_code 51 = .ok (.iaload, 1) := by decide +kernel
theorem d_Md_endOther_52 : decode prog_14_method_32_code 52 = .ok (.iload_n 1, 1) := by decide +kernel
theorem d_Md_endOther_53 : decode prog_14_method_32_code 53 = .ok (.if_icmp .ne 6, 3) := by decide +kernel
theorem d_Md_endOther_56 : decode prog_14_method_32_code 56 = .ok (.iload 4, 2) := by decide +kernel
theorem d_Md_endOther_58 : decode prog_14_method_32_code 58 = .ok (.istore_n 3, 1) := by decide +kernel
theorem d_Md_endOther_59 : decode prog_14_method_32_code 59 = .ok (.iinc 4 1, 3) := by decide +kernel
theorem d_Md_endOther_62 : decode prog_14_method_32_code 62 = .ok (.goto (-52), 3) := by decide +kernel
theorem d_Md_endOther_65 : decode prog_14_method_32_code 65 = .ok (.iload_n 3, 1) := by decide +kernel
theorem d_Md_endOther_66 : decode prog_14_method_32_code 66 = .ok (.ifCond .ge 24, 3) := by decide +kernel
theorem d_Md_endOther_69 : decode prog_14_method_32_code 69 = .ok (.aload_n 0, 1) := by decide +kernel
theorem d_Md_endOther_70 : decode prog_14_method_32_code 70 = .ok (.iload_n 1, 1) := by decide +kernel
theorem d_Md_endOther_71 : decode prog_14_method_32_code 71 = .ok (.ldc_w 256, 3) := by decide +kernel
theorem d_Md_endOther_74 : decode prog_14_method_32_code 74 = .ok (.invokevirtual 236, 3) := by decide +kernel
theorem d_Md_endOther_77 : decode prog_14_method_32_code 77 = .ok (.ifCond .eq 12, 3) := by decide +kernel
theorem d_Md_endOther_80 : decode prog_14_method_32_code 80 = .ok (.aload_n 0, 1) := by decide +kernel
theorem d_Md_endOther_81 : decode prog_14_method_32_code 81 = .ok (.aload_n 0, 1) := by decide +kernel
theorem d_Md_endOther_82 : decode prog_14_method_32_code 82 = .ok (.iload_n 1, 1) := by decide +kernel
theorem d_Md_endOther_83 : decode prog_14_method_32_code 83 = .ok (.invokevirtual 196, 3) := by decide +kernel
theorem d_Md_endOther_86 : decode prog_14_method_32_code 86 = .ok (.putfield 148, 3) := by decide +kernel
theorem d_Md_endOther_89 : decode prog_14_method_32_code 89 = .ok (.return_, 1) := by decide +kernel
theorem d_Md_endOther_90 : decode prog_14_method_32_code 90 = .ok (.aload_n 0, 1) := by decide +kernel
theorem d_Md_endOther_91 : decode prog_14_method_32_code 91 = .ok (.aload_n 0, 1) := by decide +kernel
theorem d_Md_endOther_92 : decode prog_14_method_32_code 92 = .ok (.getfield 34, 3) := by decide +kernel
theorem d_Md_endOther_95 : decode prog_14_method_32_code 95 = .ok (.iload_n 3, 1) := by decide +kernel
theorem d_Md_endOther_96 : decode prog_14_method_32_code 96 = .ok (.iaload, 1) := by decide +kernel
theorem d_Md_endOther_97 : decode prog_14_method_32_code 97 = .ok (.invokevirtual 223, 3) := by decide +kernel
theorem d_Md_endOther_100 : decode prog_14_method_32_code 100 = .ok (.istore 4, 2) := by decide +kernel
theorem d_Md_endOther_102 : decode prog_14_method_32_code 102 = .ok (.iload 4, 2) := by decide +kernel
theorem d_Md_endOther_104 : decode prog_14_method_32_code 104 = .ok (.ifCond .ge 11, 3) := by decide +kernel
theorem d_Md_endOther_107 : decode prog_14_method_32_code 107 = .ok (.aload_n 0, 1) := by decide +kernel
theorem d_Md_endOther_108 : decode prog_14_method_32_code 108 = .ok (.iload_n 3, 1) := by decide +kernel
theorem d_Md_endOther_109 : decode prog_14_method_32_code 109 = .ok (.invokevirtual 243, 3) := by decide +kernel
theorem d_Md_endOther_112 : decode prog_14_method_32_code 112 = .ok (.goto 55, 3) := by decide +kernel
theorem d_Md_endOther_115 : decode prog_14_method_32_code 115 = .ok (.aload_n 0, 1) := by decide +kernel
theorem d_Md_endOther_116 : decode prog_14_method_32_code 116 = .ok (.iload 4, 2) := by decide +kernel
theorem d_Md_endOther_118 : decode prog_14_method_32_code 118 = .ok (.ldc 214, 2) := by decide +kernel
theorem d_Md_endOther_120 : decode prog_14_method_32_code 120 = .ok (.invokevirtual 199, 3) := by decide +kernel
theorem d_Md_endOther_123 : decode prog_14_method_32_code 123 = .ok (.ifCond .ne 44, 3) := by decide +kernel
theorem d_Md_endOther_126 : decode prog_14_method_32_code 126 = .ok (.aload_n 0, 1) := by decide +kernel
theorem d_Md_endOther_127 : decode prog_14_method_32_code 127 = .ok (.getfield 34, 3) := by decide +kernel
theorem d_Md_endOther_130 : decode prog_14_method_32_code 130 = .ok (.iload_n 3, 1) := by decide +kernel
theorem d_Md_endOther_131 : decode prog_14_method_32_code 131 = .ok (.iaload, 1) := by decide +kernel
theorem d_Md_endOther_132 : decode prog_14_method_32_code 132 = .ok (.istore 5, 2) := by decide +kernel
theorem d_Md_endOther_134 : decode prog_14_method_32_code 134 = .ok (.aload_n 0, 1) := by decide +kernel
theorem d_Md_endOther_135 : decode prog_14_method_32_code 135 = .ok (.iload_n 3, 1) := by decide +kernel
theorem d_Md_endOther_136 : decode prog_14_method_32_code 136 = .ok (.invokevirtual 243, 3) := by decide +kernel
theorem d_Md_endOther_139 : decode prog_14_method_32_code 139 = .ok (.aload_n 0, 1) := by decide +kernel
theorem d_Md_endOther_140 : decode prog_14_method_32_code 140 = .ok (.iload 4, 2) := by decide +kernel
theorem d_Md_endOther_142 : decode prog_14_method_32_code 142 = .ok (.ldc 235, 2) := by decide +kernel
theorem d_Md_endOther_144 : decode prog_14_method_32_code 144 = .ok (.invokevirtual 199, 3) := by decide +kernel
theorem d_Md_endOther_147 : decode prog_14_method_32_code 147 = .ok (.ifCond .eq 14, 3) := by decide +kernel
theorem d_Md_endOther_150 : decode prog_14_method_32_code 150 = .ok (.aload_n 0, 1) := by decide +kernel
theorem d_Md_endOther_151 : decode prog_14_method_32_code 151 = .ok (.iload 4, 2) := by decide +kernel
theorem d_Md_endOther_153 : decode prog_14_method_32_code 153 = .ok (.iload 5, 2) := by decide +kernel
theorem d_Md_endOther_155 : decode prog_14_method_32_code 155 = .ok (.invokevirtual 257, 3) := by decide +kernel
theorem d_Md_endOther_158 : decode prog_14_method_32_code 158 = .ok (.goto 9, 3) := by decide +kernel
theorem d_Md_endOther_161 : decode prog_14_method_32_code 161 = .ok (.aload_n 0, 1) := by decide +kernel
theorem d_Md_endOther_162 : decode prog_14_method_32_code 162 = .ok (.iload 4, 2) := by decide +kernel
theorem d_Md_endOther_164 : decode prog_14_method_32_code 164 = .ok (.putfield 148, 3) := by decide +kernel
theorem d_Md_endOther_167 : decode prog_14_method_32_code 167 = .ok (.return_, 1) := by decide +kernel
def f_Md_endOther_10 (M : qM) (a1 : Int32) (x1 : Int32) : Nat → (Int32 → Option qM) → Int32 → Int32 → Option qM
  | 0, _, _, _ => none
  | n + 1, K4, x2, x3 => if (M.1 0 16) ≤ x3 then (K4 x2) else (q_bp (f_Md_bit a1 M) fun x6 => if (x6 &&& 262402) = 0 then (K4 x2) else (q_ix x3 40 <| if (M.1 10 x3.toNatClampNeg) = x1 then (q_ix x3 40 <| q_ix (M.1 9 x3.toNatClampNeg) 40 <| if (M.1 4 (M.1 9 x3.toNatClampNeg).toNatClampNeg) = a1 then (f_Md_endOther_10 M a1 x1 n K4 x3 (x3 + 1)) else (f_Md_endOther_10 M a1 x1 n K4 x2 (x3 + 1))) else (f_Md_endOther_10 M a1 x1 n K4 x2 (x3 + 1))))
def f_Md_endOther (a1 : Int32) (M : qM) : Option qM := q_bp (f_Md_listOwner M) fun x1 => f_Md_endOther_10 M a1 x1 1000 (fun (x13 : Int32) => if 0 ≤ x13 then (q_ix x13 40 <| q_bp (f_Md_opened (M.1 9 x13.toNatClampNeg) M) fun x16 => if 0 ≤ x16 then (q_bp (f_Md_above x16 524288 M) fun x18 => if x18 = 0 then (q_ix x13 40 <| q_cv (f_Md_dropEntry x13 M) fun M21 => q_bp (f_Md_above x16 1607816 M21) fun x22 => if x22 = 0 then (q_lt (qsI M21 0 13 x16) fun M24 => some M24) else (q_cv (f_Md_adopt x16 (M.1 9 x13.toNatClampNeg) M21) fun M25 => some M25)) else (some M)) else (q_cv (f_Md_dropEntry x13 M) fun M26 => some M26)) else (q_bp (f_Md_reach a1 1738892 M) fun x27 => if x27 = 0 then (some M) else (q_bp (f_Md_topmost a1 M) fun x29 => q_lt (qsI M 0 13 x29) fun M30 => some M30))) (-1) 0
abbrev rm_Md_endOther : Room := { frames := 5, cells := 0, slots := 0, locals := 115 }
set_option maxRecDepth 100000 in
set_option maxHeartbeats 4000000 in
theorem c_Md_endOther {l : Launch} {D : va_G} {dA : Nat → ClassId} {b : Nat} (a1 : Int32)  (M : qM) (out : qM) (hf : f_Md_endOther a1 M = some out) : CTv l y_Md_endOther w_Md_endOther rm_Md_endOther D (tysX dA) (enM dA b) 38 b (fun _ => True) [qr (some 0), qi a1] M out := by
  refine qm_v (cc := prog_14_method_32_code) (nL := 6) (by decide) rfl (Nat.le_of_ble_eq_true rfl) ?_
  intro p e s m args below meth c Q hx hb hts0 hown hml hK hs hret
  have hts : ∀ w ∈ lw_g, w.before args s = true := fun w h => hts0 w (List.mem_cons_of_mem _ h)
  show QJ p l e rm_Md_endOther s m args below meth c (qA 38 b) b 6 0 0 Q (qWd D (enM dA b) 38 b) M 0 [(0, qr (some 0)), (1, qi a1)] []
  unfold f_Md_endOther at hf
  refine qj_aload_n hx hb d_Md_endOther_0 rfl 0 rfl ?_
  have hf9 := q_bp_s hf; clear hf; obtain ⟨x1, hx1, hf⟩ := hf9
  refine qc_Vi (st := []) hx hb hml hown hts hK qT_ok hs (c_Md_listOwner  M _ hx1) ⟨(callB_of 0 hts (q_good tw_494) rfl rfl rfl (hts _ tw_459) (hts _ tw_495) (by decide +kernel) ⟨by decide, by decide⟩), (hts _ tw_496), (hts _ tw_497)⟩ (by decide) rfl rfl rfl rfl (Nat.le_of_ble_eq_true rfl) d_Md_endOther_1 ?_
  refine qj_istore_n hx hb d_Md_endOther_4 rfl (by decide) rfl ?_
  refine qj_iconst (v := (-1)) hx hb d_Md_endOther_5 (by decide) ?_
  refine qj_istore_n hx hb d_Md_endOther_6 rfl (by decide) rfl ?_
  refine qj_iconst (v := 0) hx hb d_Md_endOther_7 (by decide) ?_
  refine qj_istore hx hb d_Md_endOther_8 (by decide) rfl ?_
  have hL10 : ∀ (n : Nat) (K4 : Int32 → Option qM), (∀ (x13 : Int32), K4 x13 = some out → QJ p l e rm_Md_endOther s m args below meth c (qA 38 b) b 6 0 0 Q (qWd D (enM dA b) 38 b) M 65 [(0, qr (some 0)), (1, qi a1), (3, qi x13)] []) → ∀ (x2 : Int32) (x3 : Int32), f_Md_endOther_10 M a1 x1 n K4 x2 x3 = some out → QJ p l e rm_Md_endOther s m args below meth c (qA 38 b) b 6 0 0 Q (qWd D (enM dA b) 38 b) M 10 [(0, qr (some 0)), (1, qi a1), (2, qi x1), (3, qi x2), (4, qi x3)] [] := by
    clear hf
    intro n
    induction n with
    | zero =>
      intro K4 hK4 x2 x3 hf
      exact absurd hf (by simp [f_Md_endOther_10])
    | succ n ih10 =>
      intro K4 hK4 x2 x3 hf
      rw [f_Md_endOther_10] at hf
      have ih10 := ih10 K4 hK4
      refine qj_iload hx hb d_Md_endOther_10 4 rfl ?_
      refine qj_aload_n hx hb d_Md_endOther_12 rfl 0 rfl ?_
      refine qj_get hx hb hts hin_12 hown hK (by decide) rfl rfl 16 (by decide) (hts _ tw_455) (fun _ h => h) (qi (M.1 0 16)) rfl d_Md_endOther_13 ?_
      refine qj_icmp_ge (tgt := 65) hx hb d_Md_endOther_16 (by decide) (fun hc5 => ?_) (fun hc5 => ?_)
      · replace hf := q_if_t hc5 hf
        refine qj_sub [0, 1, 3] rfl ?_
        exact hK4 x2 hf
      · replace hf := q_if_f hc5 hf
        refine qj_iload_n hx hb d_Md_endOther_19 rfl 1 rfl ?_
        have hf9 := q_bp_s hf; clear hf; obtain ⟨x6, hx6, hf⟩ := hf9
        refine qc_Si (st := []) hx hb hml hown hts hK qT_ok hs (c_Md_bit a1 M _ hx6) ⟨(callB_of 1 hts (q_good tw_463) rfl rfl rfl (hts _ tw_459) (hts _ tw_464) (by decide +kernel) ⟨by decide, by decide⟩), (hts _ tw_465)⟩ rfl rfl (Nat.le_of_ble_eq_true rfl) d_Md_endOther_20 ?_
        refine qj_ldc (v := 262402) hx hb hown (hts _ tw_534) d_Md_endOther_23 ?_
        refine qj_iand hx hb d_Md_endOther_25 ?_
        refine qj_if_eq (tgt := 65) hx hb d_Md_endOther_26 (by decide) (fun hc7 => ?_) (fun hc7 => ?_)
        · replace hf := q_if_t hc7 hf
          refine qj_sub [0, 1, 3] rfl ?_
          exact hK4 x2 hf
        · replace hf := q_if_f hc7 hf
          refine qj_aload_n hx hb d_Md_endOther_29 rfl 0 rfl ?_
          refine qj_get hx hb hts hin_12 hown hK (by decide) rfl rfl 15 (by decide) (hts _ tw_498) (fun _ h => h) (qr (some 10)) rfl d_Md_endOther_30 ?_
          refine qj_iload hx hb d_Md_endOther_33 4 rfl ?_
          have hf9 := q_ix_s hf; clear hf; obtain ⟨hi8, hf⟩ := hf9
          refine qj_iald (t0 := 0) hx hb hK (by decide) (fun _ _ => rfl) rfl hi8 d_Md_endOther_35 ?_
          refine qj_iload_n hx hb d_Md_endOther_36 rfl 2 rfl ?_
          refine qj_icmp_ne (tgt := 59) hx hb d_Md_endOther_37 (by decide) (fun hc9 => ?_) (fun hc9 => ?_)
          · replace hf := q_if_f hc9 hf
            refine qj_iinc (j := 4) (v := x3 + 1) hx hb d_Md_endOther_59 rfl rfl (by decide) rfl ?_
            refine qj_goto (tgt := 10) hx hb d_Md_endOther_62 (by decide) ?_
            refine qj_sub [1, 2, 3, 4, 0] rfl ?_
            exact ih10 x2 (x3 + 1) hf
          · replace hf := q_if_t hc9 hf
            refine qj_aload_n hx hb d_Md_endOther_40 rfl 0 rfl ?_
            refine qj_get hx hb hts hin_12 hown hK (by decide) rfl rfl 8 (by decide) (hts _ tw_450) (fun _ h => h) (qr (some 4)) rfl d_Md_endOther_41 ?_
            refine qj_aload_n hx hb d_Md_endOther_44 rfl 0 rfl ?_
            refine qj_get hx hb hts hin_12 hown hK (by decide) rfl rfl 14 (by decide) (hts _ tw_499) (fun _ h => h) (qr (some 9)) rfl d_Md_endOther_45 ?_
            refine qj_iload hx hb d_Md_endOther_48 4 rfl ?_
            have hf9 := q_ix_s hf; clear hf; obtain ⟨hi10, hf⟩ := hf9
            refine qj_iald (t0 := 0) hx hb hK (by decide) (fun _ _ => rfl) rfl hi10 d_Md_endOther_50 ?_
            have hf9 := q_ix_s hf; clear hf; obtain ⟨hi11, hf⟩ := hf9
            refine qj_iald (t0 := 0) hx hb hK (by decide) (fun _ _ => rfl) rfl hi11 d_Md_endOther_51 ?_
            refine qj_iload_n hx hb d_Md_endOther_52 rfl 1 rfl ?_
            refine qj_icmp_ne (tgt := 59) hx hb d_Md_endOther_53 (by decide) (fun hc12 => ?_) (fun hc12 => ?_)
            · replace hf := q_if_f hc12 hf
              refine qj_iinc (j := 4) (v := x3 + 1) hx hb d_Md_endOther_59 rfl rfl (by decide) rfl ?_
              refine qj_goto (tgt := 10) hx hb d_Md_endOther_62 (by decide) ?_
              refine qj_sub [1, 2, 3, 4, 0] rfl ?_
              exact ih10 x2 (x3 + 1) hf
            · replace hf := q_if_t hc12 hf
              refine qj_iload hx hb d_Md_endOther_56 4 rfl ?_
              refine qj_istore_n hx hb d_Md_endOther_58 rfl (by decide) rfl ?_
              refine qj_iinc (j := 4) (v := x3 + 1) hx hb d_Md_endOther_59 rfl rfl (by decide) rfl ?_
              refine qj_goto (tgt := 10) hx hb d_Md_endOther_62 (by decide) ?_
              refine qj_sub [2, 3, 4, 1, 0] rfl ?_
              exact ih10 x3 (x3 + 1) hf
  refine qj_sub [3, 4, 2, 1, 0] rfl ?_
  refine hL10 _ _ (fun x13 hf9 => ?_) (-1) 0 hf
  clear hf; have hf := hf9; clear hf9
  refine qj_iload_n hx hb d_Md_endOther_65 rfl 2 rfl ?_
  refine qj_if_ge (tgt := 90) hx hb d_Md_endOther_66 (by decide) (fun hc14 => ?_) (fun hc14 => ?_)
  · replace hf := q_if_t hc14 hf
    refine qj_aload_n hx hb d_Md_endOther_90 rfl 0 rfl ?_
    refine qj_aload_n hx hb d_Md_endOther_91 rfl 0 rfl ?_
    refine qj_get hx hb hts hin_12 hown hK (by decide) rfl rfl 14 (by decide) (hts _ tw_499) (fun _ h => h) (qr (some 9)) rfl d_Md_endOther_92 ?_
    refine qj_iload_n hx hb d_Md_endOther_95 rfl 2 rfl ?_
    have hf9 := q_ix_s hf; clear hf; obtain ⟨hi15, hf⟩ := hf9
    refine qj_iald (t0 := 0) hx hb hK (by decide) (fun _ _ => rfl) rfl hi15 d_Md_endOther_96 ?_
    have hf9 := q_bp_s hf; clear hf; obtain ⟨x16, hx16, hf⟩ := hf9
    refine qc_Vi (st := []) hx hb hml hown hts hK qT_ok hs (c_Md_opened (M.1 9 x13.toNatClampNeg) M _ hx16) ⟨(callB_of 1 hts (q_good tw_500) rfl rfl rfl (hts _ tw_459) (hts _ tw_501) (by decide +kernel) ⟨by decide, by decide⟩), (hts _ tw_502), (hts _ tw_503)⟩ (by decide) rfl rfl rfl rfl (Nat.le_of_ble_eq_true rfl) d_Md_endOther_97 ?_
    refine qj_istore hx hb d_Md_endOther_100 (by decide) rfl ?_
    refine qj_iload hx hb d_Md_endOther_102 0 rfl ?_
    refine qj_if_ge (tgt := 115) hx hb d_Md_endOther_104 (by decide) (fun hc17 => ?_) (fun hc17 => ?_)
    · replace hf := q_if_t hc17 hf
      refine qj_aload_n hx hb d_Md_endOther_115 rfl 1 rfl ?_
      refine qj_iload hx hb d_Md_endOther_116 0 rfl ?_
      refine qj_ldc (v := 524288) hx hb hown (hts _ tw_488) d_Md_endOther_118 ?_
      have hf9 := q_bp_s hf; clear hf; obtain ⟨x18, hx18, hf⟩ := hf9
      refine qc_Vi (st := []) hx hb hml hown hts hK qT_ok hs (c_Md_above x16 524288 M _ hx18) ⟨(callB_of 2 hts (q_good tw_474) rfl rfl rfl (hts _ tw_459) (hts _ tw_475) (by decide +kernel) ⟨by decide, by decide⟩), (hts _ tw_476), (hts _ tw_477)⟩ (by decide) rfl rfl rfl rfl (Nat.le_of_ble_eq_true rfl) d_Md_endOther_120 ?_
      refine qj_if_ne (tgt := 167) hx hb d_Md_endOther_123 (by decide) (fun hc19 => ?_) (fun hc19 => ?_)
      · replace hf := q_if_f hc19 hf
        exact hret _ _ _ d_Md_endOther_167 (Option.some.inj hf)
      · replace hf := q_if_t hc19 hf
        refine qj_aload_n hx hb d_Md_endOther_126 rfl 1 rfl ?_
        refine qj_get hx hb hts hin_12 hown hK (by decide) rfl rfl 14 (by decide) (hts _ tw_499) (fun _ h => h) (qr (some 9)) rfl d_Md_endOther_127 ?_
        refine qj_iload_n hx hb d_Md_endOther_130 rfl 3 rfl ?_
        have hf9 := q_ix_s hf; clear hf; obtain ⟨hi20, hf⟩ := hf9
        refine qj_iald (t0 := 0) hx hb hK (by decide) (fun _ _ => rfl) rfl hi20 d_Md_endOther_131 ?_
        refine qj_istore hx hb d_Md_endOther_132 (by decide) rfl ?_
        refine qj_aload_n hx hb d_Md_endOther_134 rfl 2 rfl ?_
        refine qj_iload_n hx hb d_Md_endOther_135 rfl 4 rfl ?_
        have hf9 := q_cv_s hf; clear hf; obtain ⟨M21, hM21, hf⟩ := hf9
        refine qc_Vv (st := []) hx hb hml hown hts hK qT_ok hs (c_Md_dropEntry x13 M _ hM21) ⟨(callB_of 1 hts (q_good tw_526) rfl rfl rfl (hts _ tw_459) (hts _ tw_527) (by decide +kernel) ⟨by decide, by decide⟩), (hts _ tw_528), (hts _ tw_529)⟩ (by decide) rfl rfl rfl rfl (Nat.le_of_ble_eq_true rfl) d_Md_endOther_136 ?_
        refine qj_aload_n hx hb d_Md_endOther_139 rfl 2 rfl ?_
        refine qj_iload hx hb d_Md_endOther_140 1 rfl ?_
        refine qj_ldc (v := 1607816) hx hb hown (hts _ tw_516) d_Md_endOther_142 ?_
        have hf9 := q_bp_s hf; clear hf; obtain ⟨x22, hx22, hf⟩ := hf9
        refine qc_Vi (st := []) hx hb hml hown hts hK qT_ok hs (c_Md_above x16 1607816 M21 _ hx22) ⟨(callB_of 2 hts (q_good tw_474) rfl rfl rfl (hts _ tw_459) (hts _ tw_475) (by decide +kernel) ⟨by decide, by decide⟩), (hts _ tw_476), (hts _ tw_477)⟩ (by decide) rfl rfl rfl rfl (Nat.le_of_ble_eq_true rfl) d_Md_endOther_144 ?_
        refine qj_if_eq (tgt := 161) hx hb d_Md_endOther_147 (by decide) (fun hc23 => ?_) (fun hc23 => ?_)
        · replace hf := q_if_t hc23 hf
          refine qj_aload_n hx hb d_Md_endOther_161 rfl 2 rfl ?_
          refine qj_iload hx hb d_Md_endOther_162 1 rfl ?_
          have hf9 := q_lt_s hf; clear hf; obtain ⟨M24, eM24, hf⟩ := hf9
          refine qj_puti (ty := .int) hx hb hts hin_12 ty_12 tyok_12 nm_12 hown hK (by decide) rfl rfl 13 (by decide) (hts _ tw_454) (fun _ h => h) rfl (by decide +kernel) rfl rfl (Nat.le_of_ble_eq_true rfl) sm_13 eM24 d_Md_endOther_164 ?_
          exact hret _ _ _ d_Md_endOther_167 (Option.some.inj hf)
        · replace hf := q_if_f hc23 hf
          refine qj_aload_n hx hb d_Md_endOther_150 rfl 2 rfl ?_
          refine qj_iload hx hb d_Md_endOther_151 1 rfl ?_
          refine qj_iload hx hb d_Md_endOther_153 0 rfl ?_
          have hf9 := q_cv_s hf; clear hf; obtain ⟨M25, hM25, hf⟩ := hf9
          refine qc_Vv (st := []) hx hb hml hown hts hK qT_ok hs (c_Md_adopt x16 (M.1 9 x13.toNatClampNeg) M21 _ hM25) ⟨(callB_of 2 hts (q_good tw_540) rfl rfl rfl (hts _ tw_459) (hts _ tw_541) (by decide +kernel) ⟨by decide, by decide⟩), (hts _ tw_542), (hts _ tw_543)⟩ (by decide) rfl rfl rfl rfl (Nat.le_of_ble_eq_true rfl) d_Md_endOther_155 ?_
          refine qj_goto (tgt := 167) hx hb d_Md_endOther_158 (by decide) ?_
          exact hret _ _ _ d_Md_endOther_167 (Option.some.inj hf)
    · replace hf := q_if_f hc17 hf
      refine qj_aload_n hx hb d_Md_endOther_107 rfl 1 rfl ?_
      refine qj_iload_n hx hb d_Md_endOther_108 rfl 3 rfl ?_
      have hf9 := q_cv_s hf; clear hf; obtain ⟨M26, hM26, hf⟩ := hf9
      refine qc_Vv (st := []) hx hb hml hown hts hK qT_ok hs (c_Md_dropEntry x13 M _ hM26) ⟨(callB_of 1 hts (q_good tw_526) rfl rfl rfl (hts _ tw_459) (hts _ tw_527) (by decide +kernel) ⟨by decide, by decide⟩), (hts _ tw_528), (hts _ tw_529)⟩ (by decide) rfl rfl rfl rfl (Nat.le_of_ble_eq_true rfl) d_Md_endOther_109 ?_
      refine qj_goto (tgt := 167) hx hb d_Md_endOther_112 (by decide) ?_
      exact hret _ _ _ d_Md_endOther_167 (Option.some.inj hf)
  · replace hf := q_if_f hc14 hf
    refine qj_aload_n hx hb d_Md_endOther_69 rfl 0 rfl ?_
    refine qj_iload_n hx hb d_Md_endOther_70 rfl 1 rfl ?_
    refine qj_ldcw (v := 1738892) hx hb hown (hts _ tw_544) d_Md_endOther_71 ?_
    have hf9 := q_bp_s hf; clear hf; obtain ⟨x27, hx27, hf⟩ := hf9
    refine qc_Vi (st := []) hx hb hml hown hts hK qT_ok hs (c_Md_reach a1 1738892 M _ hx27) ⟨(callB_of 2 hts (q_good tw_522) rfl rfl rfl (hts _ tw_459) (hts _ tw_523) (by decide +kernel) ⟨by decide, by decide⟩), (hts _ tw_524), (hts _ tw_525)⟩ (by decide) rfl rfl rfl rfl (Nat.le_of_ble_eq_true rfl) d_Md_endOther_74 ?_
    refine qj_if_eq (tgt := 89) hx hb d_Md_endOther_77 (by decide) (fun hc28 => ?_) (fun hc28 => ?_)
    · replace hf := q_if_t hc28 hf
      exact hret _ _ _ d_Md_endOther_89 (Option.some.inj hf)
    · replace hf := q_if_f hc28 hf
      refine qj_aload_n hx hb d_Md_endOther_80 rfl 0 rfl ?_
      refine qj_aload_n hx hb d_Md_endOther_81 rfl 0 rfl ?_
      refine qj_iload_n hx hb d_Md_endOther_82 rfl 1 rfl ?_
      have hf9 := q_bp_s hf; clear hf; obtain ⟨x29, hx29, hf⟩ := hf9
      refine qc_Vi (st := [qr (some 0)]) hx hb hml hown hts hK qT_ok hs (c_Md_topmost a1 M _ hx29) ⟨(callB_of 1 hts (q_good tw_470) rfl rfl rfl (hts _ tw_459) (hts _ tw_471) (by decide +kernel) ⟨by decide, by decide⟩), (hts _ tw_472), (hts _ tw_473)⟩ (by decide) rfl rfl rfl rfl (Nat.le_of_ble_eq_true rfl) d_Md_endOther_83 ?_
      have hf9 := q_lt_s hf; clear hf; obtain ⟨M30, eM30, hf⟩ := hf9
      refine qj_puti (ty := .int) hx hb hts hin_12 ty_12 tyok_12 nm_12 hown hK (by decide) rfl rfl 13 (by decide) (hts _ tw_454) (fun _ h => h) rfl (by decide +kernel) rfl rfl (Nat.le_of_ble_eq_true rfl) sm_13 eM30 d_Md_endOther_86 ?_
      exact hret _ _ _ d_Md_endOther_89 (Option.some.inj hf)
theorem d_Md_end_0 : decode prog_14_method_31_code 0 = .ok (.iload_n 1, 1) := by decide +kernel
theorem d_Md_end_1 : decode prog_14_method_31_code 1 = .ok (.bipush 112, 2) := by decide +kernel
theorem d_Md_end_3 : decode prog_14_method_31_code 3 = .ok (.if_icmp .ne 52, 3) := by decide +kernel
theorem d_Md_end_6 : decode prog_14_method_31_code 6 = .ok (.aload_n 0, 1) := by decide +kernel
theorem d_Md_end_7 : decode prog_14_method_31_code 7 = .ok (.bipush 112, 2) := by decide +kernel
theorem d_Md_end_9 : decode prog_14_method_31_code 9 = .ok (.iconst 4, 1) := by decide +kernel
theorem d_Md_end_10 : decode prog_14_method_31_code 10 = .ok (.invokevirtual 236, 3) := by decide +kernel
theorem d_Md_end_13 : decode prog_14_method_31_code 13 = .ok (.ifCond .eq 16, 3) := by decide +kernel
theorem d_Md_end_16 : decode prog_14_method_31_code 16 = .ok (.aload_n 0, 1) := by decide +kernel
theorem d_Md_end_17 : decode prog_14_method_31_code 17 = .ok (.aload_n 0, 1) := by decide +kernel
theorem d_Md_end_18 : decode prog_14_method_31_code 18 = .ok (.bipush 112, 2) := by decide +kernel
theorem d_Md_end_20 : decode prog_14_method_31_code 20 = .ok (.invokevirtual 196, 3) := by decide +kernel
theorem d_Md_end_23 : decode prog_14_method_31_code 23 = .ok (.putfield 148, 3) := by decide +kernel
theorem d_Md_end_26 : decode prog_14_method_31_code 26 = .ok (.goto 207, 3) := by decide +kernel
theorem d_Md_end_29 : decode prog_14_method_31_code 29 = .ok (.aload_n 0, 1) := by decide +kernel
theorem d_Md_end_30 : decode prog_14_method_31_code 30 = .ok (.aload_n 0, 1) := by decide +kernel
theorem d_Md_end_31 : decode prog_14_method_31_code 31 = .ok (.getfield 148, 3) := by decide +kernel
theorem d_Md_end_34 : decode prog_14_method_31_code 34 = .ok (.invokevirtual 226, 3) := by decide +kernel
theorem d_Md_end_37 : decode prog_14_method_31_code 37 = .ok (.aload_n 0, 1) := by decide +kernel
theorem d_Md_end_38 : decode prog_14_method_31_code 38 = .ok (.bipush 112, 2) := by decide +kernel
theorem d_Md_end_40 : decode prog_14_method_31_code 40 = .ok (.iconst 0, 1) := by decide +kernel
theorem d_Md_end_41 : decode prog_14_method_31_code 41 = .ok (.invokevirtual 229, 3) := by decide +kernel
theorem d_Md_end_44 : decode prog_14_method_31_code 44 = .ok (.istore_n 2, 1) := by decide +kernel
theorem d_Md_end_45 : decode prog_14_method_31_code 45 = .ok (.aload_n 0, 1) := by decide +kernel
theorem d_Md_end_46 : decode prog_14_method_31_code 46 = .ok (.getfield 28, 3) := by decide +kernel
theorem d_Md_end_49 : decode prog_14_method_31_code 49 = .ok (.iconst 0, 1) := by decide +kernel
theorem d_Md_end_50 : decode prog_14_method_31_code 50 = .ok (.iload_n 2, 1) := by decide +kernel
theorem d_Md_end_51 : decode prog_14_method_31_code 51 = .ok (.iastore, 1) := by decide +kernel
theorem d_Md_end_52 : decode prog_14_method_31_code 52 = .ok (.goto 181, 3) := by decide +kernel
theorem d_Md_end_55 : decode prog_14_method_31_code 55 = .ok (.iload_n 1, 1) := by decide +kernel
theorem d_Md_end_56 : decode prog_14_method_31_code 56 = .ok (.bipush 100, 2) := by decide +kernel
theorem d_Md_end_58 : decode prog_14_method_31_code 58 = .ok (.if_icmp .eq 9, 3) := by decide +kernel
theorem d_Md_end_61 : decode prog_14_method_31_code 61 = .ok (.iload_n 1, 1) := by decide +kernel
theorem d_Md_end_62 : decode prog_14_method_31_code 62 = .ok (.bipush 117, 2) := by decide +kernel
theorem d_Md_end_64 : decode prog_14_method_31_code 64 = .ok (.if_icmp .ne 24, 3) := by decide +kernel
theorem d_Md_end_67 : decode prog_14_method_31_code 67 = .ok (.aload_n 0, 1) := by decide +kernel
theorem d_Md_end_68 : decode prog_14_method_31_code 68 = .ok (.iload_n 1, 1) := by decide +kernel
theorem d_Md_end_69 : decode prog_14_method_31_code 69 = .ok (.iconst 4, 1) := by decide +kernel
theorem d_Md_end_70 : decode prog_14_method_31_code 70 = .ok (.invokevirtual 236, 3) := by decide +kernel
theorem d_Md_end_73 : decode prog_14_method_31_code 73 = .ok (.ifCond .eq 160, 3) := by decide +kernel
theorem d_Md_end_76 : decode prog_14_method_31_code 76 = .ok (.aload_n 0, 1) := by decide +kernel
theorem d_Md_end_77 : decode prog_14_method_31_code 77 = .ok (.aload_n 0, 1) := by decide +kernel
theorem d_Md_end_78 : decode prog_14_method_31_code 78 = .ok (.iload_n 1, 1) := by decide +kernel
theorem d_Md_end_79 : decode prog_14_method_31_code 79 = .ok (.invokevirtual 196, 3) := by decide +kernel
theorem d_Md_end_82 : decode prog_14_method_31_code 82 = .ok (.putfield 148, 3) := by decide +kernel
theorem d_Md_end_85 : decode prog_14_method_31_code 85 = .ok (.goto 148, 3) := by decide +kernel
theorem d_Md_end_88 : decode prog_14_method_31_code 88 = .ok (.iload_n 1, 1) := by decide +kernel
theorem d_Md_end_89 : decode prog_14_method_31_code 89 = .ok (.bipush 108, 2) := by decide +kernel
theorem d_Md_end_91 : decode prog_14_method_31_code 91 = .ok (.if_icmp .ne 27, 3) := by decide +kernel
theorem d_Md_end_94 : decode prog_14_method_31_code 94 = .ok (.aload_n 0, 1) := by decide +kernel
theorem d_Md_end_95 : decode prog_14_method_31_code 95 = .ok (.bipush 108, 2) := by decide +kernel
theorem d_Md_end_97 : decode prog_14_method_31_code 97 = .ok (.ldc 239, 2) := by decide +kernel
theorem d_Md_end_99 : decode prog_14_method_31_code 99 = .ok (.invokevirtual 236, 3) := by decide +kernel
theorem d_Md_end_102 : decode prog_14_method_31_code 102 = .ok (.ifCond .eq 131, 3) := by decide +kernel
theorem d_Md_end_105 : decode prog_14_method_31_code 105 = .ok (.aload_n 0, 1) := by decide +kernel
theorem d_Md_end_106 : decode prog_14_method_31_code 106 = .ok (.aload_n 0, 1) := by decide +kernel
theorem d_Md_end_107 : decode prog_14_method_31_code 107 = .ok (.bipush 108, 2) := by decide +kernel
theorem d_Md_end_109 : decode prog_14_method_31_code 109 = .ok (.invokevirtual 196, 3) := by decide +kernel
theorem d_Md_end_112 : decode prog_14_method_31_code 112 = .ok (.putfield 148, 3) := by decide +kernel
theorem d_Md_end_115 : decode prog_14_method_31_code 115 = .ok (.goto 118, 3) := by decide +kernel
theorem d_Md_end_118 : decode prog_14_method_31_code 118 = .ok (.iload_n 1, 1) := by decide +kernel
theorem d_Md_end_119 : decode prog_14_method_31_code 119 = .ok (.bipush 116, 2) := by decide +kernel
theorem d_Md_end_121 : decode prog_14_method_31_code 121 = .ok (.if_icmp .ne 25, 3) := by decide +kernel
theorem d_Md_end_124 : decode prog_14_method_31_code 124 = .ok (.aload_n 0, 1) := by decide +kernel
theorem d_Md_end_125 : decode prog_14_method_31_code 125 = .ok (.bipush 116, 2) := by decide +kernel
theorem d_Md_end_127 : decode prog_14_method_31_code 127 = .ok (.invokevirtual 196, 3) := by decide +kernel
theorem d_Md_end_130 : decode prog_14_method_31_code 130 = .ok (.ifCond .lt 103, 3) := by decide +kernel
theorem d_Md_end_133 : decode prog_14_method_31_code 133 = .ok (.aload_n 0, 1) := by decide +kernel
theorem d_Md_end_134 : decode prog_14_method_31_code 134 = .ok (.aload_n 0, 1) := by decide +kernel
theorem d_Md_end_135 : decode prog_14_method_31_code 135 = .ok (.bipush 116, 2) := by decide +kernel
theorem d_Md_end_137 : decode prog_14_method_31_code 137 = .ok (.invokevirtual 196, 3) := by decide +kernel
theorem d_Md_end_140 : decode prog_14_method_31_code 140 = .ok (.putfield 148, 3) := by decide +kernel
theorem d_Md_end_143 : decode prog_14_method_31_code 143 = .ok (.goto 90, 3) := by decide +kernel
theorem d_Md_end_146 : decode prog_14_method_31_code 146 = .ok (.iload_n 1, 1) := by decide +kernel
theorem d_Md_end_147 : decode prog_14_method_31_code 147 = .ok (.bipush 114, 2) := by decide +kernel
theorem d_Md_end_149 : decode prog_14_method_31_code 149 = .ok (.if_icmp .ne 37, 3) := by decide +kernel
theorem d_Md_end_152 : decode prog_14_method_31_code 152 = .ok (.aload_n 0, 1) := by decide +kernel
theorem d_Md_end_153 : decode prog_14_method_31_code 153 = .ok (.bipush 114, 2) := by decide +kernel
theorem d_Md_end_155 : decode prog_14_method_31_code 155 = .ok (.invokevirtual 196, 3) := by decide +kernel
theorem d_Md_end_158 : decode prog_14_method_31_code 158 = .ok (.istore_n 2, 1) := by decide +kernel
theorem d_Md_end_159 : decode prog_14_method_31_code 159 = .ok (.iload_n 2, 1) := by decide +kernel
theorem d_Md_end_160 : decode prog_14_method_31_code 160 = .ok (.aload_n 0, 1) := by decide +kernel
theorem d_Md_end_161 : decode prog_14_method_31_code 161 = .ok (.bipush 116, 2) := by decide +kernel
theorem d_Md_end_163 : decode prog_14_method_31_code 163 = .ok (.invokevirtual 196, 3) := by decide +kernel
theorem d_Md_end_166 : decode prog_14_method_31_code 166 = .ok (.if_icmp .le 17, 3) := by decide +kernel
theorem d_Md_end_169 : decode prog_14_method_31_code 169 = .ok (.aload_n 0, 1) := by decide +kernel
theorem d_Md_end_170 : decode prog_14_method_31_code 170 = .ok (.bipush 116, 2) := by decide +kernel
theorem d_Md_end_172 : decode prog_14_method_31_code 172 = .ok (.invokevirtual 196, 3) := by decide +kernel
theorem d_Md_end_175 : decode prog_14_method_31_code 175 = .ok (.ifCond .lt 8, 3) := by decide +kernel
theorem d_Md_end_178 : decode prog_14_method_31_code 178 = .ok (.aload_n 0, 1) := by decide +kernel
theorem d_Md_end_179 : decode prog_14_method_31_code 179 = .ok (.iload_n 2, 1) := by decide +kernel
theorem d_Md_end_180 : decode prog_14_method_31_code 180 = .ok (.putfield 148, 3) := by decide +kernel
theorem d_Md_end_183 : decode prog_14_method_31_code 183 = .ok (.goto 50, 3) := by decide +kernel
theorem d_Md_end_186 : decode prog_14_method_31_code 186 = .ok (.iload_n 1, 1) := by decide +kernel
theorem d_Md_end_187 : decode prog_14_method_31_code 187 = .ok (.bipush 99, 2) := by decide +kernel
theorem d_Md_end_189 : decode prog_14_method_31_code 189 = .ok (.if_icmp .ne 27, 3) := by decide +kernel
theorem d_Md_end_192 : decode prog_14_method_31_code 192 = .ok (.aload_n 0, 1) := by decide +kernel
theorem d_Md_end_193 : decode prog_14_method_31_code 193 = .ok (.bipush 99, 2) := by decide +kernel
theorem d_Md_end_195 : decode prog_14_method_31_code 195 = .ok (.ldc 214, 2) := by decide +kernel
theorem d_Md_end_197 : decode prog_14_method_31_code 197 = .ok (.invokevirtual 236, 3) := by decide +kernel
theorem d_Md_end_200 : decode prog_14_method_31_code 200 = .ok (.ifCond .eq 33, 3) := by decide +kernel
theorem d_Md_end_203 : decode prog_14_method_31_code 203 = .ok (.aload_n 0, 1) := by decide +kernel
theorem d_Md_end_204 : decode prog_14_method_31_code 204 = .ok (.aload_n 0, 1) := by decide +kernel
theorem d_Md_end_205 : decode prog_14_method_31_code 205 = .ok (.bipush 99, 2) := by decide +kernel
theorem d_Md_end_207 : decode prog_14_method_31_code 207 = .ok (.invokevirtual 196, 3) := by decide +kernel
theorem d_Md_end_210 : decode prog_14_method_31_code 210 = .ok (.putfield 148, 3) := by decide +kernel
theorem d_Md_end_213 : decode prog_14_method_31_code 213 = .ok (.goto 20, 3) := by decide +kernel
theorem d_Md_end_216 : decode prog_14_method_31_code 216 = .ok (.iload_n 1, 1) := by decide +kernel
theorem d_Md_end_217 : decode prog_14_method_31_code 217 = .ok (.bipush 104, 2) := by decide +kernel
theorem d_Md_end_219 : decode prog_14_method_31_code 219 = .ok (.if_icmp .eq 14, 3) := by decide +kernel
theorem d_Md_end_222 : decode prog_14_method_31_code 222 = .ok (.iload_n 1, 1) := by decide +kernel
theorem d_Md_end_223 : decode prog_14_method_31_code 223 = .ok (.bipush 107, 2) := by decide +kernel
theorem d_Md_end_225 : decode prog_14_method_31_code 225 = .ok (.if_icmp .eq 8, 3) := by decide +kernel
theorem d_Md_end_228 : decode prog_14_method_31_code 228 = .ok (.aload_n 0, 1) := by decide +kernel
theorem d_Md_end_229 : decode prog_14_method_31_code 229 = .ok (.iload_n 1, 1) := by decide +kernel
theorem d_Md_end_230 : decode prog_14_method_31_code 230 = .ok (.invokevirtual 253, 3) := by decide +kernel
theorem d_Md_end_233 : decode prog_14_method_31_code 233 = .ok (.return_, 1) := by decide +kernel
def f_Md_end (a1 : Int32) (M : qM) : Option qM := if a1 = 112 then (q_bp (f_Md_reach 112 4 M) fun x34 => if x34 = 0 then (q_cv (f_Md_findPlace (M.1 0 13) M) fun M36 => q_cl (f_Md_create 112 0 M36) fun x37 M38 => q_ix (0 : Int32) 40 <| q_lt (qsI M38 7 (0 : Int32).toNatClampNeg x37) fun M40 => some M40) else (q_bp (f_Md_topmost 112 M) fun x41 => q_lt (qsI M 0 13 x41) fun M42 => some M42)) else (q_lt (q_bp (f_Md_reach a1 4 M) fun x2 => if x2 = 0 then (some M) else (q_bp (f_Md_topmost a1 M) fun x4 => q_lt (qsI M 0 13 x4) fun M5 => some M5)) fun (j6 : Option qM) => if a1 = 100 then (j6) else (if a1 = 117 then (j6) else (if a1 = 108 then (q_bp (f_Md_reach 108 1048580 M) fun x30 => if x30 = 0 then (some M) else (q_bp (f_Md_topmost 108 M) fun x32 => q_lt (qsI M 0 13 x32) fun M33 => some M33)) else (if a1 = 116 then (q_bp (f_Md_topmost 116 M) fun x26 => if x26 < 0 then (some M) else (q_bp (f_Md_topmost 116 M) fun x28 => q_lt (qsI M 0 13 x28) fun M29 => some M29)) else (if a1 = 114 then (q_bp (f_Md_topmost 114 M) fun x20 => q_bp (f_Md_topmost 116 M) fun x21 => if x20 ≤ x21 then (some M) else (q_bp (f_Md_topmost 116 M) fun x23 => if x23 < 0 then (some M) else (q_lt (qsI M 0 13 x20) fun M25 => some M25))) else (if a1 = 99 then (q_bp (f_Md_reach 99 524288 M) fun x16 => if x16 = 0 then (some M) else (q_bp (f_Md_topmost 99 M) fun x18 => q_lt (qsI M 0 13 x18) fun M19 => some M19)) else (if a1 = 104 then (some M) else (if a1 = 107 then (some M) else (q_cv (f_Md_endOther a1 M) fun M15 => some M15)))))))))
abbrev rm_Md_end : Room := { frames := 6, cells := 0, slots := 0, locals := 140 }
set_option maxRecDepth 100000 in
set_option maxHeartbeats 4000000 in
theorem c_Md_end {l : Launch} {D : va_G} {dA : Nat → ClassId} {b : Nat} (a1 : Int32)  (M : qM) (out : qM) (hf : f_Md_end a1 M = some out) : CTv l y_Md_end w_Md_end rm_Md_end D (tysX dA) (enM dA b) 38 b (fun _ => True) [qr (some 0), qi a1] M out := by
  refine qm_v (cc := prog_14_method_31_code) (nL := 3) (by decide) rfl (Nat.le_of_ble_eq_true rfl) ?_
  intro p e s m args below meth c Q hx hb hts0 hown hml hK hs hret
  have hts : ∀ w ∈ lw_g, w.before args s = true := fun w h => hts0 w (List.mem_cons_of_mem _ h)
  show QJ p l e rm_Md_end s m args below meth c (qA 38 b) b 3 0 0 Q (qWd D (enM dA b) 38 b) M 0 [(0, qr (some 0)), (1, qi a1)] []
  unfold f_Md_end at hf
  refine qj_iload_n hx hb d_Md_end_0 rfl 1 rfl ?_
  refine qj_bipush (v := 112) hx hb d_Md_end_1 (by decide) ?_
  refine qj_icmp_ne (tgt := 55) hx hb d_Md_end_3 (by decide) (fun hc1 => ?_) (fun hc1 => ?_)
  · replace hf := q_if_f hc1 hf
    refine qj_iload_n hx hb d_Md_end_55 rfl 1 rfl ?_
    refine qj_bipush (v := 100) hx hb d_Md_end_56 (by decide) ?_
    have hf9 := q_lt_s hf; clear hf; obtain ⟨j6, ej6, hf⟩ := hf9
    have hj6 : j6 = some out → QJ p l e rm_Md_end s m args below meth c (qA 38 b) b 3 0 0 Q (qWd D (enM dA b) 38 b) M 67 [(0, qr (some 0)), (1, qi a1)] [] := by
      clear hf
      intro hf
      rw [ej6] at hf
      refine qj_aload_n hx hb d_Md_end_67 rfl 0 rfl ?_
      refine qj_iload_n hx hb d_Md_end_68 rfl 1 rfl ?_
      refine qj_iconst (v := 4) hx hb d_Md_end_69 (by decide) ?_
      have hf9 := q_bp_s hf; clear hf; obtain ⟨x2, hx2, hf⟩ := hf9
      refine qc_Vi (st := []) hx hb hml hown hts hK qT_ok hs (c_Md_reach a1 4 M _ hx2) ⟨(callB_of 2 hts (q_good tw_522) rfl rfl rfl (hts _ tw_459) (hts _ tw_523) (by decide +kernel) ⟨by decide, by decide⟩), (hts _ tw_524), (hts _ tw_525)⟩ (by decide) rfl rfl rfl rfl (Nat.le_of_ble_eq_true rfl) d_Md_end_70 ?_
      refine qj_if_eq (tgt := 233) hx hb d_Md_end_73 (by decide) (fun hc3 => ?_) (fun hc3 => ?_)
      · replace hf := q_if_t hc3 hf
        exact hret _ _ _ d_Md_end_233 (Option.some.inj hf)
      · replace hf := q_if_f hc3 hf
        refine qj_aload_n hx hb d_Md_end_76 rfl 0 rfl ?_
        refine qj_aload_n hx hb d_Md_end_77 rfl 0 rfl ?_
        refine qj_iload_n hx hb d_Md_end_78 rfl 1 rfl ?_
        have hf9 := q_bp_s hf; clear hf; obtain ⟨x4, hx4, hf⟩ := hf9
        refine qc_Vi (st := [qr (some 0)]) hx hb hml hown hts hK qT_ok hs (c_Md_topmost a1 M _ hx4) ⟨(callB_of 1 hts (q_good tw_470) rfl rfl rfl (hts _ tw_459) (hts _ tw_471) (by decide +kernel) ⟨by decide, by decide⟩), (hts _ tw_472), (hts _ tw_473)⟩ (by decide) rfl rfl rfl rfl (Nat.le_of_ble_eq_true rfl) d_Md_end_79 ?_
        have hf9 := q_lt_s hf; clear hf; obtain ⟨M5, eM5, hf⟩ := hf9
        refine qj_puti (ty := .int) hx hb hts hin_12 ty_12 tyok_12 nm_12 hown hK (by decide) rfl rfl 13 (by decide) (hts _ tw_454) (fun _ h => h) rfl (by decide +kernel) rfl rfl (Nat.le_of_ble_eq_true rfl) sm_13 eM5 d_Md_end_82 ?_
        refine qj_goto (tgt := 233) hx hb d_Md_end_85 (by decide) ?_
        exact hret _ _ _ d_Md_end_233 (Option.some.inj hf)
    refine qj_icmp_eq (tgt := 67) hx hb d_Md_end_58 (by decide) (fun hc7 => ?_) (fun hc7 => ?_)
    · replace hf := q_if_t hc7 hf
      exact hj6  hf
    · replace hf := q_if_f hc7 hf
      refine qj_iload_n hx hb d_Md_end_61 rfl 1 rfl ?_
      refine qj_bipush (v := 117) hx hb d_Md_end_62 (by decide) ?_
      refine qj_icmp_ne (tgt := 88) hx hb d_Md_end_64 (by decide) (fun hc8 => ?_) (fun hc8 => ?_)
      · replace hf := q_if_f hc8 hf
        refine qj_iload_n hx hb d_Md_end_88 rfl 1 rfl ?_
        refine qj_bipush (v := 108) hx hb d_Md_end_89 (by decide) ?_
        refine qj_icmp_ne (tgt := 118) hx hb d_Md_end_91 (by decide) (fun hc9 => ?_) (fun hc9 => ?_)
        · replace hf := q_if_f hc9 hf
          refine qj_iload_n hx hb d_Md_end_118 rfl 1 rfl ?_
          refine qj_bipush (v := 116) hx hb d_Md_end_119 (by decide) ?_
          refine qj_icmp_ne (tgt := 146) hx hb d_Md_end_121 (by decide) (fun hc10 => ?_) (fun hc10 => ?_)
          · replace hf := q_if_f hc10 hf
            refine qj_iload_n hx hb d_Md_end_146 rfl 1 rfl ?_
            refine qj_bipush (v := 114) hx hb d_Md_end_147 (by decide) ?_
            refine qj_icmp_ne (tgt := 186) hx hb d_Md_end_149 (by decide) (fun hc11 => ?_) (fun hc11 => ?_)
            · replace hf := q_if_f hc11 hf
              refine qj_iload_n hx hb d_Md_end_186 rfl 1 rfl ?_
              refine qj_bipush (v := 99) hx hb d_Md_end_187 (by decide) ?_
              refine qj_icmp_ne (tgt := 216) hx hb d_Md_end_189 (by decide) (fun hc12 => ?_) (fun hc12 => ?_)
              · replace hf := q_if_f hc12 hf
                refine qj_iload_n hx hb d_Md_end_216 rfl 1 rfl ?_
                refine qj_bipush (v := 104) hx hb d_Md_end_217 (by decide) ?_
                refine qj_icmp_eq (tgt := 233) hx hb d_Md_end_219 (by decide) (fun hc13 => ?_) (fun hc13 => ?_)
                · replace hf := q_if_t hc13 hf
                  exact hret _ _ _ d_Md_end_233 (Option.some.inj hf)
                · replace hf := q_if_f hc13 hf
                  refine qj_iload_n hx hb d_Md_end_222 rfl 1 rfl ?_
                  refine qj_bipush (v := 107) hx hb d_Md_end_223 (by decide) ?_
                  refine qj_icmp_eq (tgt := 233) hx hb d_Md_end_225 (by decide) (fun hc14 => ?_) (fun hc14 => ?_)
                  · replace hf := q_if_t hc14 hf
                    exact hret _ _ _ d_Md_end_233 (Option.some.inj hf)
                  · replace hf := q_if_f hc14 hf
                    refine qj_aload_n hx hb d_Md_end_228 rfl 0 rfl ?_
                    refine qj_iload_n hx hb d_Md_end_229 rfl 1 rfl ?_
                    have hf9 := q_cv_s hf; clear hf; obtain ⟨M15, hM15, hf⟩ := hf9
                    refine qc_Vv (st := []) hx hb hml hown hts hK qT_ok hs (c_Md_endOther a1 M _ hM15) ⟨(callB_of 1 hts (q_good tw_545) rfl rfl rfl (hts _ tw_459) (hts _ tw_546) (by decide +kernel) ⟨by decide, by decide⟩), (hts _ tw_547), (hts _ tw_548)⟩ (by decide) rfl rfl rfl rfl (Nat.le_of_ble_eq_true rfl) d_Md_end_230 ?_
                    exact hret _ _ _ d_Md_end_233 (Option.some.inj hf)
              · replace hf := q_if_t hc12 hf
                refine qj_aload_n hx hb d_Md_end_192 rfl 0 rfl ?_
                refine qj_bipush (v := 99) hx hb d_Md_end_193 (by decide) ?_
                refine qj_ldc (v := 524288) hx hb hown (hts _ tw_488) d_Md_end_195 ?_
                have hf9 := q_bp_s hf; clear hf; obtain ⟨x16, hx16, hf⟩ := hf9
                refine qc_Vi (st := []) hx hb hml hown hts hK qT_ok hs (c_Md_reach 99 524288 M _ hx16) ⟨(callB_of 2 hts (q_good tw_522) rfl rfl rfl (hts _ tw_459) (hts _ tw_523) (by decide +kernel) ⟨by decide, by decide⟩), (hts _ tw_524), (hts _ tw_525)⟩ (by decide) rfl rfl rfl rfl (Nat.le_of_ble_eq_true rfl) d_Md_end_197 ?_
                refine qj_if_eq (tgt := 233) hx hb d_Md_end_200 (by decide) (fun hc17 => ?_) (fun hc17 => ?_)
                · replace hf := q_if_t hc17 hf
                  exact hret _ _ _ d_Md_end_233 (Option.some.inj hf)
                · replace hf := q_if_f hc17 hf
                  refine qj_aload_n hx hb d_Md_end_203 rfl 0 rfl ?_
                  refine qj_aload_n hx hb d_Md_end_204 rfl 0 rfl ?_
                  refine qj_bipush (v := 99) hx hb d_Md_end_205 (by decide) ?_
                  have hf9 := q_bp_s hf; clear hf; obtain ⟨x18, hx18, hf⟩ := hf9
                  refine qc_Vi (st := [qr (some 0)]) hx hb hml hown hts hK qT_ok hs (c_Md_topmost 99 M _ hx18) ⟨(callB_of 1 hts (q_good tw_470) rfl rfl rfl (hts _ tw_459) (hts _ tw_471) (by decide +kernel) ⟨by decide, by decide⟩), (hts _ tw_472), (hts _ tw_473)⟩ (by decide) rfl rfl rfl rfl (Nat.le_of_ble_eq_true rfl) d_Md_end_207 ?_
                  have hf9 := q_lt_s hf; clear hf; obtain ⟨M19, eM19, hf⟩ := hf9
                  refine qj_puti (ty := .int) hx hb hts hin_12 ty_12 tyok_12 nm_12 hown hK (by decide) rfl rfl 13 (by decide) (hts _ tw_454) (fun _ h => h) rfl (by decide +kernel) rfl rfl (Nat.le_of_ble_eq_true rfl) sm_13 eM19 d_Md_end_210 ?_
                  refine qj_goto (tgt := 233) hx hb d_Md_end_213 (by decide) ?_
                  exact hret _ _ _ d_Md_end_233 (Option.some.inj hf)
            · replace hf := q_if_t hc11 hf
              refine qj_aload_n hx hb d_Md_end_152 rfl 0 rfl ?_
              refine qj_bipush (v := 114) hx hb d_Md_end_153 (by decide) ?_
              have hf9 := q_bp_s hf; clear hf; obtain ⟨x20, hx20, hf⟩ := hf9
              refine qc_Vi (st := []) hx hb hml hown hts hK qT_ok hs (c_Md_topmost 114 M _ hx20) ⟨(callB_of 1 hts (q_good tw_470) rfl rfl rfl (hts _ tw_459) (hts _ tw_471) (by decide +kernel) ⟨by decide, by decide⟩), (hts _ tw_472), (hts _ tw_473)⟩ (by decide) rfl rfl rfl rfl (Nat.le_of_ble_eq_true rfl) d_Md_end_155 ?_
              refine qj_istore_n hx hb d_Md_end_158 rfl (by decide) rfl ?_
              refine qj_iload_n hx hb d_Md_end_159 rfl 0 rfl ?_
              refine qj_aload_n hx hb d_Md_end_160 rfl 1 rfl ?_
              refine qj_bipush (v := 116) hx hb d_Md_end_161 (by decide) ?_
              have hf9 := q_bp_s hf; clear hf; obtain ⟨x21, hx21, hf⟩ := hf9
              refine qc_Vi (st := [qi x20]) hx hb hml hown hts hK qT_ok hs (c_Md_topmost 116 M _ hx21) ⟨(callB_of 1 hts (q_good tw_470) rfl rfl rfl (hts _ tw_459) (hts _ tw_471) (by decide +kernel) ⟨by decide, by decide⟩), (hts _ tw_472), (hts _ tw_473)⟩ (by decide) rfl rfl rfl rfl (Nat.le_of_ble_eq_true rfl) d_Md_end_163 ?_
              refine qj_icmp_le (tgt := 183) hx hb d_Md_end_166 (by decide) (fun hc22 => ?_) (fun hc22 => ?_)
              · replace hf := q_if_t hc22 hf
                refine qj_goto (tgt := 233) hx hb d_Md_end_183 (by decide) ?_
                exact hret _ _ _ d_Md_end_233 (Option.some.inj hf)
              · replace hf := q_if_f hc22 hf
                refine qj_aload_n hx hb d_Md_end_169 rfl 1 rfl ?_
                refine qj_bipush (v := 116) hx hb d_Md_end_170 (by decide) ?_
                have hf9 := q_bp_s hf; clear hf; obtain ⟨x23, hx23, hf⟩ := hf9
                refine qc_Vi (st := []) hx hb hml hown hts hK qT_ok hs (c_Md_topmost 116 M _ hx23) ⟨(callB_of 1 hts (q_good tw_470) rfl rfl rfl (hts _ tw_459) (hts _ tw_471) (by decide +kernel) ⟨by decide, by decide⟩), (hts _ tw_472), (hts _ tw_473)⟩ (by decide) rfl rfl rfl rfl (Nat.le_of_ble_eq_true rfl) d_Md_end_172 ?_
                refine qj_if_lt (tgt := 183) hx hb d_Md_end_175 (by decide) (fun hc24 => ?_) (fun hc24 => ?_)
                · replace hf := q_if_t hc24 hf
                  refine qj_goto (tgt := 233) hx hb d_Md_end_183 (by decide) ?_
                  exact hret _ _ _ d_Md_end_233 (Option.some.inj hf)
                · replace hf := q_if_f hc24 hf
                  refine qj_aload_n hx hb d_Md_end_178 rfl 1 rfl ?_
                  refine qj_iload_n hx hb d_Md_end_179 rfl 0 rfl ?_
                  have hf9 := q_lt_s hf; clear hf; obtain ⟨M25, eM25, hf⟩ := hf9
                  refine qj_puti (ty := .int) hx hb hts hin_12 ty_12 tyok_12 nm_12 hown hK (by decide) rfl rfl 13 (by decide) (hts _ tw_454) (fun _ h => h) rfl (by decide +kernel) rfl rfl (Nat.le_of_ble_eq_true rfl) sm_13 eM25 d_Md_end_180 ?_
                  refine qj_goto (tgt := 233) hx hb d_Md_end_183 (by decide) ?_
                  exact hret _ _ _ d_Md_end_233 (Option.some.inj hf)
          · replace hf := q_if_t hc10 hf
            refine qj_aload_n hx hb d_Md_end_124 rfl 0 rfl ?_
            refine qj_bipush (v := 116) hx hb d_Md_end_125 (by decide) ?_
            have hf9 := q_bp_s hf; clear hf; obtain ⟨x26, hx26, hf⟩ := hf9
            refine qc_Vi (st := []) hx hb hml hown hts hK qT_ok hs (c_Md_topmost 116 M _ hx26) ⟨(callB_of 1 hts (q_good tw_470) rfl rfl rfl (hts _ tw_459) (hts _ tw_471) (by decide +kernel) ⟨by decide, by decide⟩), (hts _ tw_472), (hts _ tw_473)⟩ (by decide) rfl rfl rfl rfl (Nat.le_of_ble_eq_true rfl) d_Md_end_127 ?_
            refine qj_if_lt (tgt := 233) hx hb d_Md_end_130 (by decide) (fun hc27 => ?_) (fun hc27 => ?_)
            · replace hf := q_if_t hc27 hf
              exact hret _ _ _ d_Md_end_233 (Option.some.inj hf)
            · replace hf := q_if_f hc27 hf
              refine qj_aload_n hx hb d_Md_end_133 rfl 0 rfl ?_
              refine qj_aload_n hx hb d_Md_end_134 rfl 0 rfl ?_
              refine qj_bipush (v := 116) hx hb d_Md_end_135 (by decide) ?_
              have hf9 := q_bp_s hf; clear hf; obtain ⟨x28, hx28, hf⟩ := hf9
              refine qc_Vi (st := [qr (some 0)]) hx hb hml hown hts hK qT_ok hs (c_Md_topmost 116 M _ hx28) ⟨(callB_of 1 hts (q_good tw_470) rfl rfl rfl (hts _ tw_459) (hts _ tw_471) (by decide +kernel) ⟨by decide, by decide⟩), (hts _ tw_472), (hts _ tw_473)⟩ (by decide) rfl rfl rfl rfl (Nat.le_of_ble_eq_true rfl) d_Md_end_137 ?_
              have hf9 := q_lt_s hf; clear hf; obtain ⟨M29, eM29, hf⟩ := hf9
              refine qj_puti (ty := .int) hx hb hts hin_12 ty_12 tyok_12 nm_12 hown hK (by decide) rfl rfl 13 (by decide) (hts _ tw_454) (fun _ h => h) rfl (by decide +kernel) rfl rfl (Nat.le_of_ble_eq_true rfl) sm_13 eM29 d_Md_end_140 ?_
              refine qj_goto (tgt := 233) hx hb d_Md_end_143 (by decide) ?_
              exact hret _ _ _ d_Md_end_233 (Option.some.inj hf)
        · replace hf := q_if_t hc9 hf
          refine qj_aload_n hx hb d_Md_end_94 rfl 0 rfl ?_
          refine qj_bipush (v := 108) hx hb d_Md_end_95 (by decide) ?_
          refine qj_ldc (v := 1048580) hx hb hown (hts _ tw_521) d_Md_end_97 ?_
          have hf9 := q_bp_s hf; clear hf; obtain ⟨x30, hx30, hf⟩ := hf9
          refine qc_Vi (st := []) hx hb hml hown hts hK qT_ok hs (c_Md_reach 108 1048580 M _ hx30) ⟨(callB_of 2 hts (q_good tw_522) rfl rfl rfl (hts _ tw_459) (hts _ tw_523) (by decide +kernel) ⟨by decide, by decide⟩), (hts _ tw_524), (hts _ tw_525)⟩ (by decide) rfl rfl rfl rfl (Nat.le_of_ble_eq_true rfl) d_Md_end_99 ?_
          refine qj_if_eq (tgt := 233) hx hb d_Md_end_102 (by decide) (fun hc31 => ?_) (fun hc31 => ?_)
          · replace hf := q_if_t hc31 hf
            exact hret _ _ _ d_Md_end_233 (Option.some.inj hf)
          · replace hf := q_if_f hc31 hf
            refine qj_aload_n hx hb d_Md_end_105 rfl 0 rfl ?_
            refine qj_aload_n hx hb d_Md_end_106 rfl 0 rfl ?_
            refine qj_bipush (v := 108) hx hb d_Md_end_107 (by decide) ?_
            have hf9 := q_bp_s hf; clear hf; obtain ⟨x32, hx32, hf⟩ := hf9
            refine qc_Vi (st := [qr (some 0)]) hx hb hml hown hts hK qT_ok hs (c_Md_topmost 108 M _ hx32) ⟨(callB_of 1 hts (q_good tw_470) rfl rfl rfl (hts _ tw_459) (hts _ tw_471) (by decide +kernel) ⟨by decide, by decide⟩), (hts _ tw_472), (hts _ tw_473)⟩ (by decide) rfl rfl rfl rfl (Nat.le_of_ble_eq_true rfl) d_Md_end_109 ?_
            have hf9 := q_lt_s hf; clear hf; obtain ⟨M33, eM33, hf⟩ := hf9
            refine qj_puti (ty := .int) hx hb hts hin_12 ty_12 tyok_12 nm_12 hown hK (by decide) rfl rfl 13 (by decide) (hts _ tw_454) (fun _ h => h) rfl (by decide +kernel) rfl rfl (Nat.le_of_ble_eq_true rfl) sm_13 eM33 d_Md_end_112 ?_
            refine qj_goto (tgt := 233) hx hb d_Md_end_115 (by decide) ?_
            exact hret _ _ _ d_Md_end_233 (Option.some.inj hf)
      · replace hf := q_if_t hc8 hf
        exact hj6  hf
  · replace hf := q_if_t hc1 hf
    refine qj_aload_n hx hb d_Md_end_6 rfl 0 rfl ?_
    refine qj_bipush (v := 112) hx hb d_Md_end_7 (by decide) ?_
    refine qj_iconst (v := 4) hx hb d_Md_end_9 (by decide) ?_
    have hf9 := q_bp_s hf; clear hf; obtain ⟨x34, hx34, hf⟩ := hf9
    refine qc_Vi (st := []) hx hb hml hown hts hK qT_ok hs (c_Md_reach 112 4 M _ hx34) ⟨(callB_of 2 hts (q_good tw_522) rfl rfl rfl (hts _ tw_459) (hts _ tw_523) (by decide +kernel) ⟨by decide, by decide⟩), (hts _ tw_524), (hts _ tw_525)⟩ (by decide) rfl rfl rfl rfl (Nat.le_of_ble_eq_true rfl) d_Md_end_10 ?_
    refine qj_if_eq (tgt := 29) hx hb d_Md_end_13 (by decide) (fun hc35 => ?_) (fun hc35 => ?_)
    · replace hf := q_if_t hc35 hf
      refine qj_aload_n hx hb d_Md_end_29 rfl 0 rfl ?_
      refine qj_aload_n hx hb d_Md_end_30 rfl 0 rfl ?_
      refine qj_get hx hb hts hin_12 hown hK (by decide) rfl rfl 13 (by decide) (hts _ tw_454) (fun _ h => h) (qi (M.1 0 13)) rfl d_Md_end_31 ?_
      have hf9 := q_cv_s hf; clear hf; obtain ⟨M36, hM36, hf⟩ := hf9
      refine qc_Vv (st := []) hx hb hml hown hts hK qT_ok hs (c_Md_findPlace (M.1 0 13) M _ hM36) ⟨(callB_of 1 hts (q_good tw_504) rfl rfl rfl (hts _ tw_459) (hts _ tw_505) (by decide +kernel) ⟨by decide, by decide⟩), (hts _ tw_506), (hts _ tw_507)⟩ (by decide) rfl rfl rfl rfl (Nat.le_of_ble_eq_true rfl) d_Md_end_34 ?_
      refine qj_aload_n hx hb d_Md_end_37 rfl 0 rfl ?_
      refine qj_bipush (v := 112) hx hb d_Md_end_38 (by decide) ?_
      refine qj_iconst (v := 0) hx hb d_Md_end_40 (by decide) ?_
      have hf9 := q_cl_s hf; clear hf; obtain ⟨x37, M38, hx37, hf⟩ := hf9
      refine qc_Vi (st := []) hx hb hml hown hts hK qT_ok hs (c_Md_create 112 0 M36 _ hx37) ⟨(callB_of 2 hts (q_good tw_508) rfl rfl rfl (hts _ tw_459) (hts _ tw_509) (by decide +kernel) ⟨by decide, by decide⟩), (hts _ tw_510), (hts _ tw_511)⟩ (by decide) rfl rfl rfl rfl (Nat.le_of_ble_eq_true rfl) d_Md_end_41 ?_
      refine qj_istore_n hx hb d_Md_end_44 rfl (by decide) rfl ?_
      refine qj_aload_n hx hb d_Md_end_45 rfl 1 rfl ?_
      refine qj_get hx hb hts hin_12 hown hK (by decide) rfl rfl 11 (by decide) (hts _ tw_539) (fun _ h => h) (qr (some 7)) rfl d_Md_end_46 ?_
      refine qj_iconst (v := 0) hx hb d_Md_end_49 (by decide) ?_
      refine qj_iload_n hx hb d_Md_end_50 rfl 0 rfl ?_
      have hf9 := q_ix_s hf; clear hf; obtain ⟨hi39, hf⟩ := hf9
      have hf9 := q_lt_s hf; clear hf; obtain ⟨M40, eM40, hf⟩ := hf9
      refine qj_iast (t0 := 0) hx hb hK (by decide) (fun _ _ => rfl) rfl hi39 eM40 d_Md_end_51 ?_
      refine qj_goto (tgt := 233) hx hb d_Md_end_52 (by decide) ?_
      exact hret _ _ _ d_Md_end_233 (Option.some.inj hf)
    · replace hf := q_if_f hc35 hf
      refine qj_aload_n hx hb d_Md_end_16 rfl 0 rfl ?_
      refine qj_aload_n hx hb d_Md_end_17 rfl 0 rfl ?_
      refine qj_bipush (v := 112) hx hb d_Md_end_18 (by decide) ?_
      have hf9 := q_bp_s hf; clear hf; obtain ⟨x41, hx41, hf⟩ := hf9
      refine qc_Vi (st := [qr (some 0)]) hx hb hml hown hts hK qT_ok hs (c_Md_topmost 112 M _ hx41) ⟨(callB_of 1 hts (q_good tw_470) rfl rfl rfl (hts _ tw_459) (hts _ tw_471) (by decide +kernel) ⟨by decide, by decide⟩), (hts _ tw_472), (hts _ tw_473)⟩ (by decide) rfl rfl rfl rfl (Nat.le_of_ble_eq_true rfl) d_Md_end_20 ?_
      have hf9 := q_lt_s hf; clear hf; obtain ⟨M42, eM42, hf⟩ := hf9
      refine qj_puti (ty := .int) hx hb hts hin_12 ty_12 tyok_12 nm_12 hown hK (by decide) rfl rfl 13 (by decide) (hts _ tw_454) (fun _ h => h) rfl (by decide +kernel) rfl rfl (Nat.le_of_ble_eq_true rfl) sm_13 eM42 d_Md_end_23 ?_
      refine qj_goto (tgt := 233) hx hb d_Md_end_26 (by decide) ?_
      exact hret _ _ _ d_Md_end_233 (Option.some.inj hf)
theorem d_Md_tag_0 : decode prog_14_method_11_code 0 = .ok (.aload_n 0, 1) := by decide +kernel
theorem d_Md_tag_1 : decode prog_14_method_11_code 1 = .ok (.iload_n 1, 1) := by decide +kernel
theorem d_Md_tag_2 : decode prog_14_method_11_code 2 = .ok (.iconst 2, 1) := by decide +kernel
theorem d_Md_tag_3 : decode prog_14_method_11_code 3 = .ok (.iadd, 1) := by decide +kernel
theorem d_Md_tag_4 : decode prog_14_method_11_code 4 = .ok (.invokevirtual 157, 3) := by decide +kernel
theorem d_Md_tag_7 : decode prog_14_method_11_code 7 = .ok (.istore_n 3, 1) := by decide +kernel
theorem d_Md_tag_8 : decode prog_14_method_11_code 8 = .ok (.iload_n 2, 1) := by decide +kernel
theorem d_Md_tag_9 : decode prog_14_method_11_code 9 = .ok (.iconst (-1), 1) := by decide +kernel
theorem d_Md_tag_10 : decode prog_14_method_11_code 10 = .ok (.if_icmp .eq 14, 3) := by decide +kernel
theorem d_Md_tag_13 : decode prog_14_method_11_code 13 = .ok (.iload_n 2, 1) := by decide +kernel
theorem d_Md_tag_14 : decode prog_14_method_11_code 14 = .ok (.bipush 47, 2) := by decide +kernel
theorem d_Md_tag_16 : decode prog_14_method_11_code 16 = .ok (.if_icmp .ne 10, 3) := by decide +kernel
theorem d_Md_tag_19 : decode prog_14_method_11_code 19 = .ok (.iload_n 3, 1) := by decide +kernel
theorem d_Md_tag_20 : decode prog_14_method_11_code 20 = .ok (.iconst (-1), 1) := by decide +kernel
theorem d_Md_tag_21 : decode prog_14_method_11_code 21 = .ok (.if_icmp .ne 5, 3) := by decide +kernel
theorem d_Md_tag_24 : decode prog_14_method_11_code 24 = .ok (.iconst (-1), 1) := by decide +kernel
theorem d_Md_tag_25 : decode prog_14_method_11_code 25 = .ok (.ireturn, 1) := by decide +kernel
theorem d_Md_tag_26 : decode prog_14_method_11_code 26 = .ok (.iload_n 2, 1) := by decide +kernel
theorem d_Md_tag_27 : decode prog_14_method_11_code 27 = .ok (.bipush 47, 2) := by decide +kernel
theorem d_Md_tag_29 : decode prog_14_method_11_code 29 = .ok (.if_icmp .ne 14, 3) := by decide +kernel
theorem d_Md_tag_32 : decode prog_14_method_11_code 32 = .ok (.iload_n 3, 1) := by decide +kernel
theorem d_Md_tag_33 : decode prog_14_method_11_code 33 = .ok (.invokestatic 161, 3) := by decide +kernel
theorem d_Md_tag_36 : decode prog_14_method_11_code 36 = .ok (.ifCond .eq 7, 3) := by decide +kernel
theorem d_Md_tag_39 : decode prog_14_method_11_code 39 = .ok (.iconst 1, 1) := by decide +kernel
theorem d_Md_tag_40 : decode prog_14_method_11_code 40 = .ok (.goto 4, 3) := by decide +kernel
theorem d_Md_tag_43 : decode prog_14_method_11_code 43 = .ok (.iconst 0, 1) := by decide +kernel
theorem d_Md_tag_44 : decode prog_14_method_11_code 44 = .ok (.istore 4, 2) := by decide +kernel
theorem d_Md_tag_46 : decode prog_14_method_11_code 46 = .ok (.aload_n 0, 1) := by decide +kernel
theorem d_Md_tag_47 : decode prog_14_method_11_code 47 = .ok (.iload_n 1, 1) := by decide +kernel
theorem d_Md_tag_48 : decode prog_14_method_11_code 48 = .ok (.iconst 2, 1) := by decide +kernel
theorem d_Md_tag_49 : decode prog_14_method_11_code 49 = .ok (.iadd, 1) := by decide +kernel
theorem d_Md_tag_50 : decode prog_14_method_11_code 50 = .ok (.invokevirtual 176, 3) := by decide +kernel
theorem d_Md_tag_53 : decode prog_14_method_11_code 53 = .ok (.istore 5, 2) := by decide +kernel
theorem d_Md_tag_55 : decode prog_14_method_11_code 55 = .ok (.iload 5, 2) := by decide +kernel
theorem d_Md_tag_57 : decode prog_14_method_11_code 57 = .ok (.ifCond .ge 5, 3) := by decide +kernel
theorem d_Md_tag_60 : decode prog_14_method_11_code 60 = .ok (.iconst (-1), 1) := by decide +kernel
theorem d_Md_tag_61 : decode prog_14_method_11_code 61 = .ok (.ireturn, 1) := by decide +kernel
theorem d_Md_tag_62 : decode prog_14_method_11_code 62 = .ok (.iconst 0, 1) := by decide +kernel
theorem d_Md_tag_63 : decode prog_14_method_11_code 63 = .ok (.istore 6, 2) := by decide +kernel
theorem d_Md_tag_65 : decode prog_14_method_11_code 65 = .ok (.iload_n 1, 1) := by decide +kernel
theorem d_Md_tag_66 : decode prog_14_method_11_code 66 = .ok (.iconst 2, 1) := by decide +kernel
theorem d_Md_tag_67 : decode prog_14_method_11_code 67 = .ok (.iadd, 1) := by decide +kernel
theorem d_Md_tag_68 : decode prog_14_method_11_code 68 = .ok (.istore 7, 2) := by decide +kernel
theorem d_Md_tag_70 : decode prog_14_method_11_code 70 = .ok (.iload 7, 2) := by decide +kernel
theorem d_Md_tag_72 : decode prog_14_method_11_code 72 = .ok (.iload 5, 2) := by decide +kernel
theorem d_Md_tag_74 : decode prog_14_method_11_code 74 = .ok (.if_icmp .ge 39, 3) := by decide +kernel
theorem d_Md_tag_77 : decode prog_14_method_11_code 77 = .ok (.aload_n 0, 1) := by decide +kernel
theorem d_Md_tag_78 : decode prog_14_method_11_code 78 = .ok (.getfield 7, 3) := by decide +kernel
theorem d_Md_tag_81 : decode prog_14_method_11_code 81 = .ok (.iload 7, 2) := by decide +kernel
theorem d_Md_tag_83 : decode prog_14_method_11_code 83 = .ok (.iaload, 1) := by decide +kernel
theorem d_Md_tag_84 : decode prog_14_method_11_code 84 = .ok (.invokestatic 179, 3) := by decide +kernel
theorem d_Md_tag_87 : decode prog_14_method_11_code 87 = .ok (.ifCond .eq 20, 3) := by decide +kernel
theorem d_Md_tag_90 : decode prog_14_method_11_code 90 = .ok (.iload 6, 2) := by decide +kernel
theorem d_Md_tag_92 : decode prog_14_method_11_code 92 = .ok (.iconst 1, 1) := by decide +kernel
theorem d_Md_tag_93 : decode prog_14_method_11_code 93 = .ok (.aload_n 0, 1) := by decide +kernel
theorem d_Md_tag_94 : decode prog_14_method_11_code 94 = .ok (.getfield 7, 3) := by decide +kernel
theorem d_Md_tag_97 : decode prog_14_method_11_code 97 = .ok (.iload 7, 2) := by decide +kernel
theorem d_Md_tag_99 : decode prog_14_method_11_code 99 = .ok (.iaload, 1) := by decide +kernel
theorem d_Md_tag_100 : decode prog_14_method_11_code 100 = .ok (.bipush 65, 2) := by decide +kernel
theorem d_Md_tag_102 : decode prog_14_method_11_code 102 = .ok (.isub, 1) := by decide +kernel
theorem d_Md_tag_103 : decode prog_14_method_11_code 103 = .ok (.ishl, 1) := by decide +kernel
theorem d_Md_tag_104 : decode prog_14_method_11_code 104 = .ok (.ior, 1) := by decide +kernel
theorem d_Md_tag_105 : decode prog_14_method_11_code 105 = .ok (.istore 6, 2) := by decide +kernel
theorem d_Md_tag_107 : decode prog_14_method_11_code 107 = .ok (.iinc 7 1, 3) := by decide +kernel
theorem d_Md_tag_110 : decode prog_14_method_11_code 110 = .ok (.goto (-40), 3) := by decide +kernel
theorem d_Md_tag_113 : decode prog_14_method_11_code 113 = .ok (.iload_n 2, 1) := by decide +kernel
theorem d_Md_tag_114 : decode prog_14_method_11_code 114 = .ok (.invokestatic 161, 3) := by decide +kernel
theorem d_Md_tag_117 : decode prog_14_method_11_code 117 = .ok (.ifCond .eq 13, 3) := by decide +kernel
theorem d_Md_tag_120 : decode prog_14_method_11_code 120 = .ok (.aload_n 0, 1) := by decide +kernel
theorem d_Md_tag_121 : decode prog_14_method_11_code 121 = .ok (.iload_n 2, 1) := by decide +kernel
theorem d_Md_tag_122 : decode prog_14_method_11_code 122 = .ok (.iload 6, 2) := by decide +kernel
theorem d_Md_tag_124 : decode prog_14_method_11_code 124 = .ok (.invokevirtual 182, 3) := by decide +kernel
theorem d_Md_tag_127 : decode prog_14_method_11_code 127 = .ok (.goto 13, 3) := by decide +kernel
theorem d_Md_tag_130 : decode prog_14_method_11_code 130 = .ok (.iload 4, 2) := by decide +kernel
theorem d_Md_tag_132 : decode prog_14_method_11_code 132 = .ok (.ifCond .eq 8, 3) := by decide +kernel
theorem d_Md_tag_135 : decode prog_14_method_11_code 135 = .ok (.aload_n 0, 1) := by decide +kernel
theorem d_Md_tag_136 : decode prog_14_method_11_code 136 = .ok (.iload_n 3, 1) := by decide +kernel
theorem d_Md_tag_137 : decode prog_14_method_11_code 137 = .ok (.invokevirtual 186, 3) := by decide +kernel
theorem d_Md_tag_140 : decode prog_14_method_11_code 140 = .ok (.iload 5, 2) := by decide +kernel
theorem d_Md_tag_142 : decode prog_14_method_11_code 142 = .ok (.iconst 1, 1) := by decide +kernel
theorem d_Md_tag_143 : decode prog_14_method_11_code 143 = .ok (.iadd, 1) := by decide +kernel
theorem d_Md_tag_144 : decode prog_14_method_11_code 144 = .ok (.ireturn, 1) := by decide +kernel
def f_Md_tag_70 (x4 : Int32) (M : qM) : Nat → (Int32 → Option (Int32 × qM)) → Int32 → Int32 → Option (Int32 × qM)
  | 0, _, _, _ => none
  | n + 1, K8, x6, x7 => if x4 ≤ x7 then (K8 x6) else (q_ix x7 160 <| q_bp (f_Md_capital (M.1 1 x7.toNatClampNeg) M) fun x11 => if x11 = 0 then (f_Md_tag_70 x4 M n K8 x6 (x7 + 1)) else (q_ix x7 160 <| q_lt (x6 ||| (1 <<< (((M.1 1 x7.toNatClampNeg) - 65) &&& 31))) fun x14 => f_Md_tag_70 x4 M n K8 x14 (x7 + 1)))
def f_Md_tag (a1 : Int32) (a2 : Int32) (M : qM) : Option (Int32 × qM) := q_bp (f_Md_peek (a1 + 2) M) fun x1 => if a2 = (-1) then (some ((-1), M)) else (q_lt (q_lt (fun (x3 : Int32) => q_bp (f_Md_closed (a1 + 2) M) fun x4 => if 0 ≤ x4 then (f_Md_tag_70 x4 M 1000 (fun (x15 : Int32) => q_bp (f_Md_small a2 M) fun x16 => if x16 = 0 then (if x3 = 0 then (some (x4 + 1, M)) else (q_cv (f_Md_end x1 M) fun M19 => some (x4 + 1, M19))) else (q_cv (f_Md_start a2 x15 M) fun M20 => some (x4 + 1, M20))) 0 (a1 + 2)) else (some ((-1), M))) fun (j21 : Int32 → Option (Int32 × qM)) => q_lt (j21 0) fun (j22 : Option (Int32 × qM)) => if a2 = 47 then (q_bp (f_Md_small x1 M) fun x24 => if x24 = 0 then (j22) else (j21 1)) else (j22)) fun (j26 : Option (Int32 × qM)) => if a2 = 47 then (if x1 = (-1) then (some ((-1), M)) else (j26)) else (j26))
abbrev rm_Md_tag : Room := { frames := 7, cells := 0, slots := 0, locals := 162 }
set_option maxRecDepth 100000 in
set_option maxHeartbeats 4000000 in
theorem c_Md_tag {l : Launch} {D : va_G} {dA : Nat → ClassId} {b : Nat} (a1 : Int32) (a2 : Int32)  (M : qM) (out : Int32 × qM) (hf : f_Md_tag a1 a2 M = some out) : CTi l y_Md_tag w_Md_tag rm_Md_tag D (tysX dA) (enM dA b) 38 b (fun _ => True) [qr (some 0), qi a1, qi a2] M out := by
  refine qm_i (cc := prog_14_method_11_code) (nL := 8) (by decide) rfl (Nat.le_of_ble_eq_true rfl) ?_
  intro p e s m args below meth c Q hx hb hts0 hown hml hK hs hret
  have hts : ∀ w ∈ lw_g, w.before args s = true := fun w h => hts0 w (List.mem_cons_of_mem _ h)
  show QJ p l e rm_Md_tag s m args below meth c (qA 38 b) b 8 0 0 Q (qWd D (enM dA b) 38 b) M 0 [(0, qr (some 0)), (1, qi a1), (2, qi a2)] []
  unfold f_Md_tag at hf
  refine qj_aload_n hx hb d_Md_tag_0 rfl 0 rfl ?_
  refine qj_iload_n hx hb d_Md_tag_1 rfl 1 rfl ?_
  refine qj_iconst (v := 2) hx hb d_Md_tag_2 (by decide) ?_
  refine qj_iadd hx hb d_Md_tag_3 ?_
  have hf9 := q_bp_s hf; clear hf; obtain ⟨x1, hx1, hf⟩ := hf9
  refine qc_Vi (st := []) hx hb hml hown hts hK qT_ok hs (c_Md_peek (a1 + 2) M _ hx1) ⟨(callB_of 1 hts (q_good tw_549) rfl rfl rfl (hts _ tw_459) (hts _ tw_550) (by decide +kernel) ⟨by decide, by decide⟩), (hts _ tw_551), (hts _ tw_552)⟩ (by decide) rfl rfl rfl rfl (Nat.le_of_ble_eq_true rfl) d_Md_tag_4 ?_
  refine qj_istore_n hx hb d_Md_tag_7 rfl (by decide) rfl ?_
  refine qj_iload_n hx hb d_Md_tag_8 rfl 3 rfl ?_
  refine qj_iconst (v := (-1)) hx hb d_Md_tag_9 (by decide) ?_
  refine qj_icmp_eq (tgt := 24) hx hb d_Md_tag_10 (by decide) (fun hc2 => ?_) (fun hc2 => ?_)
  · replace hf := q_if_t hc2 hf
    refine qj_iconst (v := (-1)) hx hb d_Md_tag_24 (by decide) ?_
    exact hret _ _ _ _ d_Md_tag_25 (Option.some.inj hf)
  · replace hf := q_if_f hc2 hf
    refine qj_iload_n hx hb d_Md_tag_13 rfl 3 rfl ?_
    refine qj_bipush (v := 47) hx hb d_Md_tag_14 (by decide) ?_
    have hf9 := q_lt_s hf; clear hf; obtain ⟨j26, ej26, hf⟩ := hf9
    have hj26 : j26 = some out → QJ p l e rm_Md_tag s m args below meth c (qA 38 b) b 8 0 0 Q (qWd D (enM dA b) 38 b) M 26 [(0, qr (some 0)), (1, qi a1), (2, qi a2), (3, qi x1)] [] := by
      clear hf
      intro hf
      rw [ej26] at hf
      refine qj_iload_n hx hb d_Md_tag_26 rfl 2 rfl ?_
      refine qj_bipush (v := 47) hx hb d_Md_tag_27 (by decide) ?_
      have hf9 := q_lt_s hf; clear hf; obtain ⟨j21, ej21, hf⟩ := hf9
      have hj21 : ∀ (x3 : Int32), j21 x3 = some out → QJ p l e rm_Md_tag s m args below meth c (qA 38 b) b 8 0 0 Q (qWd D (enM dA b) 38 b) M 44 [(0, qr (some 0)), (1, qi a1), (2, qi a2), (3, qi x1)] [qi x3] := by
        clear hf
        intro x3 hf
        rw [ej21] at hf
        refine qj_istore hx hb d_Md_tag_44 (by decide) rfl ?_
        refine qj_aload_n hx hb d_Md_tag_46 rfl 1 rfl ?_
        refine qj_iload_n hx hb d_Md_tag_47 rfl 2 rfl ?_
        refine qj_iconst (v := 2) hx hb d_Md_tag_48 (by decide) ?_
        refine qj_iadd hx hb d_Md_tag_49 ?_
        have hf9 := q_bp_s hf; clear hf; obtain ⟨x4, hx4, hf⟩ := hf9
        refine qc_Vi (st := []) hx hb hml hown hts hK qT_ok hs (c_Md_closed (a1 + 2) M _ hx4) ⟨(callB_of 1 hts (q_good tw_553) rfl rfl rfl (hts _ tw_459) (hts _ tw_554) (by decide +kernel) ⟨by decide, by decide⟩), (hts _ tw_555), (hts _ tw_556)⟩ (by decide) rfl rfl rfl rfl (Nat.le_of_ble_eq_true rfl) d_Md_tag_50 ?_
        refine qj_istore hx hb d_Md_tag_53 (by decide) rfl ?_
        refine qj_iload hx hb d_Md_tag_55 0 rfl ?_
        refine qj_if_ge (tgt := 62) hx hb d_Md_tag_57 (by decide) (fun hc5 => ?_) (fun hc5 => ?_)
        · replace hf := q_if_t hc5 hf
          refine qj_iconst (v := 0) hx hb d_Md_tag_62 (by decide) ?_
          refine qj_istore hx hb d_Md_tag_63 (by decide) rfl ?_
          refine qj_iload_n hx hb d_Md_tag_65 rfl 4 rfl ?_
          refine qj_iconst (v := 2) hx hb d_Md_tag_66 (by decide) ?_
          refine qj_iadd hx hb d_Md_tag_67 ?_
          refine qj_istore hx hb d_Md_tag_68 (by decide) rfl ?_
          have hL70 : ∀ (n : Nat) (K8 : Int32 → Option (Int32 × qM)), (∀ (x15 : Int32), K8 x15 = some out → QJ p l e rm_Md_tag s m args below meth c (qA 38 b) b 8 0 0 Q (qWd D (enM dA b) 38 b) M 113 [(0, qr (some 0)), (2, qi a2), (3, qi x1), (4, qi x3), (5, qi x4), (6, qi x15)] []) → ∀ (x6 : Int32) (x7 : Int32), f_Md_tag_70 x4 M n K8 x6 x7 = some out → QJ p l e rm_Md_tag s m args below meth c (qA 38 b) b 8 0 0 Q (qWd D (enM dA b) 38 b) M 70 [(0, qr (some 0)), (2, qi a2), (3, qi x1), (4, qi x3), (5, qi x4), (6, qi x6), (7, qi x7)] [] := by
            clear hf
            intro n
            induction n with
            | zero =>
              intro K8 hK8 x6 x7 hf
              exact absurd hf (by simp [f_Md_tag_70])
            | succ n ih70 =>
              intro K8 hK8 x6 x7 hf
              rw [f_Md_tag_70] at hf
              have ih70 := ih70 K8 hK8
              refine qj_iload hx hb d_Md_tag_70 6 rfl ?_
              refine qj_iload hx hb d_Md_tag_72 4 rfl ?_
              refine qj_icmp_ge (tgt := 113) hx hb d_Md_tag_74 (by decide) (fun hc9 => ?_) (fun hc9 => ?_)
              · replace hf := q_if_t hc9 hf
                refine qj_sub [0, 1, 2, 3, 4, 5] rfl ?_
                exact hK8 x6 hf
              · replace hf := q_if_f hc9 hf
                refine qj_aload_n hx hb d_Md_tag_77 rfl 0 rfl ?_
                refine qj_get hx hb hts hin_12 hown hK (by decide) rfl rfl 1 (by decide) (hts _ tw_458) (fun _ h => h) (qr (some 1)) rfl d_Md_tag_78 ?_
                refine qj_iload hx hb d_Md_tag_81 6 rfl ?_
                have hf9 := q_ix_s hf; clear hf; obtain ⟨hi10, hf⟩ := hf9
                refine qj_iald (t0 := 0) hx hb hK (by decide) (fun _ _ => rfl) rfl hi10 d_Md_tag_83 ?_
                have hf9 := q_bp_s hf; clear hf; obtain ⟨x11, hx11, hf⟩ := hf9
                refine qc_Si (st := []) hx hb hml hown hts hK qT_ok hs (c_Md_capital (M.1 1 x7.toNatClampNeg) M _ hx11) ⟨(callB_of 1 hts (q_good tw_557) rfl rfl rfl (hts _ tw_459) (hts _ tw_558) (by decide +kernel) ⟨by decide, by decide⟩), (hts _ tw_559)⟩ rfl rfl (Nat.le_of_ble_eq_true rfl) d_Md_tag_84 ?_
                refine qj_if_eq (tgt := 107) hx hb d_Md_tag_87 (by decide) (fun hc12 => ?_) (fun hc12 => ?_)
                · replace hf := q_if_t hc12 hf
                  refine qj_iinc (j := 6) (v := x7 + 1) hx hb d_Md_tag_107 rfl rfl (by decide) rfl ?_
                  refine qj_goto (tgt := 70) hx hb d_Md_tag_110 (by decide) ?_
                  refine qj_sub [1, 2, 3, 4, 5, 6, 0] rfl ?_
                  exact ih70 x6 (x7 + 1) hf
                · replace hf := q_if_f hc12 hf
                  refine qj_iload hx hb d_Md_tag_90 5 rfl ?_
                  refine qj_iconst (v := 1) hx hb d_Md_tag_92 (by decide) ?_
                  refine qj_aload_n hx hb d_Md_tag_93 rfl 0 rfl ?_
                  refine qj_get hx hb hts hin_12 hown hK (by decide) rfl rfl 1 (by decide) (hts _ tw_458) (fun _ h => h) (qr (some 1)) rfl d_Md_tag_94 ?_
                  refine qj_iload hx hb d_Md_tag_97 6 rfl ?_
                  have hf9 := q_ix_s hf; clear hf; obtain ⟨hi13, hf⟩ := hf9
                  refine qj_iald (t0 := 0) hx hb hK (by decide) (fun _ _ => rfl) rfl hi13 d_Md_tag_99 ?_
                  refine qj_bipush (v := 65) hx hb d_Md_tag_100 (by decide) ?_
                  refine qj_isub hx hb d_Md_tag_102 ?_
                  refine qj_ishl hx hb d_Md_tag_103 ?_
                  refine qj_ior hx hb d_Md_tag_104 ?_
                  have hf9 := q_lt_s hf; clear hf; obtain ⟨x14, ex14, hf⟩ := hf9
                  rw [← ex14]
                  refine qj_istore hx hb d_Md_tag_105 (by decide) rfl ?_
                  refine qj_iinc (j := 6) (v := x7 + 1) hx hb d_Md_tag_107 rfl rfl (by decide) rfl ?_
                  refine qj_goto (tgt := 70) hx hb d_Md_tag_110 (by decide) ?_
                  refine qj_sub [2, 3, 4, 5, 6, 1, 0] rfl ?_
                  exact ih70 x14 (x7 + 1) hf
          refine qj_sub [4, 6, 7, 3, 2, 1, 0] rfl ?_
          refine hL70 _ _ (fun x15 hf9 => ?_) 0 (a1 + 2) hf
          clear hf; have hf := hf9; clear hf9
          refine qj_iload_n hx hb d_Md_tag_113 rfl 1 rfl ?_
          have hf9 := q_bp_s hf; clear hf; obtain ⟨x16, hx16, hf⟩ := hf9
          refine qc_Si (st := []) hx hb hml hown hts hK qT_ok hs (c_Md_small a2 M _ hx16) ⟨(callB_of 1 hts (q_good tw_460) rfl rfl rfl (hts _ tw_459) (hts _ tw_461) (by decide +kernel) ⟨by decide, by decide⟩), (hts _ tw_462)⟩ rfl rfl (Nat.le_of_ble_eq_true rfl) d_Md_tag_114 ?_
          refine qj_if_eq (tgt := 130) hx hb d_Md_tag_117 (by decide) (fun hc17 => ?_) (fun hc17 => ?_)
          · replace hf := q_if_t hc17 hf
            refine qj_iload hx hb d_Md_tag_130 3 rfl ?_
            refine qj_if_eq (tgt := 140) hx hb d_Md_tag_132 (by decide) (fun hc18 => ?_) (fun hc18 => ?_)
            · replace hf := q_if_t hc18 hf
              refine qj_iload hx hb d_Md_tag_140 4 rfl ?_
              refine qj_iconst (v := 1) hx hb d_Md_tag_142 (by decide) ?_
              refine qj_iadd hx hb d_Md_tag_143 ?_
              exact hret _ _ _ _ d_Md_tag_144 (Option.some.inj hf)
            · replace hf := q_if_f hc18 hf
              refine qj_aload_n hx hb d_Md_tag_135 rfl 0 rfl ?_
              refine qj_iload_n hx hb d_Md_tag_136 rfl 2 rfl ?_
              have hf9 := q_cv_s hf; clear hf; obtain ⟨M19, hM19, hf⟩ := hf9
              refine qc_Vv (st := []) hx hb hml hown hts hK qT_ok hs (c_Md_end x1 M _ hM19) ⟨(callB_of 1 hts (q_good tw_560) rfl rfl rfl (hts _ tw_459) (hts _ tw_561) (by decide +kernel) ⟨by decide, by decide⟩), (hts _ tw_562), (hts _ tw_563)⟩ (by decide) rfl rfl rfl rfl (Nat.le_of_ble_eq_true rfl) d_Md_tag_137 ?_
              refine qj_iload hx hb d_Md_tag_140 4 rfl ?_
              refine qj_iconst (v := 1) hx hb d_Md_tag_142 (by decide) ?_
              refine qj_iadd hx hb d_Md_tag_143 ?_
              exact hret _ _ _ _ d_Md_tag_144 (Option.some.inj hf)
          · replace hf := q_if_f hc17 hf
            refine qj_aload_n hx hb d_Md_tag_120 rfl 0 rfl ?_
            refine qj_iload_n hx hb d_Md_tag_121 rfl 1 rfl ?_
            refine qj_iload hx hb d_Md_tag_122 5 rfl ?_
            have hf9 := q_cv_s hf; clear hf; obtain ⟨M20, hM20, hf⟩ := hf9
            refine qc_Vv (st := []) hx hb hml hown hts hK qT_ok hs (c_Md_start a2 x15 M _ hM20) ⟨(callB_of 2 hts (q_good tw_564) rfl rfl rfl (hts _ tw_459) (hts _ tw_565) (by decide +kernel) ⟨by decide, by decide⟩), (hts _ tw_566), (hts _ tw_567)⟩ (by decide) rfl rfl rfl rfl (Nat.le_of_ble_eq_true rfl) d_Md_tag_124 ?_
            refine qj_goto (tgt := 140) hx hb d_Md_tag_127 (by decide) ?_
            refine qj_iload hx hb d_Md_tag_140 4 rfl ?_
            refine qj_iconst (v := 1) hx hb d_Md_tag_142 (by decide) ?_
            refine qj_iadd hx hb d_Md_tag_143 ?_
            exact hret _ _ _ _ d_Md_tag_144 (Option.some.inj hf)
        · replace hf := q_if_f hc5 hf
          refine qj_iconst (v := (-1)) hx hb d_Md_tag_60 (by decide) ?_
          exact hret _ _ _ _ d_Md_tag_61 (Option.some.inj hf)
      have hf9 := q_lt_s hf; clear hf; obtain ⟨j22, ej22, hf⟩ := hf9
      have hj22 : j22 = some out → QJ p l e rm_Md_tag s m args below meth c (qA 38 b) b 8 0 0 Q (qWd D (enM dA b) 38 b) M 43 [(0, qr (some 0)), (1, qi a1), (2, qi a2), (3, qi x1)] [] := by
        clear hf
        intro hf
        rw [ej22] at hf
        refine qj_iconst (v := 0) hx hb d_Md_tag_43 (by decide) ?_
        exact hj21 0 hf
      refine qj_icmp_ne (tgt := 43) hx hb d_Md_tag_29 (by decide) (fun hc23 => ?_) (fun hc23 => ?_)
      · replace hf := q_if_f hc23 hf
        exact hj22  hf
      · replace hf := q_if_t hc23 hf
        refine qj_iload_n hx hb d_Md_tag_32 rfl 3 rfl ?_
        have hf9 := q_bp_s hf; clear hf; obtain ⟨x24, hx24, hf⟩ := hf9
        refine qc_Si (st := []) hx hb hml hown hts hK qT_ok hs (c_Md_small x1 M _ hx24) ⟨(callB_of 1 hts (q_good tw_460) rfl rfl rfl (hts _ tw_459) (hts _ tw_461) (by decide +kernel) ⟨by decide, by decide⟩), (hts _ tw_462)⟩ rfl rfl (Nat.le_of_ble_eq_true rfl) d_Md_tag_33 ?_
        refine qj_if_eq (tgt := 43) hx hb d_Md_tag_36 (by decide) (fun hc25 => ?_) (fun hc25 => ?_)
        · replace hf := q_if_t hc25 hf
          exact hj22  hf
        · replace hf := q_if_f hc25 hf
          refine qj_iconst (v := 1) hx hb d_Md_tag_39 (by decide) ?_
          refine qj_goto (tgt := 44) hx hb d_Md_tag_40 (by decide) ?_
          exact hj21 1 hf
    refine qj_icmp_ne (tgt := 26) hx hb d_Md_tag_16 (by decide) (fun hc27 => ?_) (fun hc27 => ?_)
    · replace hf := q_if_f hc27 hf
      refine qj_sub [1, 2, 3, 0] rfl ?_
      exact hj26  hf
    · replace hf := q_if_t hc27 hf
      refine qj_iload_n hx hb d_Md_tag_19 rfl 0 rfl ?_
      refine qj_iconst (v := (-1)) hx hb d_Md_tag_20 (by decide) ?_
      refine qj_icmp_ne (tgt := 26) hx hb d_Md_tag_21 (by decide) (fun hc28 => ?_) (fun hc28 => ?_)
      · replace hf := q_if_f hc28 hf
        refine qj_sub [1, 2, 3, 0] rfl ?_
        exact hj26  hf
      · replace hf := q_if_t hc28 hf
        refine qj_iconst (v := (-1)) hx hb d_Md_tag_24 (by decide) ?_
        exact hret _ _ _ _ d_Md_tag_25 (Option.some.inj hf)
