theorem d_Md_widths_0 : decode prog_14_method_59_code 0 = .ok (.aload_n 0, 1) := by decide +kernel
theorem d_Md_widths_1 : decode prog_14_method_59_code 1 = .ok (.getfield 19, 3) := by decide +kernel
theorem d_Md_widths_4 : decode prog_14_method_59_code 4 = .ok (.aload_n 0, 1) := by decide +kernel
theorem d_Md_widths_5 : decode prog_14_method_59_code 5 = .ok (.getfield 16, 3) := by decide +kernel
theorem d_Md_widths_8 : decode prog_14_method_59_code 8 = .ok (.iload_n 1, 1) := by decide +kernel
theorem d_Md_widths_9 : decode prog_14_method_59_code 9 = .ok (.iaload, 1) := by decide +kernel
theorem d_Md_widths_10 : decode prog_14_method_59_code 10 = .ok (.iaload, 1) := by decide +kernel
theorem d_Md_widths_11 : decode prog_14_method_59_code 11 = .ok (.iconst 1, 1) := by decide +kernel
theorem d_Md_widths_12 : decode prog_14_method_59_code 12 = .ok (.if_icmp .eq 7, 3) := by decide +kernel
theorem d_Md_widths_15 : decode prog_14_method_59_code 15 = .ok (.iconst 1, 1) := by decide +kernel
theorem d_Md_widths_16 : decode prog_14_method_59_code 16 = .ok (.goto 4, 3) := by decide +kernel
theorem d_Md_widths_19 : decode prog_14_method_59_code 19 = .ok (.iconst 0, 1) := by decide +kernel
theorem d_Md_widths_20 : decode prog_14_method_59_code 20 = .ok (.istore_n 3, 1) := by decide +kernel
theorem d_Md_widths_21 : decode prog_14_method_59_code 21 = .ok (.aload_n 0, 1) := by decide +kernel
theorem d_Md_widths_22 : decode prog_14_method_59_code 22 = .ok (.getfield 86, 3) := by decide +kernel
theorem d_Md_widths_25 : decode prog_14_method_59_code 25 = .ok (.iload_n 1, 1) := by decide +kernel
theorem d_Md_widths_26 : decode prog_14_method_59_code 26 = .ok (.iload_n 1, 1) := by decide +kernel
theorem d_Md_widths_27 : decode prog_14_method_59_code 27 = .ok (.ifCond .le 39, 3) := by decide +kernel
theorem d_Md_widths_30 : decode prog_14_method_59_code 30 = .ok (.aload_n 0, 1) := by decide +kernel
theorem d_Md_widths_31 : decode prog_14_method_59_code 31 = .ok (.getfield 86, 3) := by decide +kernel
theorem d_Md_widths_34 : decode prog_14_method_59_code 34 = .ok (.aload_n 0, 1) := by decide +kernel
theorem d_Md_widths_35 : decode prog_14_method_59_code 35 = .ok (.getfield 74, 3) := by decide +kernel
theorem d_Md_widths_38 : decode prog_14_method_59_code 38 = .ok (.iload_n 1, 1) := by decide +kernel
theorem d_Md_widths_39 : decode prog_14_method_59_code 39 = .ok (.iaload, 1) := by decide +kernel
theorem d_Md_widths_40 : decode prog_14_method_59_code 40 = .ok (.baload, 1) := by decide +kernel
theorem d_Md_widths_41 : decode prog_14_method_59_code 41 = .ok (.ifCond .ne 21, 3) := by decide +kernel
theorem d_Md_widths_44 : decode prog_14_method_59_code 44 = .ok (.iload_n 3, 1) := by decide +kernel
theorem d_Md_widths_45 : decode prog_14_method_59_code 45 = .ok (.ifCond .eq 21, 3) := by decide +kernel
theorem d_Md_widths_48 : decode prog_14_method_59_code 48 = .ok (.aload_n 0, 1) := by decide +kernel
theorem d_Md_widths_49 : decode prog_14_method_59_code 49 = .ok (.getfield 83, 3) := by decide +kernel
theorem d_Md_widths_52 : decode prog_14_method_59_code 52 = .ok (.bipush 120, 2) := by decide +kernel
theorem d_Md_widths_54 : decode prog_14_method_59_code 54 = .ok (.iload_n 1, 1) := by decide +kernel
theorem d_Md_widths_55 : decode prog_14_method_59_code 55 = .ok (.iadd, 1) := by decide +kernel
theorem d_Md_widths_56 : decode prog_14_method_59_code 56 = .ok (.iaload, 1) := by decide +kernel
theorem d_Md_widths_57 : decode prog_14_method_59_code 57 = .ok (.bipush 110, 2) := by decide +kernel
theorem d_Md_widths_59 : decode prog_14_method_59_code 59 = .ok (.if_icmp .ne 7, 3) := by decide +kernel
theorem d_Md_widths_62 : decode prog_14_method_59_code 62 = .ok (.iconst 1, 1) := by decide +kernel
theorem d_Md_widths_63 : decode prog_14_method_59_code 63 = .ok (.goto 4, 3) := by decide +kernel
theorem d_Md_widths_66 : decode prog_14_method_59_code 66 = .ok (.iconst 0, 1) := by decide +kernel
theorem d_Md_widths_67 : decode prog_14_method_59_code 67 = .ok (.bastore, 1) := by decide +kernel
theorem d_Md_widths_68 : decode prog_14_method_59_code 68 = .ok (.aload_n 0, 1) := by decide +kernel
theorem d_Md_widths_69 : decode prog_14_method_59_code 69 = .ok (.getfield 89, 3) := by decide +kernel
theorem d_Md_widths_72 : decode prog_14_method_59_code 72 = .ok (.iload_n 1, 1) := by decide +kernel
theorem d_Md_widths_73 : decode prog_14_method_59_code 73 = .ok (.iload_n 3, 1) := by decide +kernel
theorem d_Md_widths_74 : decode prog_14_method_59_code 74 = .ok (.ifCond .eq 30, 3) := by decide +kernel
theorem d_Md_widths_77 : decode prog_14_method_59_code 77 = .ok (.aload_n 0, 1) := by decide +kernel
theorem d_Md_widths_78 : decode prog_14_method_59_code 78 = .ok (.getfield 86, 3) := by decide +kernel
theorem d_Md_widths_81 : decode prog_14_method_59_code 81 = .ok (.iload_n 1, 1) := by decide +kernel
theorem d_Md_widths_82 : decode prog_14_method_59_code 82 = .ok (.baload, 1) := by decide +kernel
theorem d_Md_widths_83 : decode prog_14_method_59_code 83 = .ok (.ifCond .ne 21, 3) := by decide +kernel
theorem d_Md_widths_86 : decode prog_14_method_59_code 86 = .ok (.aload_n 0, 1) := by decide +kernel
theorem d_Md_widths_87 : decode prog_14_method_59_code 87 = .ok (.getfield 83, 3) := by decide +kernel
theorem d_Md_widths_90 : decode prog_14_method_59_code 90 = .ok (.bipush 120, 2) := by decide +kernel
theorem d_Md_widths_92 : decode prog_14_method_59_code 92 = .ok (.iload_n 1, 1) := by decide +kernel
theorem d_Md_widths_93 : decode prog_14_method_59_code 93 = .ok (.iadd, 1) := by decide +kernel
theorem d_Md_widths_94 : decode prog_14_method_59_code 94 = .ok (.iaload, 1) := by decide +kernel
theorem d_Md_widths_95 : decode prog_14_method_59_code 95 = .ok (.bipush 98, 2) := by decide +kernel
theorem d_Md_widths_97 : decode prog_14_method_59_code 97 = .ok (.if_icmp .ne 7, 3) := by decide +kernel
theorem d_Md_widths_100 : decode prog_14_method_59_code 100 = .ok (.iconst 1, 1) := by decide +kernel
theorem d_Md_widths_101 : decode prog_14_method_59_code 101 = .ok (.goto 4, 3) := by decide +kernel
theorem d_Md_widths_104 : decode prog_14_method_59_code 104 = .ok (.iconst 0, 1) := by decide +kernel
theorem d_Md_widths_105 : decode prog_14_method_59_code 105 = .ok (.bastore, 1) := by decide +kernel
theorem d_Md_widths_106 : decode prog_14_method_59_code 106 = .ok (.aload_n 0, 1) := by decide +kernel
theorem d_Md_widths_107 : decode prog_14_method_59_code 107 = .ok (.getfield 92, 3) := by decide +kernel
theorem d_Md_widths_110 : decode prog_14_method_59_code 110 = .ok (.iload_n 1, 1) := by decide +kernel
theorem d_Md_widths_111 : decode prog_14_method_59_code 111 = .ok (.iload_n 1, 1) := by decide +kernel
theorem d_Md_widths_112 : decode prog_14_method_59_code 112 = .ok (.ifCond .ne 7, 3) := by decide +kernel
theorem d_Md_widths_115 : decode prog_14_method_59_code 115 = .ok (.iconst (-1), 1) := by decide +kernel
theorem d_Md_widths_116 : decode prog_14_method_59_code 116 = .ok (.goto 37, 3) := by decide +kernel
theorem d_Md_widths_119 : decode prog_14_method_59_code 119 = .ok (.aload_n 0, 1) := by decide +kernel
theorem d_Md_widths_120 : decode prog_14_method_59_code 120 = .ok (.getfield 89, 3) := by decide +kernel
theorem d_Md_widths_123 : decode prog_14_method_59_code 123 = .ok (.aload_n 0, 1) := by decide +kernel
theorem d_Md_widths_124 : decode prog_14_method_59_code 124 = .ok (.getfield 74, 3) := by decide +kernel
theorem d_Md_widths_127 : decode prog_14_method_59_code 127 = .ok (.iload_n 1, 1) := by decide +kernel
theorem d_Md_widths_128 : decode prog_14_method_59_code 128 = .ok (.iaload, 1) := by decide +kernel
theorem d_Md_widths_129 : decode prog_14_method_59_code 129 = .ok (.baload, 1) := by decide +kernel
theorem d_Md_widths_130 : decode prog_14_method_59_code 130 = .ok (.ifCond .eq 12, 3) := by decide +kernel
theorem d_Md_widths_133 : decode prog_14_method_59_code 133 = .ok (.aload_n 0, 1) := by decide +kernel
theorem d_Md_widths_134 : decode prog_14_method_59_code 134 = .ok (.getfield 74, 3) := by decide +kernel
theorem d_Md_widths_137 : decode prog_14_method_59_code 137 = .ok (.iload_n 1, 1) := by decide +kernel
theorem d_Md_widths_138 : decode prog_14_method_59_code 138 = .ok (.iaload, 1) := by decide +kernel
theorem d_Md_widths_139 : decode prog_14_method_59_code 139 = .ok (.goto 14, 3) := by decide +kernel
theorem d_Md_widths_142 : decode prog_14_method_59_code 142 = .ok (.aload_n 0, 1) := by decide +kernel
theorem d_Md_widths_143 : decode prog_14_method_59_code 143 = .ok (.getfield 92, 3) := by decide +kernel
theorem d_Md_widths_146 : decode prog_14_method_59_code 146 = .ok (.aload_n 0, 1) := by decide +kernel
theorem d_Md_widths_147 : decode prog_14_method_59_code 147 = .ok (.getfield 74, 3) := by decide +kernel
theorem d_Md_widths_150 : decode prog_14_method_59_code 150 = .ok (.iload_n 1, 1) := by decide +kernel
theorem d_Md_widths_151 : decode prog_14_method_59_code 151 = .ok (.iaload, 1) := by decide +kernel
theorem d_Md_widths_152 : decode prog_14_method_59_code 152 = .ok (.iaload, 1) := by decide +kernel
theorem d_Md_widths_153 : decode prog_14_method_59_code 153 = .ok (.iastore, 1) := by decide +kernel
theorem d_Md_widths_154 : decode prog_14_method_59_code 154 = .ok (.iload_n 1, 1) := by decide +kernel
theorem d_Md_widths_155 : decode prog_14_method_59_code 155 = .ok (.ifCond .ne 20, 3) := by decide +kernel
theorem d_Md_widths_158 : decode prog_14_method_59_code 158 = .ok (.aload_n 0, 1) := by decide +kernel
theorem d_Md_widths_159 : decode prog_14_method_59_code 159 = .ok (.getfield 95, 3) := by decide +kernel
theorem d_Md_widths_162 : decode prog_14_method_59_code 162 = .ok (.iconst 0, 1) := by decide +kernel
theorem d_Md_widths_163 : decode prog_14_method_59_code 163 = .ok (.iconst 0, 1) := by decide +kernel
theorem d_Md_widths_164 : decode prog_14_method_59_code 164 = .ok (.iastore, 1) := by decide +kernel
theorem d_Md_widths_165 : decode prog_14_method_59_code 165 = .ok (.aload_n 0, 1) := by decide +kernel
theorem d_Md_widths_166 : decode prog_14_method_59_code 166 = .ok (.getfield 98, 3) := by decide +kernel
theorem d_Md_widths_169 : decode prog_14_method_59_code 169 = .ok (.iconst 0, 1) := by decide +kernel
theorem d_Md_widths_170 : decode prog_14_method_59_code 170 = .ok (.iload_n 2, 1) := by decide +kernel
theorem d_Md_widths_171 : decode prog_14_method_59_code 171 = .ok (.iastore, 1) := by decide +kernel
theorem d_Md_widths_172 : decode prog_14_method_59_code 172 = .ok (.goto 224, 3) := by decide +kernel
theorem d_Md_widths_175 : decode prog_14_method_59_code 175 = .ok (.aload_n 0, 1) := by decide +kernel
theorem d_Md_widths_176 : decode prog_14_method_59_code 176 = .ok (.getfield 89, 3) := by decide +kernel
theorem d_Md_widths_179 : decode prog_14_method_59_code 179 = .ok (.iload_n 1, 1) := by decide +kernel
theorem d_Md_widths_180 : decode prog_14_method_59_code 180 = .ok (.baload, 1) := by decide +kernel
theorem d_Md_widths_181 : decode prog_14_method_59_code 181 = .ok (.ifCond .eq 215, 3) := by decide +kernel
theorem d_Md_widths_184 : decode prog_14_method_59_code 184 = .ok (.aload_n 0, 1) := by decide +kernel
theorem d_Md_widths_185 : decode prog_14_method_59_code 185 = .ok (.getfield 92, 3) := by decide +kernel
theorem d_Md_widths_188 : decode prog_14_method_59_code 188 = .ok (.iload_n 1, 1) := by decide +kernel
theorem d_Md_widths_189 : decode prog_14_method_59_code 189 = .ok (.iaload, 1) := by decide +kernel
theorem d_Md_widths_190 : decode prog_14_method_59_code 190 = .ok (.istore 4, 2) := by decide +kernel
theorem d_Md_widths_192 : decode prog_14_method_59_code 192 = .ok (.aload_n 0, 1) := by decide +kernel
theorem d_Md_widths_193 : decode prog_14_method_59_code 193 = .ok (.getfield 95, 3) := by decide +kernel
theorem d_Md_widths_196 : decode prog_14_method_59_code 196 = .ok (.iload 4, 2) := by decide +kernel
theorem d_Md_widths_198 : decode prog_14_method_59_code 198 = .ok (.iaload, 1) := by decide +kernel
theorem d_Md_widths_199 : decode prog_14_method_59_code 199 = .ok (.aload_n 0, 1) := by decide +kernel
theorem d_Md_widths_200 : decode prog_14_method_59_code 200 = .ok (.iload 4, 2) := by decide +kernel
theorem d_Md_widths_202 : decode prog_14_method_59_code 202 = .ok (.iconst 5, 1) := by decide +kernel
theorem d_Md_widths_203 : decode prog_14_method_59_code 203 = .ok (.invokevirtual 325, 3) := by decide +kernel
theorem d_Md_widths_206 : decode prog_14_method_59_code 206 = .ok (.iadd, 1) := by decide +kernel
theorem d_Md_widths_207 : decode prog_14_method_59_code 207 = .ok (.istore 5, 2) := by decide +kernel
theorem d_Md_widths_209 : decode prog_14_method_59_code 209 = .ok (.aload_n 0, 1) := by decide +kernel
theorem d_Md_widths_210 : decode prog_14_method_59_code 210 = .ok (.getfield 98, 3) := by decide +kernel
theorem d_Md_widths_213 : decode prog_14_method_59_code 213 = .ok (.iload 4, 2) := by decide +kernel
theorem d_Md_widths_215 : decode prog_14_method_59_code 215 = .ok (.iaload, 1) := by decide +kernel
theorem d_Md_widths_216 : decode prog_14_method_59_code 216 = .ok (.istore 6, 2) := by decide +kernel
theorem d_Md_widths_218 : decode prog_14_method_59_code 218 = .ok (.aload_n 0, 1) := by decide +kernel
theorem d_Md_widths_219 : decode prog_14_method_59_code 219 = .ok (.getfield 19, 3) := by decide +kernel
theorem d_Md_widths_222 : decode prog_14_method_59_code 222 = .ok (.aload_n 0, 1) := by decide +kernel
theorem d_Md_widths_223 : decode prog_14_method_59_code 223 = .ok (.getfield 16, 3) := by decide +kernel
theorem d_Md_widths_226 : decode prog_14_method_59_code 226 = .ok (.iload 4, 2) := by decide +kernel
theorem d_Md_widths_228 : decode prog_14_method_59_code 228 = .ok (.iaload, 1) := by decide +kernel
theorem d_Md_widths_229 : decode prog_14_method_59_code 229 = .ok (.iaload, 1) := by decide +kernel
theorem d_Md_widths_230 : decode prog_14_method_59_code 230 = .ok (.bipush 114, 2) := by decide +kernel
theorem d_Md_widths_232 : decode prog_14_method_59_code 232 = .ok (.if_icmp .ne 79, 3) := by decide +kernel
theorem d_Md_widths_235 : decode prog_14_method_59_code 235 = .ok (.iconst 0, 1) := by decide +kernel
theorem d_Md_widths_236 : decode prog_14_method_59_code 236 = .ok (.istore 7, 2) := by decide +kernel
theorem d_Md_widths_238 : decode prog_14_method_59_code 238 = .ok (.iconst 0, 1) := by decide +kernel
theorem d_Md_widths_239 : decode prog_14_method_59_code 239 = .ok (.istore 8, 2) := by decide +kernel
theorem d_Md_widths_241 : decode prog_14_method_59_code 241 = .ok (.iload 4, 2) := by decide +kernel
theorem d_Md_widths_243 : decode prog_14_method_59_code 243 = .ok (.iconst 1, 1) := by decide +kernel
theorem d_Md_widths_244 : decode prog_14_method_59_code 244 = .ok (.iadd, 1) := by decide +kernel
theorem d_Md_widths_245 : decode prog_14_method_59_code 245 = .ok (.istore 9, 2) := by decide +kernel
theorem d_Md_widths_247 : decode prog_14_method_59_code 247 = .ok (.iload 9, 2) := by decide +kernel
theorem d_Md_widths_249 : decode prog_14_method_59_code 249 = .ok (.aload_n 0, 1) := by decide +kernel
theorem d_Md_widths_250 : decode prog_14_method_59_code 250 = .ok (.iload 4, 2) := by decide +kernel
theorem d_Md_widths_252 : decode prog_14_method_59_code 252 = .ok (.invokevirtual 205, 3) := by decide +kernel
theorem d_Md_widths_255 : decode prog_14_method_59_code 255 = .ok (.if_icmp .ge 39, 3) := by decide +kernel
theorem d_Md_widths_258 : decode prog_14_method_59_code 258 = .ok (.aload_n 0, 1) := by decide +kernel
theorem d_Md_widths_259 : decode prog_14_method_59_code 259 = .ok (.iload 9, 2) := by decide +kernel
theorem d_Md_widths_261 : decode prog_14_method_59_code 261 = .ok (.iload 4, 2) := by decide +kernel
theorem d_Md_widths_263 : decode prog_14_method_59_code 263 = .ok (.invokevirtual 328, 3) := by decide +kernel
theorem d_Md_widths_266 : decode prog_14_method_59_code 266 = .ok (.ifCond .eq 22, 3) := by decide +kernel
theorem d_Md_widths_269 : decode prog_14_method_59_code 269 = .ok (.iinc 7 1, 3) := by decide +kernel
theorem d_Md_widths_272 : decode prog_14_method_59_code 272 = .ok (.iload 8, 2) := by decide +kernel
theorem d_Md_widths_274 : decode prog_14_method_59_code 274 = .ok (.iload 9, 2) := by decide +kernel
theorem d_Md_widths_276 : decode prog_14_method_59_code 276 = .ok (.iload_n 1, 1) := by decide +kernel
theorem d_Md_widths_277 : decode prog_14_method_59_code 277 = .ok (.if_icmp .ge 7, 3) := by decide +kernel
theorem d_Md_widths_280 : decode prog_14_method_59_code 280 = .ok (.iconst 1, 1) := by decide +kernel
theorem d_Md_widths_281 : decode prog_14_method_59_code 281 = .ok (.goto 4, 3) := by decide +kernel
theorem d_Md_widths_284 : decode prog_14_method_59_code 284 = .ok (.iconst 0, 1) := by decide +kernel
theorem d_Md_widths_285 : decode prog_14_method_59_code 285 = .ok (.iadd, 1) := by decide +kernel
theorem d_Md_widths_286 : decode prog_14_method_59_code 286 = .ok (.istore 8, 2) := by decide +kernel
theorem d_Md_widths_288 : decode prog_14_method_59_code 288 = .ok (.iinc 9 1, 3) := by decide +kernel
theorem d_Md_widths_291 : decode prog_14_method_59_code 291 = .ok (.goto (-44), 3) := by decide +kernel
theorem d_Md_widths_294 : decode prog_14_method_59_code 294 = .ok (.iload 6, 2) := by decide +kernel
theorem d_Md_widths_296 : decode prog_14_method_59_code 296 = .ok (.iload 7, 2) := by decide +kernel
theorem d_Md_widths_298 : decode prog_14_method_59_code 298 = .ok (.idiv, 1) := by decide +kernel
theorem d_Md_widths_299 : decode prog_14_method_59_code 299 = .ok (.istore 6, 2) := by decide +kernel
theorem d_Md_widths_301 : decode prog_14_method_59_code 301 = .ok (.iload 5, 2) := by decide +kernel
theorem d_Md_widths_303 : decode prog_14_method_59_code 303 = .ok (.iload 8, 2) := by decide +kernel
theorem d_Md_widths_305 : decode prog_14_method_59_code 305 = .ok (.iload 6, 2) := by decide +kernel
theorem d_Md_widths_307 : decode prog_14_method_59_code 307 = .ok (.imul, 1) := by decide +kernel
theorem d_Md_widths_308 : decode prog_14_method_59_code 308 = .ok (.iadd, 1) := by decide +kernel
theorem d_Md_widths_309 : decode prog_14_method_59_code 309 = .ok (.istore 5, 2) := by decide +kernel
theorem d_Md_widths_311 : decode prog_14_method_59_code 311 = .ok (.aload_n 0, 1) := by decide +kernel
theorem d_Md_widths_312 : decode prog_14_method_59_code 312 = .ok (.getfield 83, 3) := by decide +kernel
theorem d_Md_widths_315 : decode prog_14_method_59_code 315 = .ok (.sipush 160, 3) := by decide +kernel
theorem d_Md_widths_318 : decode prog_14_method_59_code 318 = .ok (.iload_n 1, 1) := by decide +kernel
theorem d_Md_widths_319 : decode prog_14_method_59_code 319 = .ok (.iadd, 1) := by decide +kernel
theorem d_Md_widths_320 : decode prog_14_method_59_code 320 = .ok (.iaload, 1) := by decide +kernel
theorem d_Md_widths_321 : decode prog_14_method_59_code 321 = .ok (.istore 7, 2) := by decide +kernel
theorem d_Md_widths_323 : decode prog_14_method_59_code 323 = .ok (.aload_n 0, 1) := by decide +kernel
theorem d_Md_widths_324 : decode prog_14_method_59_code 324 = .ok (.getfield 83, 3) := by decide +kernel
theorem d_Md_widths_327 : decode prog_14_method_59_code 327 = .ok (.sipush 240, 3) := by decide +kernel
theorem d_Md_widths_330 : decode prog_14_method_59_code 330 = .ok (.iload_n 1, 1) := by decide +kernel
theorem d_Md_widths_331 : decode prog_14_method_59_code 331 = .ok (.iadd, 1) := by decide +kernel
theorem d_Md_widths_332 : decode prog_14_method_59_code 332 = .ok (.iaload, 1) := by decide +kernel
theorem d_Md_widths_333 : decode prog_14_method_59_code 333 = .ok (.istore 8, 2) := by decide +kernel
theorem d_Md_widths_335 : decode prog_14_method_59_code 335 = .ok (.iload 6, 2) := by decide +kernel
theorem d_Md_widths_337 : decode prog_14_method_59_code 337 = .ok (.iconst 2, 1) := by decide +kernel
theorem d_Md_widths_338 : decode prog_14_method_59_code 338 = .ok (.iload 7, 2) := by decide +kernel
theorem d_Md_widths_340 : decode prog_14_method_59_code 340 = .ok (.imul, 1) := by decide +kernel
theorem d_Md_widths_341 : decode prog_14_method_59_code 341 = .ok (.isub, 1) := by decide +kernel
theorem d_Md_widths_342 : decode prog_14_method_59_code 342 = .ok (.iconst 2, 1) := by decide +kernel
theorem d_Md_widths_343 : decode prog_14_method_59_code 343 = .ok (.aload_n 0, 1) := by decide +kernel
theorem d_Md_widths_344 : decode prog_14_method_59_code 344 = .ok (.getfield 83, 3) := by decide +kernel
theorem d_Md_widths_347 : decode prog_14_method_59_code 347 = .ok (.sipush 200, 3) := by decide +kernel
theorem d_Md_widths_350 : decode prog_14_method_59_code 350 = .ok (.iload_n 1, 1) := by decide +kernel
theorem d_Md_widths_351 : decode prog_14_method_59_code 351 = .ok (.iadd, 1) := by decide +kernel
theorem d_Md_widths_352 : decode prog_14_method_59_code 352 = .ok (.iaload, 1) := by decide +kernel
theorem d_Md_widths_353 : decode prog_14_method_59_code 353 = .ok (.imul, 1) := by decide +kernel
theorem d_Md_widths_354 : decode prog_14_method_59_code 354 = .ok (.isub, 1) := by decide +kernel
theorem d_Md_widths_355 : decode prog_14_method_59_code 355 = .ok (.istore 9, 2) := by decide +kernel
theorem d_Md_widths_357 : decode prog_14_method_59_code 357 = .ok (.aload_n 0, 1) := by decide +kernel
theorem d_Md_widths_358 : decode prog_14_method_59_code 358 = .ok (.getfield 95, 3) := by decide +kernel
theorem d_Md_widths_361 : decode prog_14_method_59_code 361 = .ok (.iload_n 1, 1) := by decide +kernel
theorem d_Md_widths_362 : decode prog_14_method_59_code 362 = .ok (.iload 5, 2) := by decide +kernel
theorem d_Md_widths_364 : decode prog_14_method_59_code 364 = .ok (.iload 7, 2) := by decide +kernel
theorem d_Md_widths_366 : decode prog_14_method_59_code 366 = .ok (.iadd, 1) := by decide +kernel
theorem d_Md_widths_367 : decode prog_14_method_59_code 367 = .ok (.iastore, 1) := by decide +kernel
theorem d_Md_widths_368 : decode prog_14_method_59_code 368 = .ok (.aload_n 0, 1) := by decide +kernel
theorem d_Md_widths_369 : decode prog_14_method_59_code 369 = .ok (.getfield 98, 3) := by decide +kernel
theorem d_Md_widths_372 : decode prog_14_method_59_code 372 = .ok (.iload_n 1, 1) := by decide +kernel
theorem d_Md_widths_373 : decode prog_14_method_59_code 373 = .ok (.iload 8, 2) := by decide +kernel
theorem d_Md_widths_375 : decode prog_14_method_59_code 375 = .ok (.iconst (-1), 1) := by decide +kernel
theorem d_Md_widths_376 : decode prog_14_method_59_code 376 = .ok (.if_icmp .eq 8, 3) := by decide +kernel
theorem d_Md_widths_379 : decode prog_14_method_59_code 379 = .ok (.iload 8, 2) := by decide +kernel
theorem d_Md_widths_381 : decode prog_14_method_59_code 381 = .ok (.goto 14, 3) := by decide +kernel
theorem d_Md_widths_384 : decode prog_14_method_59_code 384 = .ok (.iload 9, 2) := by decide +kernel
theorem d_Md_widths_386 : decode prog_14_method_59_code 386 = .ok (.ifCond .ge 7, 3) := by decide +kernel
theorem d_Md_widths_389 : decode prog_14_method_59_code 389 = .ok (.iconst 0, 1) := by decide +kernel
theorem d_Md_widths_390 : decode prog_14_method_59_code 390 = .ok (.goto 5, 3) := by decide +kernel
theorem d_Md_widths_393 : decode prog_14_method_59_code 393 = .ok (.iload 9, 2) := by decide +kernel
theorem d_Md_widths_395 : decode prog_14_method_59_code 395 = .ok (.iastore, 1) := by decide +kernel
theorem d_Md_widths_396 : decode prog_14_method_59_code 396 = .ok (.return_, 1) := by decide +kernel
def f_Md_widths_247 (x19 : Int32) (M14 : qM) (a1 : Int32) : Nat → (Int32 → Int32 → Option qM) → Int32 → Int32 → Int32 → Option qM
  | 0, _, _, _, _ => none
  | n + 1, K48, x45, x46, x47 => q_bp (f_Md_behind x19 M14) fun x49 => if x49 ≤ x47 then (K48 x45 x46) else (q_bp (f_Md_within x47 x19 M14) fun x51 => if x51 = 0 then (f_Md_widths_247 x19 M14 a1 n K48 x45 x46 (x47 + 1)) else (if a1 ≤ x47 then (f_Md_widths_247 x19 M14 a1 n K48 (x45 + 1) (x46 + 0) (x47 + 1)) else (f_Md_widths_247 x19 M14 a1 n K48 (x45 + 1) (x46 + 1) (x47 + 1))))
def f_Md_widths (a1 : Int32) (a2 : Int32) (M : qM) : Option qM := q_ix a1 40 <| q_ix (M.1 3 a1.toNatClampNeg) 40 <| q_lt (fun (x3 : Int32) => q_lt (fun (x4 : Int32) => q_ix a1 40 <| q_zk x4 <| q_lt (qsI M 26 a1.toNatClampNeg x4) fun M7 => q_lt (fun (x8 : Int32) => q_ix a1 40 <| q_zk x8 <| q_lt (qsI M7 27 a1.toNatClampNeg x8) fun M11 => q_lt (fun (x12 : Int32) => q_ix a1 40 <| q_lt (qsI M11 28 a1.toNatClampNeg x12) fun M14 => if a1 = 0 then (q_ix (0 : Int32) 40 <| q_lt (qsI M14 29 (0 : Int32).toNatClampNeg 0) fun M59 => q_ix (0 : Int32) 40 <| q_lt (qsI M59 30 (0 : Int32).toNatClampNeg a2) fun M61 => some M61) else (q_ix a1 40 <| if (M14.1 27 a1.toNatClampNeg) = 0 then (some M14) else (q_ix a1 40 <| q_lt (M14.1 28 a1.toNatClampNeg) fun x19 => q_ix x19 40 <| q_bp (f_Md_border x19 5 M14) fun x21 => q_lt ((M14.1 29 x19.toNatClampNeg) + x21) fun x22 => q_ix x19 40 <| q_lt (M14.1 30 x19.toNatClampNeg) fun x24 => q_ix x19 40 <| q_ix (M14.1 3 x19.toNatClampNeg) 40 <| q_lt (fun (x27 : Int32) (x28 : Int32) => q_ix (160 + a1) 280 <| q_lt (M14.1 25 (160 + a1).toNatClampNeg) fun x30 => q_ix (240 + a1) 280 <| q_lt (M14.1 25 (240 + a1).toNatClampNeg) fun x32 => q_ix (200 + a1) 280 <| q_lt ((x28 - (2 * x30)) - (2 * (M14.1 25 (200 + a1).toNatClampNeg))) fun x34 => q_ix a1 40 <| q_lt (qsI M14 29 a1.toNatClampNeg (x27 + x30)) fun M36 => q_lt (fun (x37 : Int32) => q_ix a1 40 <| q_lt (qsI M36 30 a1.toNatClampNeg x37) fun M39 => some M39) fun (j40 : Int32 → Option qM) => if x32 = (-1) then (if 0 ≤ x34 then (j40 x34) else (j40 0)) else (j40 x32)) fun (j43 : Int32 → Int32 → Option qM) => if (M14.1 4 (M14.1 3 x19.toNatClampNeg).toNatClampNeg) = 114 then (f_Md_widths_247 x19 M14 a1 1000 (fun (x54 : Int32) (x55 : Int32) => q_dk x54 <| q_lt (x22 + (x55 * (x24 / x54))) fun x57 => j43 x57 (x24 / x54)) 0 0 (x19 + 1)) else (j43 x22 x24)))) fun (j62 : Int32 → Option qM) => if a1 = 0 then (j62 (-1)) else (q_ix a1 40 <| q_ix (M11.1 22 a1.toNatClampNeg) 40 <| if (M11.1 27 (M11.1 22 a1.toNatClampNeg).toNatClampNeg) = 0 then (q_ix a1 40 <| q_ix (M11.1 22 a1.toNatClampNeg) 40 <| j62 (M11.1 28 (M11.1 22 a1.toNatClampNeg).toNatClampNeg)) else (q_ix a1 40 <| j62 (M11.1 22 a1.toNatClampNeg)))) fun (j70 : Int32 → Option qM) => q_lt (j70 0) fun (j71 : Option qM) => if x3 = 0 then (j71) else (q_ix a1 40 <| if (M7.1 26 a1.toNatClampNeg) = 0 then (q_ix (120 + a1) 280 <| if (M7.1 25 (120 + a1).toNatClampNeg) = 98 then (j70 1) else (j71)) else (j71))) fun (j77 : Int32 → Option qM) => q_lt (j77 0) fun (j78 : Option qM) => if a1 ≤ 0 then (j78) else (q_ix a1 40 <| q_ix (M.1 22 a1.toNatClampNeg) 40 <| if (M.1 26 (M.1 22 a1.toNatClampNeg).toNatClampNeg) = 0 then (if x3 = 0 then (j78) else (q_ix (120 + a1) 280 <| if (M.1 25 (120 + a1).toNatClampNeg) = 110 then (j77 1) else (j78))) else (j77 1))) fun (j86 : Int32 → Option qM) => if (M.1 4 (M.1 3 a1.toNatClampNeg).toNatClampNeg) = 1 then (j86 0) else (j86 1)
abbrev rm_Md_widths : Room := { frames := 1, cells := 0, slots := 0, locals := 25 }
set_option maxRecDepth 100000 in
set_option maxHeartbeats 4000000 in
theorem c_Md_widths {l : Launch} {D : va_G} {dA : Nat → ClassId} {b : Nat} (a1 : Int32) (a2 : Int32)  (M : qM) (out : qM) (hf : f_Md_widths a1 a2 M = some out) : CTv l y_Md_widths w_Md_widths rm_Md_widths D (tysX dA) (enM dA b) 38 b (fun _ => True) [qr (some 0), qi a1, qi a2] M out := by
  refine qm_v (cc := prog_14_method_59_code) (nL := 10) (by decide) rfl (Nat.le_of_ble_eq_true rfl) ?_
  intro p e s m args below meth c Q hx hb hts0 hown hml hK hs hret
  have hts : ∀ w ∈ lw_g, w.before args s = true := fun w h => hts0 w (List.mem_cons_of_mem _ h)
  show QJ p l e rm_Md_widths s m args below meth c (qA 38 b) b 10 0 0 Q (qWd D (enM dA b) 38 b) M 0 [(0, qr (some 0)), (1, qi a1), (2, qi a2)] []
  unfold f_Md_widths at hf
  refine qj_aload_n hx hb d_Md_widths_0 rfl 0 rfl ?_
  refine qj_get hx hb hts hin_12 hown hK (by decide) rfl rfl 8 (by decide) (hts _ tw_450) (fun _ h => h) (qr (some 4)) rfl d_Md_widths_1 ?_
  refine qj_aload_n hx hb d_Md_widths_4 rfl 0 rfl ?_
  refine qj_get hx hb hts hin_12 hown hK (by decide) rfl rfl 6 (by decide) (hts _ tw_448) (fun _ h => h) (qr (some 3)) rfl d_Md_widths_5 ?_
  refine qj_iload_n hx hb d_Md_widths_8 rfl 1 rfl ?_
  have hf9 := q_ix_s hf; clear hf; obtain ⟨hi1, hf⟩ := hf9
  refine qj_iald (t0 := 0) hx hb hK (by decide) (fun _ _ => rfl) rfl hi1 d_Md_widths_9 ?_
  have hf9 := q_ix_s hf; clear hf; obtain ⟨hi2, hf⟩ := hf9
  refine qj_iald (t0 := 0) hx hb hK (by decide) (fun _ _ => rfl) rfl hi2 d_Md_widths_10 ?_
  refine qj_iconst (v := 1) hx hb d_Md_widths_11 (by decide) ?_
  have hf9 := q_lt_s hf; clear hf; obtain ⟨j86, ej86, hf⟩ := hf9
  have hj86 : ∀ (x3 : Int32), j86 x3 = some out → QJ p l e rm_Md_widths s m args below meth c (qA 38 b) b 10 0 0 Q (qWd D (enM dA b) 38 b) M 20 [(0, qr (some 0)), (1, qi a1), (2, qi a2)] [qi x3] := by
    clear hf
    intro x3 hf
    rw [ej86] at hf
    refine qj_istore_n hx hb d_Md_widths_20 rfl (by decide) rfl ?_
    refine qj_aload_n hx hb d_Md_widths_21 rfl 1 rfl ?_
    refine qj_get hx hb hts hin_12 hown hK (by decide) rfl rfl 40 (by decide) (hts _ tw_664) (fun _ h => h) (qr (some 26)) rfl d_Md_widths_22 ?_
    refine qj_iload_n hx hb d_Md_widths_25 rfl 2 rfl ?_
    refine qj_iload_n hx hb d_Md_widths_26 rfl 2 rfl ?_
    have hf9 := q_lt_s hf; clear hf; obtain ⟨j77, ej77, hf⟩ := hf9
    have hj77 : ∀ (x4 : Int32), j77 x4 = some out → QJ p l e rm_Md_widths s m args below meth c (qA 38 b) b 10 0 0 Q (qWd D (enM dA b) 38 b) M 67 [(0, qr (some 0)), (1, qi a1), (2, qi a2), (3, qi x3)] [qi x4, qi a1, qr (some 26)] := by
      clear hf
      intro x4 hf
      rw [ej77] at hf
      have hf9 := q_ix_s hf; clear hf; obtain ⟨hi5, hf⟩ := hf9
      have hf9 := q_zk_s hf; clear hf; obtain ⟨hz6, hf⟩ := hf9
      have hf9 := q_lt_s hf; clear hf; obtain ⟨M7, eM7, hf⟩ := hf9
      refine qj_zast (t0 := 2) hx hb hK (by decide) (fun _ _ => rfl) rfl hi5 hz6 eM7 d_Md_widths_67 ?_
      refine qj_aload_n hx hb d_Md_widths_68 rfl 0 rfl ?_
      refine qj_get hx hb hts hin_12 hown hK (by decide) rfl rfl 41 (by decide) (hts _ tw_665) (fun _ h => h) (qr (some 27)) rfl d_Md_widths_69 ?_
      refine qj_iload_n hx hb d_Md_widths_72 rfl 1 rfl ?_
      refine qj_iload_n hx hb d_Md_widths_73 rfl 3 rfl ?_
      have hf9 := q_lt_s hf; clear hf; obtain ⟨j70, ej70, hf⟩ := hf9
      have hj70 : ∀ (x8 : Int32), j70 x8 = some out → QJ p l e rm_Md_widths s m args below meth c (qA 38 b) b 10 0 0 Q (qWd D (enM dA b) 38 b) M7 105 [(0, qr (some 0)), (1, qi a1), (2, qi a2)] [qi x8, qi a1, qr (some 27)] := by
        clear hf
        intro x8 hf
        rw [ej70] at hf
        have hf9 := q_ix_s hf; clear hf; obtain ⟨hi9, hf⟩ := hf9
        have hf9 := q_zk_s hf; clear hf; obtain ⟨hz10, hf⟩ := hf9
        have hf9 := q_lt_s hf; clear hf; obtain ⟨M11, eM11, hf⟩ := hf9
        refine qj_zast (t0 := 2) hx hb hK (by decide) (fun _ _ => rfl) rfl hi9 hz10 eM11 d_Md_widths_105 ?_
        refine qj_aload_n hx hb d_Md_widths_106 rfl 0 rfl ?_
        refine qj_get hx hb hts hin_12 hown hK (by decide) rfl rfl 42 (by decide) (hts _ tw_666) (fun _ h => h) (qr (some 28)) rfl d_Md_widths_107 ?_
        refine qj_iload_n hx hb d_Md_widths_110 rfl 1 rfl ?_
        refine qj_iload_n hx hb d_Md_widths_111 rfl 1 rfl ?_
        have hf9 := q_lt_s hf; clear hf; obtain ⟨j62, ej62, hf⟩ := hf9
        have hj62 : ∀ (x12 : Int32), j62 x12 = some out → QJ p l e rm_Md_widths s m args below meth c (qA 38 b) b 10 0 0 Q (qWd D (enM dA b) 38 b) M11 153 [(0, qr (some 0)), (1, qi a1), (2, qi a2)] [qi x12, qi a1, qr (some 28)] := by
          clear hf
          intro x12 hf
          rw [ej62] at hf
          have hf9 := q_ix_s hf; clear hf; obtain ⟨hi13, hf⟩ := hf9
          have hf9 := q_lt_s hf; clear hf; obtain ⟨M14, eM14, hf⟩ := hf9
          refine qj_iast (t0 := 0) hx hb hK (by decide) (fun _ _ => rfl) rfl hi13 eM14 d_Md_widths_153 ?_
          refine qj_iload_n hx hb d_Md_widths_154 rfl 1 rfl ?_
          refine qj_if_ne (tgt := 175) hx hb d_Md_widths_155 (by decide) (fun hc15 => ?_) (fun hc15 => ?_)
          · replace hf := q_if_f hc15 hf
            refine qj_aload_n hx hb d_Md_widths_175 rfl 0 rfl ?_
            refine qj_get hx hb hts hin_12 hown hK (by decide) rfl rfl 41 (by decide) (hts _ tw_665) (fun _ h => h) (qr (some 27)) rfl d_Md_widths_176 ?_
            refine qj_iload_n hx hb d_Md_widths_179 rfl 1 rfl ?_
            have hf9 := q_ix_s hf; clear hf; obtain ⟨hi16, hf⟩ := hf9
            refine qj_zald (t0 := 2) hx hb hK (by decide) (fun _ _ => rfl) rfl hi16 d_Md_widths_180 ?_
            refine qj_if_eq (tgt := 396) hx hb d_Md_widths_181 (by decide) (fun hc17 => ?_) (fun hc17 => ?_)
            · replace hf := q_if_t hc17 hf
              exact hret _ _ _ d_Md_widths_396 (Option.some.inj hf)
            · replace hf := q_if_f hc17 hf
              refine qj_aload_n hx hb d_Md_widths_184 rfl 0 rfl ?_
              refine qj_get hx hb hts hin_12 hown hK (by decide) rfl rfl 42 (by decide) (hts _ tw_666) (fun _ h => h) (qr (some 28)) rfl d_Md_widths_185 ?_
              refine qj_iload_n hx hb d_Md_widths_188 rfl 1 rfl ?_
              have hf9 := q_ix_s hf; clear hf; obtain ⟨hi18, hf⟩ := hf9
              refine qj_iald (t0 := 0) hx hb hK (by decide) (fun _ _ => rfl) rfl hi18 d_Md_widths_189 ?_
              have hf9 := q_lt_s hf; clear hf; obtain ⟨x19, ex19, hf⟩ := hf9
              rw [← ex19]
              refine qj_istore hx hb d_Md_widths_190 (by decide) rfl ?_
              refine qj_aload_n hx hb d_Md_widths_192 rfl 1 rfl ?_
              refine qj_get hx hb hts hin_12 hown hK (by decide) rfl rfl 43 (by decide) (hts _ tw_667) (fun _ h => h) (qr (some 29)) rfl d_Md_widths_193 ?_
              refine qj_iload hx hb d_Md_widths_196 0 rfl ?_
              have hf9 := q_ix_s hf; clear hf; obtain ⟨hi20, hf⟩ := hf9
              refine qj_iald (t0 := 0) hx hb hK (by decide) (fun _ _ => rfl) rfl hi20 d_Md_widths_198 ?_
              refine qj_aload_n hx hb d_Md_widths_199 rfl 1 rfl ?_
              refine qj_iload hx hb d_Md_widths_200 0 rfl ?_
              refine qj_iconst (v := 5) hx hb d_Md_widths_202 (by decide) ?_
              have hf9 := q_bp_s hf; clear hf; obtain ⟨x21, hx21, hf⟩ := hf9
              refine qc_Vi (st := [qi (M14.1 29 x19.toNatClampNeg)]) hx hb hml hown hts hK qT_ok hs (c_Md_border x19 5 M14 _ hx21) ⟨(callB_of 2 hts (q_good tw_668) rfl rfl rfl (hts _ tw_459) (hts _ tw_669) (by decide +kernel) ⟨by decide, by decide⟩), (hts _ tw_670), (hts _ tw_671)⟩ (by decide) rfl rfl rfl rfl (Nat.le_of_ble_eq_true rfl) d_Md_widths_203 ?_
              refine qj_iadd hx hb d_Md_widths_206 ?_
              have hf9 := q_lt_s hf; clear hf; obtain ⟨x22, ex22, hf⟩ := hf9
              rw [← ex22]
              refine qj_istore hx hb d_Md_widths_207 (by decide) rfl ?_
              refine qj_aload_n hx hb d_Md_widths_209 rfl 2 rfl ?_
              refine qj_get hx hb hts hin_12 hown hK (by decide) rfl rfl 44 (by decide) (hts _ tw_672) (fun _ h => h) (qr (some 30)) rfl d_Md_widths_210 ?_
              refine qj_iload hx hb d_Md_widths_213 1 rfl ?_
              have hf9 := q_ix_s hf; clear hf; obtain ⟨hi23, hf⟩ := hf9
              refine qj_iald (t0 := 0) hx hb hK (by decide) (fun _ _ => rfl) rfl hi23 d_Md_widths_215 ?_
              have hf9 := q_lt_s hf; clear hf; obtain ⟨x24, ex24, hf⟩ := hf9
              rw [← ex24]
              refine qj_istore hx hb d_Md_widths_216 (by decide) rfl ?_
              refine qj_aload_n hx hb d_Md_widths_218 rfl 3 rfl ?_
              refine qj_get hx hb hts hin_12 hown hK (by decide) rfl rfl 8 (by decide) (hts _ tw_450) (fun _ h => h) (qr (some 4)) rfl d_Md_widths_219 ?_
              refine qj_aload_n hx hb d_Md_widths_222 rfl 3 rfl ?_
              refine qj_get hx hb hts hin_12 hown hK (by decide) rfl rfl 6 (by decide) (hts _ tw_448) (fun _ h => h) (qr (some 3)) rfl d_Md_widths_223 ?_
              refine qj_iload hx hb d_Md_widths_226 2 rfl ?_
              have hf9 := q_ix_s hf; clear hf; obtain ⟨hi25, hf⟩ := hf9
              refine qj_iald (t0 := 0) hx hb hK (by decide) (fun _ _ => rfl) rfl hi25 d_Md_widths_228 ?_
              have hf9 := q_ix_s hf; clear hf; obtain ⟨hi26, hf⟩ := hf9
              refine qj_iald (t0 := 0) hx hb hK (by decide) (fun _ _ => rfl) rfl hi26 d_Md_widths_229 ?_
              refine qj_bipush (v := 114) hx hb d_Md_widths_230 (by decide) ?_
              have hf9 := q_lt_s hf; clear hf; obtain ⟨j43, ej43, hf⟩ := hf9
              have hj43 : ∀ (x27 : Int32) (x28 : Int32), j43 x27 x28 = some out → QJ p l e rm_Md_widths s m args below meth c (qA 38 b) b 10 0 0 Q (qWd D (enM dA b) 38 b) M14 311 [(0, qr (some 0)), (1, qi a1), (5, qi x27), (6, qi x28)] [] := by
                clear hf
                intro x27 x28 hf
                rw [ej43] at hf
                refine qj_aload_n hx hb d_Md_widths_311 rfl 0 rfl ?_
                refine qj_get hx hb hts hin_12 hown hK (by decide) rfl rfl 36 (by decide) (hts _ tw_642) (fun _ h => h) (qr (some 25)) rfl d_Md_widths_312 ?_
                refine qj_sipush (v := 160) hx hb d_Md_widths_315 (by decide) ?_
                refine qj_iload_n hx hb d_Md_widths_318 rfl 1 rfl ?_
                refine qj_iadd hx hb d_Md_widths_319 ?_
                have hf9 := q_ix_s hf; clear hf; obtain ⟨hi29, hf⟩ := hf9
                refine qj_iald (t0 := 0) hx hb hK (by decide) (fun _ _ => rfl) rfl hi29 d_Md_widths_320 ?_
                have hf9 := q_lt_s hf; clear hf; obtain ⟨x30, ex30, hf⟩ := hf9
                rw [← ex30]
                refine qj_istore hx hb d_Md_widths_321 (by decide) rfl ?_
                refine qj_aload_n hx hb d_Md_widths_323 rfl 1 rfl ?_
                refine qj_get hx hb hts hin_12 hown hK (by decide) rfl rfl 36 (by decide) (hts _ tw_642) (fun _ h => h) (qr (some 25)) rfl d_Md_widths_324 ?_
                refine qj_sipush (v := 240) hx hb d_Md_widths_327 (by decide) ?_
                refine qj_iload_n hx hb d_Md_widths_330 rfl 2 rfl ?_
                refine qj_iadd hx hb d_Md_widths_331 ?_
                have hf9 := q_ix_s hf; clear hf; obtain ⟨hi31, hf⟩ := hf9
                refine qj_iald (t0 := 0) hx hb hK (by decide) (fun _ _ => rfl) rfl hi31 d_Md_widths_332 ?_
                have hf9 := q_lt_s hf; clear hf; obtain ⟨x32, ex32, hf⟩ := hf9
                rw [← ex32]
                refine qj_istore hx hb d_Md_widths_333 (by decide) rfl ?_
                refine qj_iload hx hb d_Md_widths_335 5 rfl ?_
                refine qj_iconst (v := 2) hx hb d_Md_widths_337 (by decide) ?_
                refine qj_iload hx hb d_Md_widths_338 1 rfl ?_
                refine qj_imul hx hb d_Md_widths_340 ?_
                refine qj_isub hx hb d_Md_widths_341 ?_
                refine qj_iconst (v := 2) hx hb d_Md_widths_342 (by decide) ?_
                refine qj_aload_n hx hb d_Md_widths_343 rfl 2 rfl ?_
                refine qj_get hx hb hts hin_12 hown hK (by decide) rfl rfl 36 (by decide) (hts _ tw_642) (fun _ h => h) (qr (some 25)) rfl d_Md_widths_344 ?_
                refine qj_sipush (v := 200) hx hb d_Md_widths_347 (by decide) ?_
                refine qj_iload_n hx hb d_Md_widths_350 rfl 3 rfl ?_
                refine qj_iadd hx hb d_Md_widths_351 ?_
                have hf9 := q_ix_s hf; clear hf; obtain ⟨hi33, hf⟩ := hf9
                refine qj_iald (t0 := 0) hx hb hK (by decide) (fun _ _ => rfl) rfl hi33 d_Md_widths_352 ?_
                refine qj_imul hx hb d_Md_widths_353 ?_
                refine qj_isub hx hb d_Md_widths_354 ?_
                have hf9 := q_lt_s hf; clear hf; obtain ⟨x34, ex34, hf⟩ := hf9
                rw [← ex34]
                refine qj_istore hx hb d_Md_widths_355 (by decide) rfl ?_
                refine qj_aload_n hx hb d_Md_widths_357 rfl 3 rfl ?_
                refine qj_get hx hb hts hin_12 hown hK (by decide) rfl rfl 43 (by decide) (hts _ tw_667) (fun _ h => h) (qr (some 29)) rfl d_Md_widths_358 ?_
                refine qj_iload_n hx hb d_Md_widths_361 rfl 4 rfl ?_
                refine qj_iload hx hb d_Md_widths_362 5 rfl ?_
                refine qj_iload hx hb d_Md_widths_364 2 rfl ?_
                refine qj_iadd hx hb d_Md_widths_366 ?_
                have hf9 := q_ix_s hf; clear hf; obtain ⟨hi35, hf⟩ := hf9
                have hf9 := q_lt_s hf; clear hf; obtain ⟨M36, eM36, hf⟩ := hf9
                refine qj_iast (t0 := 0) hx hb hK (by decide) (fun _ _ => rfl) rfl hi35 eM36 d_Md_widths_367 ?_
                refine qj_aload_n hx hb d_Md_widths_368 rfl 3 rfl ?_
                refine qj_get hx hb hts hin_12 hown hK (by decide) rfl rfl 44 (by decide) (hts _ tw_672) (fun _ h => h) (qr (some 30)) rfl d_Md_widths_369 ?_
                refine qj_iload_n hx hb d_Md_widths_372 rfl 4 rfl ?_
                refine qj_iload hx hb d_Md_widths_373 1 rfl ?_
                refine qj_iconst (v := (-1)) hx hb d_Md_widths_375 (by decide) ?_
                have hf9 := q_lt_s hf; clear hf; obtain ⟨j40, ej40, hf⟩ := hf9
                have hj40 : ∀ (x37 : Int32), j40 x37 = some out → QJ p l e rm_Md_widths s m args below meth c (qA 38 b) b 10 0 0 Q (qWd D (enM dA b) 38 b) M36 395 [] [qi x37, qi a1, qr (some 30)] := by
                  clear hf
                  intro x37 hf
                  rw [ej40] at hf
                  have hf9 := q_ix_s hf; clear hf; obtain ⟨hi38, hf⟩ := hf9
                  have hf9 := q_lt_s hf; clear hf; obtain ⟨M39, eM39, hf⟩ := hf9
                  refine qj_iast (t0 := 0) hx hb hK (by decide) (fun _ _ => rfl) rfl hi38 eM39 d_Md_widths_395 ?_
                  exact hret _ _ _ d_Md_widths_396 (Option.some.inj hf)
                refine qj_icmp_eq (tgt := 384) hx hb d_Md_widths_376 (by decide) (fun hc41 => ?_) (fun hc41 => ?_)
                · replace hf := q_if_t hc41 hf
                  refine qj_iload hx hb d_Md_widths_384 0 rfl ?_
                  refine qj_if_ge (tgt := 393) hx hb d_Md_widths_386 (by decide) (fun hc42 => ?_) (fun hc42 => ?_)
                  · replace hf := q_if_t hc42 hf
                    refine qj_iload hx hb d_Md_widths_393 0 rfl ?_
                    refine qj_sub [] rfl ?_
                    exact hj40 x34 hf
                  · replace hf := q_if_f hc42 hf
                    refine qj_iconst (v := 0) hx hb d_Md_widths_389 (by decide) ?_
                    refine qj_goto (tgt := 395) hx hb d_Md_widths_390 (by decide) ?_
                    refine qj_sub [] rfl ?_
                    exact hj40 0 hf
                · replace hf := q_if_f hc41 hf
                  refine qj_iload hx hb d_Md_widths_379 1 rfl ?_
                  refine qj_goto (tgt := 395) hx hb d_Md_widths_381 (by decide) ?_
                  refine qj_sub [] rfl ?_
                  exact hj40 x32 hf
              refine qj_icmp_ne (tgt := 311) hx hb d_Md_widths_232 (by decide) (fun hc44 => ?_) (fun hc44 => ?_)
              · replace hf := q_if_f hc44 hf
                refine qj_sub [3, 4, 1, 0] rfl ?_
                exact hj43 x22 x24 hf
              · replace hf := q_if_t hc44 hf
                refine qj_iconst (v := 0) hx hb d_Md_widths_235 (by decide) ?_
                refine qj_istore hx hb d_Md_widths_236 (by decide) rfl ?_
                refine qj_iconst (v := 0) hx hb d_Md_widths_238 (by decide) ?_
                refine qj_istore hx hb d_Md_widths_239 (by decide) rfl ?_
                refine qj_iload hx hb d_Md_widths_241 4 rfl ?_
                refine qj_iconst (v := 1) hx hb d_Md_widths_243 (by decide) ?_
                refine qj_iadd hx hb d_Md_widths_244 ?_
                refine qj_istore hx hb d_Md_widths_245 (by decide) rfl ?_
                have hL247 : ∀ (n : Nat) (K48 : Int32 → Int32 → Option qM), (∀ (x54 : Int32) (x55 : Int32), K48 x54 x55 = some out → QJ p l e rm_Md_widths s m args below meth c (qA 38 b) b 10 0 0 Q (qWd D (enM dA b) 38 b) M14 294 [(0, qr (some 0)), (1, qi a1), (5, qi x22), (6, qi x24), (7, qi x54), (8, qi x55)] []) → ∀ (x45 : Int32) (x46 : Int32) (x47 : Int32), f_Md_widths_247 x19 M14 a1 n K48 x45 x46 x47 = some out → QJ p l e rm_Md_widths s m args below meth c (qA 38 b) b 10 0 0 Q (qWd D (enM dA b) 38 b) M14 247 [(0, qr (some 0)), (1, qi a1), (4, qi x19), (5, qi x22), (6, qi x24), (7, qi x45), (8, qi x46), (9, qi x47)] [] := by
                  clear hf
                  intro n
                  induction n with
                  | zero =>
                    intro K48 hK48 x45 x46 x47 hf
                    exact absurd hf (by simp [f_Md_widths_247])
                  | succ n ih247 =>
                    intro K48 hK48 x45 x46 x47 hf
                    rw [f_Md_widths_247] at hf
                    have ih247 := ih247 K48 hK48
                    refine qj_iload hx hb d_Md_widths_247 7 rfl ?_
                    refine qj_aload_n hx hb d_Md_widths_249 rfl 0 rfl ?_
                    refine qj_iload hx hb d_Md_widths_250 2 rfl ?_
                    have hf9 := q_bp_s hf; clear hf; obtain ⟨x49, hx49, hf⟩ := hf9
                    refine qc_Vi (st := [qi x47]) hx hb hml hown hts hK qT_ok hs (c_Md_behind x19 M14 _ hx49) ⟨(callB_of 1 hts (q_good tw_482) rfl rfl rfl (hts _ tw_459) (hts _ tw_483) (by decide +kernel) ⟨by decide, by decide⟩), (hts _ tw_484), (hts _ tw_485)⟩ (by decide) rfl rfl rfl rfl (Nat.le_of_ble_eq_true rfl) d_Md_widths_252 ?_
                    refine qj_icmp_ge (tgt := 294) hx hb d_Md_widths_255 (by decide) (fun hc50 => ?_) (fun hc50 => ?_)
                    · replace hf := q_if_t hc50 hf
                      refine qj_sub [0, 1, 3, 4, 5, 6] rfl ?_
                      exact hK48 x45 x46 hf
                    · replace hf := q_if_f hc50 hf
                      refine qj_aload_n hx hb d_Md_widths_258 rfl 0 rfl ?_
                      refine qj_iload hx hb d_Md_widths_259 7 rfl ?_
                      refine qj_iload hx hb d_Md_widths_261 2 rfl ?_
                      have hf9 := q_bp_s hf; clear hf; obtain ⟨x51, hx51, hf⟩ := hf9
                      refine qc_Vi (st := []) hx hb hml hown hts hK qT_ok hs (c_Md_within x47 x19 M14 _ hx51) ⟨(callB_of 2 hts (q_good tw_673) rfl rfl rfl (hts _ tw_459) (hts _ tw_674) (by decide +kernel) ⟨by decide, by decide⟩), (hts _ tw_675), (hts _ tw_676)⟩ (by decide) rfl rfl rfl rfl (Nat.le_of_ble_eq_true rfl) d_Md_widths_263 ?_
                      refine qj_if_eq (tgt := 288) hx hb d_Md_widths_266 (by decide) (fun hc52 => ?_) (fun hc52 => ?_)
                      · replace hf := q_if_t hc52 hf
                        refine qj_iinc (j := 7) (v := x47 + 1) hx hb d_Md_widths_288 rfl rfl (by decide) rfl ?_
                        refine qj_goto (tgt := 247) hx hb d_Md_widths_291 (by decide) ?_
                        refine qj_sub [1, 2, 3, 4, 5, 6, 7, 0] rfl ?_
                        exact ih247 x45 x46 (x47 + 1) hf
                      · replace hf := q_if_f hc52 hf
                        refine qj_iinc (j := 5) (v := x45 + 1) hx hb d_Md_widths_269 rfl rfl (by decide) rfl ?_
                        refine qj_iload hx hb d_Md_widths_272 6 rfl ?_
                        refine qj_iload hx hb d_Md_widths_274 7 rfl ?_
                        refine qj_iload_n hx hb d_Md_widths_276 rfl 2 rfl ?_
                        refine qj_icmp_ge (tgt := 284) hx hb d_Md_widths_277 (by decide) (fun hc53 => ?_) (fun hc53 => ?_)
                        · replace hf := q_if_t hc53 hf
                          refine qj_iconst (v := 0) hx hb d_Md_widths_284 (by decide) ?_
                          refine qj_iadd hx hb d_Md_widths_285 ?_
                          refine qj_istore hx hb d_Md_widths_286 (by decide) rfl ?_
                          refine qj_iinc (j := 7) (v := x47 + 1) hx hb d_Md_widths_288 rfl rfl (by decide) rfl ?_
                          refine qj_goto (tgt := 247) hx hb d_Md_widths_291 (by decide) ?_
                          refine qj_sub [3, 4, 5, 6, 7, 2, 1, 0] rfl ?_
                          exact ih247 (x45 + 1) (x46 + 0) (x47 + 1) hf
                        · replace hf := q_if_f hc53 hf
                          refine qj_iconst (v := 1) hx hb d_Md_widths_280 (by decide) ?_
                          refine qj_goto (tgt := 285) hx hb d_Md_widths_281 (by decide) ?_
                          refine qj_iadd hx hb d_Md_widths_285 ?_
                          refine qj_istore hx hb d_Md_widths_286 (by decide) rfl ?_
                          refine qj_iinc (j := 7) (v := x47 + 1) hx hb d_Md_widths_288 rfl rfl (by decide) rfl ?_
                          refine qj_goto (tgt := 247) hx hb d_Md_widths_291 (by decide) ?_
                          refine qj_sub [3, 4, 5, 6, 7, 2, 1, 0] rfl ?_
                          exact ih247 (x45 + 1) (x46 + 1) (x47 + 1) hf
                refine qj_sub [6, 7, 5, 4, 3, 2, 1, 0] rfl ?_
                refine hL247 _ _ (fun x54 x55 hf9 => ?_) 0 0 (x19 + 1) hf
                clear hf; have hf := hf9; clear hf9
                refine qj_iload hx hb d_Md_widths_294 3 rfl ?_
                refine qj_iload hx hb d_Md_widths_296 4 rfl ?_
                have hf9 := q_dk_s hf; clear hf; obtain ⟨hd56, hf⟩ := hf9
                refine qj_idiv hx hb d_Md_widths_298 hd56 ?_
                refine qj_istore hx hb d_Md_widths_299 (by decide) rfl ?_
                refine qj_iload hx hb d_Md_widths_301 3 rfl ?_
                refine qj_iload hx hb d_Md_widths_303 5 rfl ?_
                refine qj_iload hx hb d_Md_widths_305 0 rfl ?_
                refine qj_imul hx hb d_Md_widths_307 ?_
                refine qj_iadd hx hb d_Md_widths_308 ?_
                have hf9 := q_lt_s hf; clear hf; obtain ⟨x57, ex57, hf⟩ := hf9
                rw [← ex57]
                refine qj_istore hx hb d_Md_widths_309 (by decide) rfl ?_
                refine qj_sub [2, 3, 0, 1] rfl ?_
                exact hj43 x57 (x24 / x54) hf
          · replace hf := q_if_t hc15 hf
            refine qj_aload_n hx hb d_Md_widths_158 rfl 0 rfl ?_
            refine qj_get hx hb hts hin_12 hown hK (by decide) rfl rfl 43 (by decide) (hts _ tw_667) (fun _ h => h) (qr (some 29)) rfl d_Md_widths_159 ?_
            refine qj_iconst (v := 0) hx hb d_Md_widths_162 (by decide) ?_
            refine qj_iconst (v := 0) hx hb d_Md_widths_163 (by decide) ?_
            have hf9 := q_ix_s hf; clear hf; obtain ⟨hi58, hf⟩ := hf9
            have hf9 := q_lt_s hf; clear hf; obtain ⟨M59, eM59, hf⟩ := hf9
            refine qj_iast (t0 := 0) hx hb hK (by decide) (fun _ _ => rfl) rfl hi58 eM59 d_Md_widths_164 ?_
            refine qj_aload_n hx hb d_Md_widths_165 rfl 0 rfl ?_
            refine qj_get hx hb hts hin_12 hown hK (by decide) rfl rfl 44 (by decide) (hts _ tw_672) (fun _ h => h) (qr (some 30)) rfl d_Md_widths_166 ?_
            refine qj_iconst (v := 0) hx hb d_Md_widths_169 (by decide) ?_
            refine qj_iload_n hx hb d_Md_widths_170 rfl 2 rfl ?_
            have hf9 := q_ix_s hf; clear hf; obtain ⟨hi60, hf⟩ := hf9
            have hf9 := q_lt_s hf; clear hf; obtain ⟨M61, eM61, hf⟩ := hf9
            refine qj_iast (t0 := 0) hx hb hK (by decide) (fun _ _ => rfl) rfl hi60 eM61 d_Md_widths_171 ?_
            refine qj_goto (tgt := 396) hx hb d_Md_widths_172 (by decide) ?_
            exact hret _ _ _ d_Md_widths_396 (Option.some.inj hf)
        refine qj_if_ne (tgt := 119) hx hb d_Md_widths_112 (by decide) (fun hc63 => ?_) (fun hc63 => ?_)
        · replace hf := q_if_f hc63 hf
          refine qj_aload_n hx hb d_Md_widths_119 rfl 0 rfl ?_
          refine qj_get hx hb hts hin_12 hown hK (by decide) rfl rfl 41 (by decide) (hts _ tw_665) (fun _ h => h) (qr (some 27)) rfl d_Md_widths_120 ?_
          refine qj_aload_n hx hb d_Md_widths_123 rfl 0 rfl ?_
          refine qj_get hx hb hts hin_12 hown hK (by decide) rfl rfl 33 (by decide) (hts _ tw_630) (fun _ h => h) (qr (some 22)) rfl d_Md_widths_124 ?_
          refine qj_iload_n hx hb d_Md_widths_127 rfl 1 rfl ?_
          have hf9 := q_ix_s hf; clear hf; obtain ⟨hi64, hf⟩ := hf9
          refine qj_iald (t0 := 0) hx hb hK (by decide) (fun _ _ => rfl) rfl hi64 d_Md_widths_128 ?_
          have hf9 := q_ix_s hf; clear hf; obtain ⟨hi65, hf⟩ := hf9
          refine qj_zald (t0 := 2) hx hb hK (by decide) (fun _ _ => rfl) rfl hi65 d_Md_widths_129 ?_
          refine qj_if_eq (tgt := 142) hx hb d_Md_widths_130 (by decide) (fun hc66 => ?_) (fun hc66 => ?_)
          · replace hf := q_if_t hc66 hf
            refine qj_aload_n hx hb d_Md_widths_142 rfl 0 rfl ?_
            refine qj_get hx hb hts hin_12 hown hK (by decide) rfl rfl 42 (by decide) (hts _ tw_666) (fun _ h => h) (qr (some 28)) rfl d_Md_widths_143 ?_
            refine qj_aload_n hx hb d_Md_widths_146 rfl 0 rfl ?_
            refine qj_get hx hb hts hin_12 hown hK (by decide) rfl rfl 33 (by decide) (hts _ tw_630) (fun _ h => h) (qr (some 22)) rfl d_Md_widths_147 ?_
            refine qj_iload_n hx hb d_Md_widths_150 rfl 1 rfl ?_
            have hf9 := q_ix_s hf; clear hf; obtain ⟨hi67, hf⟩ := hf9
            refine qj_iald (t0 := 0) hx hb hK (by decide) (fun _ _ => rfl) rfl hi67 d_Md_widths_151 ?_
            have hf9 := q_ix_s hf; clear hf; obtain ⟨hi68, hf⟩ := hf9
            refine qj_iald (t0 := 0) hx hb hK (by decide) (fun _ _ => rfl) rfl hi68 d_Md_widths_152 ?_
            exact hj62 (M11.1 28 (M11.1 22 a1.toNatClampNeg).toNatClampNeg) hf
          · replace hf := q_if_f hc66 hf
            refine qj_aload_n hx hb d_Md_widths_133 rfl 0 rfl ?_
            refine qj_get hx hb hts hin_12 hown hK (by decide) rfl rfl 33 (by decide) (hts _ tw_630) (fun _ h => h) (qr (some 22)) rfl d_Md_widths_134 ?_
            refine qj_iload_n hx hb d_Md_widths_137 rfl 1 rfl ?_
            have hf9 := q_ix_s hf; clear hf; obtain ⟨hi69, hf⟩ := hf9
            refine qj_iald (t0 := 0) hx hb hK (by decide) (fun _ _ => rfl) rfl hi69 d_Md_widths_138 ?_
            refine qj_goto (tgt := 153) hx hb d_Md_widths_139 (by decide) ?_
            exact hj62 (M11.1 22 a1.toNatClampNeg) hf
        · replace hf := q_if_t hc63 hf
          refine qj_iconst (v := (-1)) hx hb d_Md_widths_115 (by decide) ?_
          refine qj_goto (tgt := 153) hx hb d_Md_widths_116 (by decide) ?_
          exact hj62 (-1) hf
      have hf9 := q_lt_s hf; clear hf; obtain ⟨j71, ej71, hf⟩ := hf9
      have hj71 : j71 = some out → QJ p l e rm_Md_widths s m args below meth c (qA 38 b) b 10 0 0 Q (qWd D (enM dA b) 38 b) M7 104 [(0, qr (some 0)), (1, qi a1), (2, qi a2)] [qi a1, qr (some 27)] := by
        clear hf
        intro hf
        rw [ej71] at hf
        refine qj_iconst (v := 0) hx hb d_Md_widths_104 (by decide) ?_
        exact hj70 0 hf
      refine qj_if_eq (tgt := 104) hx hb d_Md_widths_74 (by decide) (fun hc72 => ?_) (fun hc72 => ?_)
      · replace hf := q_if_t hc72 hf
        refine qj_sub [0, 1, 2] rfl ?_
        exact hj71  hf
      · replace hf := q_if_f hc72 hf
        refine qj_aload_n hx hb d_Md_widths_77 rfl 0 rfl ?_
        refine qj_get hx hb hts hin_12 hown hK (by decide) rfl rfl 40 (by decide) (hts _ tw_664) (fun _ h => h) (qr (some 26)) rfl d_Md_widths_78 ?_
        refine qj_iload_n hx hb d_Md_widths_81 rfl 1 rfl ?_
        have hf9 := q_ix_s hf; clear hf; obtain ⟨hi73, hf⟩ := hf9
        refine qj_zald (t0 := 2) hx hb hK (by decide) (fun _ _ => rfl) rfl hi73 d_Md_widths_82 ?_
        refine qj_if_ne (tgt := 104) hx hb d_Md_widths_83 (by decide) (fun hc74 => ?_) (fun hc74 => ?_)
        · replace hf := q_if_f hc74 hf
          refine qj_sub [0, 1, 2] rfl ?_
          exact hj71  hf
        · replace hf := q_if_t hc74 hf
          refine qj_aload_n hx hb d_Md_widths_86 rfl 0 rfl ?_
          refine qj_get hx hb hts hin_12 hown hK (by decide) rfl rfl 36 (by decide) (hts _ tw_642) (fun _ h => h) (qr (some 25)) rfl d_Md_widths_87 ?_
          refine qj_bipush (v := 120) hx hb d_Md_widths_90 (by decide) ?_
          refine qj_iload_n hx hb d_Md_widths_92 rfl 1 rfl ?_
          refine qj_iadd hx hb d_Md_widths_93 ?_
          have hf9 := q_ix_s hf; clear hf; obtain ⟨hi75, hf⟩ := hf9
          refine qj_iald (t0 := 0) hx hb hK (by decide) (fun _ _ => rfl) rfl hi75 d_Md_widths_94 ?_
          refine qj_bipush (v := 98) hx hb d_Md_widths_95 (by decide) ?_
          refine qj_icmp_ne (tgt := 104) hx hb d_Md_widths_97 (by decide) (fun hc76 => ?_) (fun hc76 => ?_)
          · replace hf := q_if_f hc76 hf
            refine qj_sub [0, 1, 2] rfl ?_
            exact hj71  hf
          · replace hf := q_if_t hc76 hf
            refine qj_iconst (v := 1) hx hb d_Md_widths_100 (by decide) ?_
            refine qj_goto (tgt := 105) hx hb d_Md_widths_101 (by decide) ?_
            refine qj_sub [0, 1, 2] rfl ?_
            exact hj70 1 hf
    have hf9 := q_lt_s hf; clear hf; obtain ⟨j78, ej78, hf⟩ := hf9
    have hj78 : j78 = some out → QJ p l e rm_Md_widths s m args below meth c (qA 38 b) b 10 0 0 Q (qWd D (enM dA b) 38 b) M 66 [(0, qr (some 0)), (1, qi a1), (2, qi a2), (3, qi x3)] [qi a1, qr (some 26)] := by
      clear hf
      intro hf
      rw [ej78] at hf
      refine qj_iconst (v := 0) hx hb d_Md_widths_66 (by decide) ?_
      exact hj77 0 hf
    refine qj_if_le (tgt := 66) hx hb d_Md_widths_27 (by decide) (fun hc79 => ?_) (fun hc79 => ?_)
    · replace hf := q_if_t hc79 hf
      refine qj_sub [1, 2, 3, 0] rfl ?_
      exact hj78  hf
    · replace hf := q_if_f hc79 hf
      refine qj_aload_n hx hb d_Md_widths_30 rfl 1 rfl ?_
      refine qj_get hx hb hts hin_12 hown hK (by decide) rfl rfl 40 (by decide) (hts _ tw_664) (fun _ h => h) (qr (some 26)) rfl d_Md_widths_31 ?_
      refine qj_aload_n hx hb d_Md_widths_34 rfl 1 rfl ?_
      refine qj_get hx hb hts hin_12 hown hK (by decide) rfl rfl 33 (by decide) (hts _ tw_630) (fun _ h => h) (qr (some 22)) rfl d_Md_widths_35 ?_
      refine qj_iload_n hx hb d_Md_widths_38 rfl 2 rfl ?_
      have hf9 := q_ix_s hf; clear hf; obtain ⟨hi80, hf⟩ := hf9
      refine qj_iald (t0 := 0) hx hb hK (by decide) (fun _ _ => rfl) rfl hi80 d_Md_widths_39 ?_
      have hf9 := q_ix_s hf; clear hf; obtain ⟨hi81, hf⟩ := hf9
      refine qj_zald (t0 := 2) hx hb hK (by decide) (fun _ _ => rfl) rfl hi81 d_Md_widths_40 ?_
      refine qj_if_ne (tgt := 62) hx hb d_Md_widths_41 (by decide) (fun hc82 => ?_) (fun hc82 => ?_)
      · replace hf := q_if_f hc82 hf
        refine qj_iconst (v := 1) hx hb d_Md_widths_62 (by decide) ?_
        refine qj_goto (tgt := 67) hx hb d_Md_widths_63 (by decide) ?_
        refine qj_sub [1, 2, 3, 0] rfl ?_
        exact hj77 1 hf
      · replace hf := q_if_t hc82 hf
        refine qj_iload_n hx hb d_Md_widths_44 rfl 0 rfl ?_
        refine qj_if_eq (tgt := 66) hx hb d_Md_widths_45 (by decide) (fun hc83 => ?_) (fun hc83 => ?_)
        · replace hf := q_if_t hc83 hf
          refine qj_sub [1, 2, 3, 0] rfl ?_
          exact hj78  hf
        · replace hf := q_if_f hc83 hf
          refine qj_aload_n hx hb d_Md_widths_48 rfl 1 rfl ?_
          refine qj_get hx hb hts hin_12 hown hK (by decide) rfl rfl 36 (by decide) (hts _ tw_642) (fun _ h => h) (qr (some 25)) rfl d_Md_widths_49 ?_
          refine qj_bipush (v := 120) hx hb d_Md_widths_52 (by decide) ?_
          refine qj_iload_n hx hb d_Md_widths_54 rfl 2 rfl ?_
          refine qj_iadd hx hb d_Md_widths_55 ?_
          have hf9 := q_ix_s hf; clear hf; obtain ⟨hi84, hf⟩ := hf9
          refine qj_iald (t0 := 0) hx hb hK (by decide) (fun _ _ => rfl) rfl hi84 d_Md_widths_56 ?_
          refine qj_bipush (v := 110) hx hb d_Md_widths_57 (by decide) ?_
          refine qj_icmp_ne (tgt := 66) hx hb d_Md_widths_59 (by decide) (fun hc85 => ?_) (fun hc85 => ?_)
          · replace hf := q_if_f hc85 hf
            refine qj_sub [1, 2, 3, 0] rfl ?_
            exact hj78  hf
          · replace hf := q_if_t hc85 hf
            refine qj_iconst (v := 1) hx hb d_Md_widths_62 (by decide) ?_
            refine qj_goto (tgt := 67) hx hb d_Md_widths_63 (by decide) ?_
            refine qj_sub [1, 2, 3, 0] rfl ?_
            exact hj77 1 hf
  refine qj_icmp_eq (tgt := 19) hx hb d_Md_widths_12 (by decide) (fun hc87 => ?_) (fun hc87 => ?_)
  · replace hf := q_if_t hc87 hf
    refine qj_iconst (v := 0) hx hb d_Md_widths_19 (by decide) ?_
    exact hj86 0 hf
  · replace hf := q_if_f hc87 hf
    refine qj_iconst (v := 1) hx hb d_Md_widths_15 (by decide) ?_
    refine qj_goto (tgt := 20) hx hb d_Md_widths_16 (by decide) ?_
    exact hj86 1 hf
theorem d_Md_runs_0 : decode prog_14_method_63_code 0 = .ok (.iconst 0, 1) := by decide +kernel
theorem d_Md_runs_1 : decode prog_14_method_63_code 1 = .ok (.istore_n 1, 1) := by decide +kernel
theorem d_Md_runs_2 : decode prog_14_method_63_code 2 = .ok (.iconst 0, 1) := by decide +kernel
theorem d_Md_runs_3 : decode prog_14_method_63_code 3 = .ok (.istore_n 2, 1) := by decide +kernel
theorem d_Md_runs_4 : decode prog_14_method_63_code 4 = .ok (.iload_n 2, 1) := by decide +kernel
theorem d_Md_runs_5 : decode prog_14_method_63_code 5 = .ok (.aload_n 0, 1) := by decide +kernel
theorem d_Md_runs_6 : decode prog_14_method_63_code 6 = .ok (.getfield 331, 3) := by decide +kernel
theorem d_Md_runs_9 : decode prog_14_method_63_code 9 = .ok (.if_icmp .ge 44, 3) := by decide +kernel
theorem d_Md_runs_12 : decode prog_14_method_63_code 12 = .ok (.iload_n 1, 1) := by decide +kernel
theorem d_Md_runs_13 : decode prog_14_method_63_code 13 = .ok (.ifCond .ne 28, 3) := by decide +kernel
theorem d_Md_runs_16 : decode prog_14_method_63_code 16 = .ok (.aload_n 0, 1) := by decide +kernel
theorem d_Md_runs_17 : decode prog_14_method_63_code 17 = .ok (.getfield 119, 3) := by decide +kernel
theorem d_Md_runs_20 : decode prog_14_method_63_code 20 = .ok (.iload_n 2, 1) := by decide +kernel
theorem d_Md_runs_21 : decode prog_14_method_63_code 21 = .ok (.iaload, 1) := by decide +kernel
theorem d_Md_runs_22 : decode prog_14_method_63_code 22 = .ok (.ifCond .lt 19, 3) := by decide +kernel
theorem d_Md_runs_25 : decode prog_14_method_63_code 25 = .ok (.aload_n 0, 1) := by decide +kernel
theorem d_Md_runs_26 : decode prog_14_method_63_code 26 = .ok (.getfield 40, 3) := by decide +kernel
theorem d_Md_runs_29 : decode prog_14_method_63_code 29 = .ok (.aload_n 0, 1) := by decide +kernel
theorem d_Md_runs_30 : decode prog_14_method_63_code 30 = .ok (.getfield 119, 3) := by decide +kernel
theorem d_Md_runs_33 : decode prog_14_method_63_code 33 = .ok (.iload_n 2, 1) := by decide +kernel
theorem d_Md_runs_34 : decode prog_14_method_63_code 34 = .ok (.iaload, 1) := by decide +kernel
theorem d_Md_runs_35 : decode prog_14_method_63_code 35 = .ok (.iaload, 1) := by decide +kernel
theorem d_Md_runs_36 : decode prog_14_method_63_code 36 = .ok (.bipush 32, 2) := by decide +kernel
theorem d_Md_runs_38 : decode prog_14_method_63_code 38 = .ok (.if_icmp .eq 7, 3) := by decide +kernel
theorem d_Md_runs_41 : decode prog_14_method_63_code 41 = .ok (.iconst 1, 1) := by decide +kernel
theorem d_Md_runs_42 : decode prog_14_method_63_code 42 = .ok (.goto 4, 3) := by decide +kernel
theorem d_Md_runs_45 : decode prog_14_method_63_code 45 = .ok (.iconst 0, 1) := by decide +kernel
theorem d_Md_runs_46 : decode prog_14_method_63_code 46 = .ok (.istore_n 1, 1) := by decide +kernel
theorem d_Md_runs_47 : decode prog_14_method_63_code 47 = .ok (.iinc 2 1, 3) := by decide +kernel
theorem d_Md_runs_50 : decode prog_14_method_63_code 50 = .ok (.goto (-46), 3) := by decide +kernel
theorem d_Md_runs_53 : decode prog_14_method_63_code 53 = .ok (.iload_n 1, 1) := by decide +kernel
theorem d_Md_runs_54 : decode prog_14_method_63_code 54 = .ok (.ireturn, 1) := by decide +kernel
def f_Md_runs_4 (M : qM) : Nat → (Int32 → Option Int32) → Int32 → Int32 → Option Int32
  | 0, _, _, _ => none
  | n + 1, K3, x1, x2 => if (M.1 0 52) ≤ x2 then (K3 x1) else (if x1 = 0 then (q_ix x2 200 <| if (M.1 37 x2.toNatClampNeg) < 0 then (f_Md_runs_4 M n K3 1 (x2 + 1)) else (q_ix x2 200 <| q_ix (M.1 37 x2.toNatClampNeg) 160 <| if (M.1 11 (M.1 37 x2.toNatClampNeg).toNatClampNeg) = 32 then (f_Md_runs_4 M n K3 0 (x2 + 1)) else (f_Md_runs_4 M n K3 1 (x2 + 1)))) else (f_Md_runs_4 M n K3 1 (x2 + 1)))
def f_Md_runs  (M : qM) : Option Int32 := f_Md_runs_4 M 1000 (fun (x11 : Int32) => q_zk x11 <| some x11) 0 0
abbrev rm_Md_runs : Room := { frames := 0, cells := 0, slots := 0, locals := 0 }
set_option maxRecDepth 100000 in
set_option maxHeartbeats 4000000 in
theorem c_Md_runs {l : Launch} {D : va_G} {dA : Nat → ClassId} {b : Nat}   (M : qM) (out : Int32) (hf : f_Md_runs M = some out) : CTi l y_Md_runs w_Md_runs rm_Md_runs D (tysX dA) (enM dA b) 38 b (fun _ => True) [qr (some 0)] M (out, M) := by
  refine qm_z (cc := prog_14_method_63_code) (nL := 3) (by decide) rfl (Nat.le_of_ble_eq_true rfl) ?_
  intro p e s m args below meth c Q hx hb hts0 hown hml hK hs hret
  have hts : ∀ w ∈ lw_g, w.before args s = true := fun w h => hts0 w (List.mem_cons_of_mem _ h)
  show QJ p l e rm_Md_runs s m args below meth c (qA 38 b) b 3 0 0 Q (qWd D (enM dA b) 38 b) M 0 [(0, qr (some 0))] []
  unfold f_Md_runs at hf
  refine qj_iconst (v := 0) hx hb d_Md_runs_0 (by decide) ?_
  refine qj_istore_n hx hb d_Md_runs_1 rfl (by decide) rfl ?_
  refine qj_iconst (v := 0) hx hb d_Md_runs_2 (by decide) ?_
  refine qj_istore_n hx hb d_Md_runs_3 rfl (by decide) rfl ?_
  have hL4 : ∀ (n : Nat) (K3 : Int32 → Option Int32), (∀ (x11 : Int32), K3 x11 = some out → QJ p l e rm_Md_runs s m args below meth c (qA 38 b) b 3 0 0 Q (qWd D (enM dA b) 38 b) M 53 [(1, qi x11)] []) → ∀ (x1 : Int32) (x2 : Int32), f_Md_runs_4 M n K3 x1 x2 = some out → QJ p l e rm_Md_runs s m args below meth c (qA 38 b) b 3 0 0 Q (qWd D (enM dA b) 38 b) M 4 [(0, qr (some 0)), (1, qi x1), (2, qi x2)] [] := by
    clear hf
    intro n
    induction n with
    | zero =>
      intro K3 hK3 x1 x2 hf
      exact absurd hf (by simp [f_Md_runs_4])
    | succ n ih4 =>
      intro K3 hK3 x1 x2 hf
      rw [f_Md_runs_4] at hf
      have ih4 := ih4 K3 hK3
      refine qj_iload_n hx hb d_Md_runs_4 rfl 2 rfl ?_
      refine qj_aload_n hx hb d_Md_runs_5 rfl 0 rfl ?_
      refine qj_get hx hb hts hin_12 hown hK (by decide) rfl rfl 52 (by decide) (hts _ tw_677) (fun _ h => h) (qi (M.1 0 52)) rfl d_Md_runs_6 ?_
      refine qj_icmp_ge (tgt := 53) hx hb d_Md_runs_9 (by decide) (fun hc4 => ?_) (fun hc4 => ?_)
      · replace hf := q_if_t hc4 hf
        refine qj_sub [1] rfl ?_
        exact hK3 x1 hf
      · replace hf := q_if_f hc4 hf
        refine qj_iload_n hx hb d_Md_runs_12 rfl 1 rfl ?_
        refine qj_if_ne (tgt := 41) hx hb d_Md_runs_13 (by decide) (fun hc5 => ?_) (fun hc5 => ?_)
        · replace hf := q_if_f hc5 hf
          refine qj_iconst (v := 1) hx hb d_Md_runs_41 (by decide) ?_
          refine qj_goto (tgt := 46) hx hb d_Md_runs_42 (by decide) ?_
          refine qj_istore_n hx hb d_Md_runs_46 rfl (by decide) rfl ?_
          refine qj_iinc (j := 2) (v := x2 + 1) hx hb d_Md_runs_47 rfl rfl (by decide) rfl ?_
          refine qj_goto (tgt := 4) hx hb d_Md_runs_50 (by decide) ?_
          refine qj_sub [2, 1, 0] rfl ?_
          exact ih4 1 (x2 + 1) hf
        · replace hf := q_if_t hc5 hf
          refine qj_aload_n hx hb d_Md_runs_16 rfl 0 rfl ?_
          refine qj_get hx hb hts hin_12 hown hK (by decide) rfl rfl 51 (by decide) (hts _ tw_678) (fun _ h => h) (qr (some 37)) rfl d_Md_runs_17 ?_
          refine qj_iload_n hx hb d_Md_runs_20 rfl 2 rfl ?_
          have hf9 := q_ix_s hf; clear hf; obtain ⟨hi6, hf⟩ := hf9
          refine qj_iald (t0 := 0) hx hb hK (by decide) (fun _ _ => rfl) rfl hi6 d_Md_runs_21 ?_
          refine qj_if_lt (tgt := 41) hx hb d_Md_runs_22 (by decide) (fun hc7 => ?_) (fun hc7 => ?_)
          · replace hf := q_if_t hc7 hf
            refine qj_iconst (v := 1) hx hb d_Md_runs_41 (by decide) ?_
            refine qj_goto (tgt := 46) hx hb d_Md_runs_42 (by decide) ?_
            refine qj_istore_n hx hb d_Md_runs_46 rfl (by decide) rfl ?_
            refine qj_iinc (j := 2) (v := x2 + 1) hx hb d_Md_runs_47 rfl rfl (by decide) rfl ?_
            refine qj_goto (tgt := 4) hx hb d_Md_runs_50 (by decide) ?_
            refine qj_sub [2, 1, 0] rfl ?_
            exact ih4 1 (x2 + 1) hf
          · replace hf := q_if_f hc7 hf
            refine qj_aload_n hx hb d_Md_runs_25 rfl 0 rfl ?_
            refine qj_get hx hb hts hin_12 hown hK (by decide) rfl rfl 18 (by decide) (hts _ tw_568) (fun _ h => h) (qr (some 11)) rfl d_Md_runs_26 ?_
            refine qj_aload_n hx hb d_Md_runs_29 rfl 0 rfl ?_
            refine qj_get hx hb hts hin_12 hown hK (by decide) rfl rfl 51 (by decide) (hts _ tw_678) (fun _ h => h) (qr (some 37)) rfl d_Md_runs_30 ?_
            refine qj_iload_n hx hb d_Md_runs_33 rfl 2 rfl ?_
            have hf9 := q_ix_s hf; clear hf; obtain ⟨hi8, hf⟩ := hf9
            refine qj_iald (t0 := 0) hx hb hK (by decide) (fun _ _ => rfl) rfl hi8 d_Md_runs_34 ?_
            have hf9 := q_ix_s hf; clear hf; obtain ⟨hi9, hf⟩ := hf9
            refine qj_iald (t0 := 0) hx hb hK (by decide) (fun _ _ => rfl) rfl hi9 d_Md_runs_35 ?_
            refine qj_bipush (v := 32) hx hb d_Md_runs_36 (by decide) ?_
            refine qj_icmp_eq (tgt := 45) hx hb d_Md_runs_38 (by decide) (fun hc10 => ?_) (fun hc10 => ?_)
            · replace hf := q_if_t hc10 hf
              refine qj_iconst (v := 0) hx hb d_Md_runs_45 (by decide) ?_
              refine qj_istore_n hx hb d_Md_runs_46 rfl (by decide) rfl ?_
              refine qj_iinc (j := 2) (v := x2 + 1) hx hb d_Md_runs_47 rfl rfl (by decide) rfl ?_
              refine qj_goto (tgt := 4) hx hb d_Md_runs_50 (by decide) ?_
              refine qj_sub [2, 1, 0] rfl ?_
              exact ih4 0 (x2 + 1) hf
            · replace hf := q_if_f hc10 hf
              refine qj_iconst (v := 1) hx hb d_Md_runs_41 (by decide) ?_
              refine qj_goto (tgt := 46) hx hb d_Md_runs_42 (by decide) ?_
              refine qj_istore_n hx hb d_Md_runs_46 rfl (by decide) rfl ?_
              refine qj_iinc (j := 2) (v := x2 + 1) hx hb d_Md_runs_47 rfl rfl (by decide) rfl ?_
              refine qj_goto (tgt := 4) hx hb d_Md_runs_50 (by decide) ?_
              refine qj_sub [2, 1, 0] rfl ?_
              exact ih4 1 (x2 + 1) hf
  refine qj_sub [2, 1, 0] rfl ?_
  refine hL4 _ _ (fun x11 hf9 => ?_) 0 0 hf
  clear hf; have hf := hf9; clear hf9
  refine qj_iload_n hx hb d_Md_runs_53 rfl 0 rfl ?_
  have hf9 := q_zk_s hf; clear hf; obtain ⟨hz12, hf⟩ := hf9
  exact hret _ _ _ _ hz12 d_Md_runs_54 (congrArg (fun z => (z, M)) (Option.some.inj hf))
theorem d_Md_newLine_0 : decode prog_14_method_66_code 0 = .ok (.aload_n 0, 1) := by decide +kernel
theorem d_Md_newLine_1 : decode prog_14_method_66_code 1 = .ok (.iload_n 1, 1) := by decide +kernel
theorem d_Md_newLine_2 : decode prog_14_method_66_code 2 = .ok (.putfield 366, 3) := by decide +kernel
theorem d_Md_newLine_5 : decode prog_14_method_66_code 5 = .ok (.aload_n 0, 1) := by decide +kernel
theorem d_Md_newLine_6 : decode prog_14_method_66_code 6 = .ok (.iconst 0, 1) := by decide +kernel
theorem d_Md_newLine_7 : decode prog_14_method_66_code 7 = .ok (.putfield 369, 3) := by decide +kernel
theorem d_Md_newLine_10 : decode prog_14_method_66_code 10 = .ok (.aload_n 0, 1) := by decide +kernel
theorem d_Md_newLine_11 : decode prog_14_method_66_code 11 = .ok (.iconst 0, 1) := by decide +kernel
theorem d_Md_newLine_12 : decode prog_14_method_66_code 12 = .ok (.putfield 360, 3) := by decide +kernel
theorem d_Md_newLine_15 : decode prog_14_method_66_code 15 = .ok (.aload_n 0, 1) := by decide +kernel
theorem d_Md_newLine_16 : decode prog_14_method_66_code 16 = .ok (.iconst 0, 1) := by decide +kernel
theorem d_Md_newLine_17 : decode prog_14_method_66_code 17 = .ok (.putfield 357, 3) := by decide +kernel
theorem d_Md_newLine_20 : decode prog_14_method_66_code 20 = .ok (.return_, 1) := by decide +kernel
def f_Md_newLine (a1 : Int32) (M : qM) : Option qM := q_lt (qsI M 0 54 a1) fun M1 => q_lt (qsI M1 0 55 0) fun M2 => q_lt (qsI M2 0 56 0) fun M3 => q_lt (qsI M3 0 57 0) fun M4 => some M4
abbrev rm_Md_newLine : Room := { frames := 0, cells := 0, slots := 0, locals := 0 }
set_option maxRecDepth 100000 in
set_option maxHeartbeats 4000000 in
theorem c_Md_newLine {l : Launch} {D : va_G} {dA : Nat → ClassId} {b : Nat} (a1 : Int32)  (M : qM) (out : qM) (hf : f_Md_newLine a1 M = some out) : CTv l y_Md_newLine w_Md_newLine rm_Md_newLine D (tysX dA) (enM dA b) 38 b (fun _ => True) [qr (some 0), qi a1] M out := by
  refine qm_v (cc := prog_14_method_66_code) (nL := 2) (by decide) rfl (Nat.le_of_ble_eq_true rfl) ?_
  intro p e s m args below meth c Q hx hb hts0 hown hml hK hs hret
  have hts : ∀ w ∈ lw_g, w.before args s = true := fun w h => hts0 w (List.mem_cons_of_mem _ h)
  show QJ p l e rm_Md_newLine s m args below meth c (qA 38 b) b 2 0 0 Q (qWd D (enM dA b) 38 b) M 0 [(0, qr (some 0)), (1, qi a1)] []
  unfold f_Md_newLine at hf
  refine qj_aload_n hx hb d_Md_newLine_0 rfl 0 rfl ?_
  refine qj_iload_n hx hb d_Md_newLine_1 rfl 1 rfl ?_
  have hf9 := q_lt_s hf; clear hf; obtain ⟨M1, eM1, hf⟩ := hf9
  refine qj_puti (ty := .int) hx hb hts hin_12 ty_12 tyok_12 nm_12 hown hK (by decide) rfl rfl 54 (by decide) (hts _ tw_679) (fun _ h => h) rfl (by decide +kernel) rfl rfl (Nat.le_of_ble_eq_true rfl) sm_54 eM1 d_Md_newLine_2 ?_
  refine qj_aload_n hx hb d_Md_newLine_5 rfl 0 rfl ?_
  refine qj_iconst (v := 0) hx hb d_Md_newLine_6 (by decide) ?_
  have hf9 := q_lt_s hf; clear hf; obtain ⟨M2, eM2, hf⟩ := hf9
  refine qj_puti (ty := .int) hx hb hts hin_12 ty_12 tyok_12 nm_12 hown hK (by decide) rfl rfl 55 (by decide) (hts _ tw_680) (fun _ h => h) rfl (by decide +kernel) rfl rfl (Nat.le_of_ble_eq_true rfl) sm_55 eM2 d_Md_newLine_7 ?_
  refine qj_aload_n hx hb d_Md_newLine_10 rfl 0 rfl ?_
  refine qj_iconst (v := 0) hx hb d_Md_newLine_11 (by decide) ?_
  have hf9 := q_lt_s hf; clear hf; obtain ⟨M3, eM3, hf⟩ := hf9
  refine qj_puti (ty := .int) hx hb hts hin_12 ty_12 tyok_12 nm_12 hown hK (by decide) rfl rfl 56 (by decide) (hts _ tw_681) (fun _ h => h) rfl (by decide +kernel) rfl rfl (Nat.le_of_ble_eq_true rfl) sm_56 eM3 d_Md_newLine_12 ?_
  refine qj_aload_n hx hb d_Md_newLine_15 rfl 0 rfl ?_
  refine qj_iconst (v := 0) hx hb d_Md_newLine_16 (by decide) ?_
  have hf9 := q_lt_s hf; clear hf; obtain ⟨M4, eM4, hf⟩ := hf9
  refine qj_puti (ty := .boolean) hx hb hts hin_12 ty_12 tyok_12 nm_12 hown hK (by decide) rfl rfl 57 (by decide) (hts _ tw_682) (fun _ h => h) rfl (by decide +kernel) rfl rfl (Nat.le_of_ble_eq_true rfl) sm_57 eM4 d_Md_newLine_17 ?_
  exact hret _ _ _ d_Md_newLine_20 (Option.some.inj hf)
theorem d_Md_size_0 : decode prog_14_method_64_code 0 = .ok (.aload_n 0, 1) := by decide +kernel
theorem d_Md_size_1 : decode prog_14_method_64_code 1 = .ok (.getfield 119, 3) := by decide +kernel
theorem d_Md_size_4 : decode prog_14_method_64_code 4 = .ok (.iload_n 1, 1) := by decide +kernel
theorem d_Md_size_5 : decode prog_14_method_64_code 5 = .ok (.iaload, 1) := by decide +kernel
theorem d_Md_size_6 : decode prog_14_method_64_code 6 = .ok (.ifCond .ge 18, 3) := by decide +kernel
theorem d_Md_size_9 : decode prog_14_method_64_code 9 = .ok (.aload_n 0, 1) := by decide +kernel
theorem d_Md_size_10 : decode prog_14_method_64_code 10 = .ok (.getfield 83, 3) := by decide +kernel
theorem d_Md_size_13 : decode prog_14_method_64_code 13 = .ok (.bipush 79, 2) := by decide +kernel
theorem d_Md_size_15 : decode prog_14_method_64_code 15 = .ok (.aload_n 0, 1) := by decide +kernel
theorem d_Md_size_16 : decode prog_14_method_64_code 16 = .ok (.getfield 119, 3) := by decide +kernel
theorem d_Md_size_19 : decode prog_14_method_64_code 19 = .ok (.iload_n 1, 1) := by decide +kernel
theorem d_Md_size_20 : decode prog_14_method_64_code 20 = .ok (.iaload, 1) := by decide +kernel
theorem d_Md_size_21 : decode prog_14_method_64_code 21 = .ok (.isub, 1) := by decide +kernel
theorem d_Md_size_22 : decode prog_14_method_64_code 22 = .ok (.iaload, 1) := by decide +kernel
theorem d_Md_size_23 : decode prog_14_method_64_code 23 = .ok (.ireturn, 1) := by decide +kernel
theorem d_Md_size_24 : decode prog_14_method_64_code 24 = .ok (.aload_n 0, 1) := by decide +kernel
theorem d_Md_size_25 : decode prog_14_method_64_code 25 = .ok (.aload_n 0, 1) := by decide +kernel
theorem d_Md_size_26 : decode prog_14_method_64_code 26 = .ok (.getfield 43, 3) := by decide +kernel
theorem d_Md_size_29 : decode prog_14_method_64_code 29 = .ok (.aload_n 0, 1) := by decide +kernel
theorem d_Md_size_30 : decode prog_14_method_64_code 30 = .ok (.getfield 119, 3) := by decide +kernel
theorem d_Md_size_33 : decode prog_14_method_64_code 33 = .ok (.iload_n 1, 1) := by decide +kernel
theorem d_Md_size_34 : decode prog_14_method_64_code 34 = .ok (.iaload, 1) := by decide +kernel
theorem d_Md_size_35 : decode prog_14_method_64_code 35 = .ok (.iaload, 1) := by decide +kernel
theorem d_Md_size_36 : decode prog_14_method_64_code 36 = .ok (.invokevirtual 202, 3) := by decide +kernel
theorem d_Md_size_39 : decode prog_14_method_64_code 39 = .ok (.istore_n 2, 1) := by decide +kernel
theorem d_Md_size_40 : decode prog_14_method_64_code 40 = .ok (.aload_n 0, 1) := by decide +kernel
theorem d_Md_size_41 : decode prog_14_method_64_code 41 = .ok (.getfield 83, 3) := by decide +kernel
theorem d_Md_size_44 : decode prog_14_method_64_code 44 = .ok (.bipush 80, 2) := by decide +kernel
theorem d_Md_size_46 : decode prog_14_method_64_code 46 = .ok (.aload_n 0, 1) := by decide +kernel
theorem d_Md_size_47 : decode prog_14_method_64_code 47 = .ok (.getfield 74, 3) := by decide +kernel
theorem d_Md_size_50 : decode prog_14_method_64_code 50 = .ok (.iload_n 2, 1) := by decide +kernel
theorem d_Md_size_51 : decode prog_14_method_64_code 51 = .ok (.iaload, 1) := by decide +kernel
theorem d_Md_size_52 : decode prog_14_method_64_code 52 = .ok (.iadd, 1) := by decide +kernel
theorem d_Md_size_53 : decode prog_14_method_64_code 53 = .ok (.iaload, 1) := by decide +kernel
theorem d_Md_size_54 : decode prog_14_method_64_code 54 = .ok (.ireturn, 1) := by decide +kernel
def f_Md_size (a1 : Int32) (M : qM) : Option Int32 := q_ix a1 200 <| if 0 ≤ (M.1 37 a1.toNatClampNeg) then (q_ix a1 200 <| q_ix (M.1 37 a1.toNatClampNeg) 160 <| q_bp (f_Md_seat (M.1 12 (M.1 37 a1.toNatClampNeg).toNatClampNeg) M) fun x5 => q_ix x5 40 <| q_ix (80 + (M.1 22 x5.toNatClampNeg)) 280 <| some (M.1 25 (80 + (M.1 22 x5.toNatClampNeg)).toNatClampNeg)) else (q_ix a1 200 <| q_ix (79 - (M.1 37 a1.toNatClampNeg)) 280 <| some (M.1 25 (79 - (M.1 37 a1.toNatClampNeg)).toNatClampNeg))
abbrev rm_Md_size : Room := { frames := 1, cells := 0, slots := 0, locals := 23 }
set_option maxRecDepth 100000 in
set_option maxHeartbeats 4000000 in
theorem c_Md_size {l : Launch} {D : va_G} {dA : Nat → ClassId} {b : Nat} (a1 : Int32)  (M : qM) (out : Int32) (hf : f_Md_size a1 M = some out) : CTi l y_Md_size w_Md_size rm_Md_size D (tysX dA) (enM dA b) 38 b (fun _ => True) [qr (some 0), qi a1] M (out, M) := by
  refine qm_i (cc := prog_14_method_64_code) (nL := 3) (by decide) rfl (Nat.le_of_ble_eq_true rfl) ?_
  intro p e s m args below meth c Q hx hb hts0 hown hml hK hs hret
  have hts : ∀ w ∈ lw_g, w.before args s = true := fun w h => hts0 w (List.mem_cons_of_mem _ h)
  show QJ p l e rm_Md_size s m args below meth c (qA 38 b) b 3 0 0 Q (qWd D (enM dA b) 38 b) M 0 [(0, qr (some 0)), (1, qi a1)] []
  unfold f_Md_size at hf
  refine qj_aload_n hx hb d_Md_size_0 rfl 0 rfl ?_
  refine qj_get hx hb hts hin_12 hown hK (by decide) rfl rfl 51 (by decide) (hts _ tw_678) (fun _ h => h) (qr (some 37)) rfl d_Md_size_1 ?_
  refine qj_iload_n hx hb d_Md_size_4 rfl 1 rfl ?_
  have hf9 := q_ix_s hf; clear hf; obtain ⟨hi1, hf⟩ := hf9
  refine qj_iald (t0 := 0) hx hb hK (by decide) (fun _ _ => rfl) rfl hi1 d_Md_size_5 ?_
  refine qj_if_ge (tgt := 24) hx hb d_Md_size_6 (by decide) (fun hc2 => ?_) (fun hc2 => ?_)
  · replace hf := q_if_t hc2 hf
    refine qj_aload_n hx hb d_Md_size_24 rfl 0 rfl ?_
    refine qj_aload_n hx hb d_Md_size_25 rfl 0 rfl ?_
    refine qj_get hx hb hts hin_12 hown hK (by decide) rfl rfl 19 (by decide) (hts _ tw_569) (fun _ h => h) (qr (some 12)) rfl d_Md_size_26 ?_
    refine qj_aload_n hx hb d_Md_size_29 rfl 0 rfl ?_
    refine qj_get hx hb hts hin_12 hown hK (by decide) rfl rfl 51 (by decide) (hts _ tw_678) (fun _ h => h) (qr (some 37)) rfl d_Md_size_30 ?_
    refine qj_iload_n hx hb d_Md_size_33 rfl 1 rfl ?_
    have hf9 := q_ix_s hf; clear hf; obtain ⟨hi3, hf⟩ := hf9
    refine qj_iald (t0 := 0) hx hb hK (by decide) (fun _ _ => rfl) rfl hi3 d_Md_size_34 ?_
    have hf9 := q_ix_s hf; clear hf; obtain ⟨hi4, hf⟩ := hf9
    refine qj_iald (t0 := 0) hx hb hK (by decide) (fun _ _ => rfl) rfl hi4 d_Md_size_35 ?_
    have hf9 := q_bp_s hf; clear hf; obtain ⟨x5, hx5, hf⟩ := hf9
    refine qc_Vi (st := []) hx hb hml hown hts hK qT_ok hs (c_Md_seat (M.1 12 (M.1 37 a1.toNatClampNeg).toNatClampNeg) M _ hx5) ⟨(callB_of 1 hts (q_good tw_478) rfl rfl rfl (hts _ tw_459) (hts _ tw_479) (by decide +kernel) ⟨by decide, by decide⟩), (hts _ tw_480), (hts _ tw_481)⟩ (by decide) rfl rfl rfl rfl (Nat.le_of_ble_eq_true rfl) d_Md_size_36 ?_
    refine qj_istore_n hx hb d_Md_size_39 rfl (by decide) rfl ?_
    refine qj_aload_n hx hb d_Md_size_40 rfl 1 rfl ?_
    refine qj_get hx hb hts hin_12 hown hK (by decide) rfl rfl 36 (by decide) (hts _ tw_642) (fun _ h => h) (qr (some 25)) rfl d_Md_size_41 ?_
    refine qj_bipush (v := 80) hx hb d_Md_size_44 (by decide) ?_
    refine qj_aload_n hx hb d_Md_size_46 rfl 1 rfl ?_
    refine qj_get hx hb hts hin_12 hown hK (by decide) rfl rfl 33 (by decide) (hts _ tw_630) (fun _ h => h) (qr (some 22)) rfl d_Md_size_47 ?_
    refine qj_iload_n hx hb d_Md_size_50 rfl 0 rfl ?_
    have hf9 := q_ix_s hf; clear hf; obtain ⟨hi6, hf⟩ := hf9
    refine qj_iald (t0 := 0) hx hb hK (by decide) (fun _ _ => rfl) rfl hi6 d_Md_size_51 ?_
    refine qj_iadd hx hb d_Md_size_52 ?_
    have hf9 := q_ix_s hf; clear hf; obtain ⟨hi7, hf⟩ := hf9
    refine qj_iald (t0 := 0) hx hb hK (by decide) (fun _ _ => rfl) rfl hi7 d_Md_size_53 ?_
    exact hret _ _ _ _ d_Md_size_54 (congrArg (fun z => (z, M)) (Option.some.inj hf))
  · replace hf := q_if_f hc2 hf
    refine qj_aload_n hx hb d_Md_size_9 rfl 0 rfl ?_
    refine qj_get hx hb hts hin_12 hown hK (by decide) rfl rfl 36 (by decide) (hts _ tw_642) (fun _ h => h) (qr (some 25)) rfl d_Md_size_10 ?_
    refine qj_bipush (v := 79) hx hb d_Md_size_13 (by decide) ?_
    refine qj_aload_n hx hb d_Md_size_15 rfl 0 rfl ?_
    refine qj_get hx hb hts hin_12 hown hK (by decide) rfl rfl 51 (by decide) (hts _ tw_678) (fun _ h => h) (qr (some 37)) rfl d_Md_size_16 ?_
    refine qj_iload_n hx hb d_Md_size_19 rfl 1 rfl ?_
    have hf9 := q_ix_s hf; clear hf; obtain ⟨hi8, hf⟩ := hf9
    refine qj_iald (t0 := 0) hx hb hK (by decide) (fun _ _ => rfl) rfl hi8 d_Md_size_20 ?_
    refine qj_isub hx hb d_Md_size_21 ?_
    have hf9 := q_ix_s hf; clear hf; obtain ⟨hi9, hf⟩ := hf9
    refine qj_iald (t0 := 0) hx hb hK (by decide) (fun _ _ => rfl) rfl hi9 d_Md_size_22 ?_
    exact hret _ _ _ _ d_Md_size_23 (congrArg (fun z => (z, M)) (Option.some.inj hf))
theorem d_Md_endLine_0 : decode prog_14_method_67_code 0 = .ok (.aload_n 0, 1) := by decide +kernel
theorem d_Md_endLine_1 : decode prog_14_method_67_code 1 = .ok (.getfield 366, 3) := by decide +kernel
theorem d_Md_endLine_4 : decode prog_14_method_67_code 4 = .ok (.istore_n 2, 1) := by decide +kernel
theorem d_Md_endLine_5 : decode prog_14_method_67_code 5 = .ok (.iload_n 2, 1) := by decide +kernel
theorem d_Md_endLine_6 : decode prog_14_method_67_code 6 = .ok (.iload_n 1, 1) := by decide +kernel
theorem d_Md_endLine_7 : decode prog_14_method_67_code 7 = .ok (.if_icmp .ge 60, 3) := by decide +kernel
theorem d_Md_endLine_10 : decode prog_14_method_67_code 10 = .ok (.aload_n 0, 1) := by decide +kernel
theorem d_Md_endLine_11 : decode prog_14_method_67_code 11 = .ok (.getfield 119, 3) := by decide +kernel
theorem d_Md_endLine_14 : decode prog_14_method_67_code 14 = .ok (.iload_n 2, 1) := by decide +kernel
theorem d_Md_endLine_15 : decode prog_14_method_67_code 15 = .ok (.iaload, 1) := by decide +kernel
theorem d_Md_endLine_16 : decode prog_14_method_67_code 16 = .ok (.ifCond .lt 45, 3) := by decide +kernel
theorem d_Md_endLine_19 : decode prog_14_method_67_code 19 = .ok (.aload_n 0, 1) := by decide +kernel
theorem d_Md_endLine_20 : decode prog_14_method_67_code 20 = .ok (.getfield 40, 3) := by decide +kernel
theorem d_Md_endLine_23 : decode prog_14_method_67_code 23 = .ok (.aload_n 0, 1) := by decide +kernel
theorem d_Md_endLine_24 : decode prog_14_method_67_code 24 = .ok (.getfield 119, 3) := by decide +kernel
theorem d_Md_endLine_27 : decode prog_14_method_67_code 27 = .ok (.iload_n 2, 1) := by decide +kernel
theorem d_Md_endLine_28 : decode prog_14_method_67_code 28 = .ok (.iaload, 1) := by decide +kernel
theorem d_Md_endLine_29 : decode prog_14_method_67_code 29 = .ok (.iaload, 1) := by decide +kernel
theorem d_Md_endLine_30 : decode prog_14_method_67_code 30 = .ok (.bipush 32, 2) := by decide +kernel
theorem d_Md_endLine_32 : decode prog_14_method_67_code 32 = .ok (.if_icmp .eq 29, 3) := by decide +kernel
theorem d_Md_endLine_35 : decode prog_14_method_67_code 35 = .ok (.aload_n 0, 1) := by decide +kernel
theorem d_Md_endLine_36 : decode prog_14_method_67_code 36 = .ok (.getfield 113, 3) := by decide +kernel
theorem d_Md_endLine_39 : decode prog_14_method_67_code 39 = .ok (.aload_n 0, 1) := by decide +kernel
theorem d_Md_endLine_40 : decode prog_14_method_67_code 40 = .ok (.getfield 119, 3) := by decide +kernel
theorem d_Md_endLine_43 : decode prog_14_method_67_code 43 = .ok (.iload_n 2, 1) := by decide +kernel
theorem d_Md_endLine_44 : decode prog_14_method_67_code 44 = .ok (.iaload, 1) := by decide +kernel
theorem d_Md_endLine_45 : decode prog_14_method_67_code 45 = .ok (.aload_n 0, 1) := by decide +kernel
theorem d_Md_endLine_46 : decode prog_14_method_67_code 46 = .ok (.getfield 344, 3) := by decide +kernel
theorem d_Md_endLine_49 : decode prog_14_method_67_code 49 = .ok (.aload_n 0, 1) := by decide +kernel
theorem d_Md_endLine_50 : decode prog_14_method_67_code 50 = .ok (.getfield 360, 3) := by decide +kernel
theorem d_Md_endLine_53 : decode prog_14_method_67_code 53 = .ok (.iadd, 1) := by decide +kernel
theorem d_Md_endLine_54 : decode prog_14_method_67_code 54 = .ok (.aload_n 0, 1) := by decide +kernel
theorem d_Md_endLine_55 : decode prog_14_method_67_code 55 = .ok (.iload_n 2, 1) := by decide +kernel
theorem d_Md_endLine_56 : decode prog_14_method_67_code 56 = .ok (.invokevirtual 354, 3) := by decide +kernel
theorem d_Md_endLine_59 : decode prog_14_method_67_code 59 = .ok (.isub, 1) := by decide +kernel
theorem d_Md_endLine_60 : decode prog_14_method_67_code 60 = .ok (.iastore, 1) := by decide +kernel
theorem d_Md_endLine_61 : decode prog_14_method_67_code 61 = .ok (.iinc 2 1, 3) := by decide +kernel
theorem d_Md_endLine_64 : decode prog_14_method_67_code 64 = .ok (.goto (-59), 3) := by decide +kernel
theorem d_Md_endLine_67 : decode prog_14_method_67_code 67 = .ok (.aload_n 0, 1) := by decide +kernel
theorem d_Md_endLine_68 : decode prog_14_method_67_code 68 = .ok (.dup, 1) := by decide +kernel
theorem d_Md_endLine_69 : decode prog_14_method_67_code 69 = .ok (.getfield 344, 3) := by decide +kernel
theorem d_Md_endLine_72 : decode prog_14_method_67_code 72 = .ok (.aload_n 0, 1) := by decide +kernel
theorem d_Md_endLine_73 : decode prog_14_method_67_code 73 = .ok (.getfield 360, 3) := by decide +kernel
theorem d_Md_endLine_76 : decode prog_14_method_67_code 76 = .ok (.iadd, 1) := by decide +kernel
theorem d_Md_endLine_77 : decode prog_14_method_67_code 77 = .ok (.putfield 344, 3) := by decide +kernel
theorem d_Md_endLine_80 : decode prog_14_method_67_code 80 = .ok (.aload_n 0, 1) := by decide +kernel
theorem d_Md_endLine_81 : decode prog_14_method_67_code 81 = .ok (.dup, 1) := by decide +kernel
theorem d_Md_endLine_82 : decode prog_14_method_67_code 82 = .ok (.getfield 313, 3) := by decide +kernel
theorem d_Md_endLine_85 : decode prog_14_method_67_code 85 = .ok (.iconst 1, 1) := by decide +kernel
theorem d_Md_endLine_86 : decode prog_14_method_67_code 86 = .ok (.iadd, 1) := by decide +kernel
theorem d_Md_endLine_87 : decode prog_14_method_67_code 87 = .ok (.putfield 313, 3) := by decide +kernel
theorem d_Md_endLine_90 : decode prog_14_method_67_code 90 = .ok (.aload_n 0, 1) := by decide +kernel
theorem d_Md_endLine_91 : decode prog_14_method_67_code 91 = .ok (.iload_n 1, 1) := by decide +kernel
theorem d_Md_endLine_92 : decode prog_14_method_67_code 92 = .ok (.invokevirtual 347, 3) := by decide +kernel
theorem d_Md_endLine_95 : decode prog_14_method_67_code 95 = .ok (.return_, 1) := by decide +kernel
def f_Md_endLine_5 (a1 : Int32) : Nat → (qM → Option qM) → Int32 → qM → Option qM
  | 0, _, _, _ => none
  | n + 1, K3, x1, M2 => if a1 ≤ x1 then (K3 M2) else (q_ix x1 200 <| if (M2.1 37 x1.toNatClampNeg) < 0 then (f_Md_endLine_5 a1 n K3 (x1 + 1) M2) else (q_ix x1 200 <| q_ix (M2.1 37 x1.toNatClampNeg) 160 <| if (M2.1 11 (M2.1 37 x1.toNatClampNeg).toNatClampNeg) = 32 then (f_Md_endLine_5 a1 n K3 (x1 + 1) M2) else (q_ix x1 200 <| q_bp (f_Md_size x1 M2) fun x11 => q_ix (M2.1 37 x1.toNatClampNeg) 160 <| q_lt (qsI M2 35 (M2.1 37 x1.toNatClampNeg).toNatClampNeg (((M2.1 0 53) + (M2.1 0 56)) - x11)) fun M13 => f_Md_endLine_5 a1 n K3 (x1 + 1) M13)))
def f_Md_endLine (a1 : Int32) (M : qM) : Option qM := f_Md_endLine_5 a1 1000 (fun (M14 : qM) => q_lt (qsI M14 0 53 ((M14.1 0 53) + (M14.1 0 56))) fun M15 => q_lt (qsI M15 0 39 ((M15.1 0 39) + 1)) fun M16 => q_cv (f_Md_newLine a1 M16) fun M17 => some M17) (M.1 0 54) M
abbrev rm_Md_endLine : Room := { frames := 2, cells := 0, slots := 0, locals := 45 }
set_option maxRecDepth 100000 in
set_option maxHeartbeats 4000000 in
theorem c_Md_endLine {l : Launch} {D : va_G} {dA : Nat → ClassId} {b : Nat} (a1 : Int32)  (M : qM) (out : qM) (hf : f_Md_endLine a1 M = some out) : CTv l y_Md_endLine w_Md_endLine rm_Md_endLine D (tysX dA) (enM dA b) 38 b (fun _ => True) [qr (some 0), qi a1] M out := by
  refine qm_v (cc := prog_14_method_67_code) (nL := 3) (by decide) rfl (Nat.le_of_ble_eq_true rfl) ?_
  intro p e s m args below meth c Q hx hb hts0 hown hml hK hs hret
  have hts : ∀ w ∈ lw_g, w.before args s = true := fun w h => hts0 w (List.mem_cons_of_mem _ h)
  show QJ p l e rm_Md_endLine s m args below meth c (qA 38 b) b 3 0 0 Q (qWd D (enM dA b) 38 b) M 0 [(0, qr (some 0)), (1, qi a1)] []
  unfold f_Md_endLine at hf
  refine qj_aload_n hx hb d_Md_endLine_0 rfl 0 rfl ?_
  refine qj_get hx hb hts hin_12 hown hK (by decide) rfl rfl 54 (by decide) (hts _ tw_679) (fun _ h => h) (qi (M.1 0 54)) rfl d_Md_endLine_1 ?_
  refine qj_istore_n hx hb d_Md_endLine_4 rfl (by decide) rfl ?_
  have hL5 : ∀ (n : Nat) (K3 : qM → Option qM), (∀ (M14 : qM), K3 M14 = some out → QJ p l e rm_Md_endLine s m args below meth c (qA 38 b) b 3 0 0 Q (qWd D (enM dA b) 38 b) M14 67 [(0, qr (some 0)), (1, qi a1)] []) → ∀ (x1 : Int32) (M2 : qM), f_Md_endLine_5 a1 n K3 x1 M2 = some out → QJ p l e rm_Md_endLine s m args below meth c (qA 38 b) b 3 0 0 Q (qWd D (enM dA b) 38 b) M2 5 [(0, qr (some 0)), (1, qi a1), (2, qi x1)] [] := by
    clear hf
    intro n
    induction n with
    | zero =>
      intro K3 hK3 x1 M2 hf
      exact absurd hf (by simp [f_Md_endLine_5])
    | succ n ih5 =>
      intro K3 hK3 x1 M2 hf
      rw [f_Md_endLine_5] at hf
      have ih5 := ih5 K3 hK3
      refine qj_iload_n hx hb d_Md_endLine_5 rfl 2 rfl ?_
      refine qj_iload_n hx hb d_Md_endLine_6 rfl 1 rfl ?_
      refine qj_icmp_ge (tgt := 67) hx hb d_Md_endLine_7 (by decide) (fun hc4 => ?_) (fun hc4 => ?_)
      · replace hf := q_if_t hc4 hf
        refine qj_sub [0, 1] rfl ?_
        exact hK3 M2 hf
      · replace hf := q_if_f hc4 hf
        refine qj_aload_n hx hb d_Md_endLine_10 rfl 0 rfl ?_
        refine qj_get hx hb hts hin_12 hown hK (by decide) rfl rfl 51 (by decide) (hts _ tw_678) (fun _ h => h) (qr (some 37)) rfl d_Md_endLine_11 ?_
        refine qj_iload_n hx hb d_Md_endLine_14 rfl 2 rfl ?_
        have hf9 := q_ix_s hf; clear hf; obtain ⟨hi5, hf⟩ := hf9
        refine qj_iald (t0 := 0) hx hb hK (by decide) (fun _ _ => rfl) rfl hi5 d_Md_endLine_15 ?_
        refine qj_if_lt (tgt := 61) hx hb d_Md_endLine_16 (by decide) (fun hc6 => ?_) (fun hc6 => ?_)
        · replace hf := q_if_t hc6 hf
          refine qj_iinc (j := 2) (v := x1 + 1) hx hb d_Md_endLine_61 rfl rfl (by decide) rfl ?_
          refine qj_goto (tgt := 5) hx hb d_Md_endLine_64 (by decide) ?_
          refine qj_sub [1, 2, 0] rfl ?_
          exact ih5 (x1 + 1) M2 hf
        · replace hf := q_if_f hc6 hf
          refine qj_aload_n hx hb d_Md_endLine_19 rfl 0 rfl ?_
          refine qj_get hx hb hts hin_12 hown hK (by decide) rfl rfl 18 (by decide) (hts _ tw_568) (fun _ h => h) (qr (some 11)) rfl d_Md_endLine_20 ?_
          refine qj_aload_n hx hb d_Md_endLine_23 rfl 0 rfl ?_
          refine qj_get hx hb hts hin_12 hown hK (by decide) rfl rfl 51 (by decide) (hts _ tw_678) (fun _ h => h) (qr (some 37)) rfl d_Md_endLine_24 ?_
          refine qj_iload_n hx hb d_Md_endLine_27 rfl 2 rfl ?_
          have hf9 := q_ix_s hf; clear hf; obtain ⟨hi7, hf⟩ := hf9
          refine qj_iald (t0 := 0) hx hb hK (by decide) (fun _ _ => rfl) rfl hi7 d_Md_endLine_28 ?_
          have hf9 := q_ix_s hf; clear hf; obtain ⟨hi8, hf⟩ := hf9
          refine qj_iald (t0 := 0) hx hb hK (by decide) (fun _ _ => rfl) rfl hi8 d_Md_endLine_29 ?_
          refine qj_bipush (v := 32) hx hb d_Md_endLine_30 (by decide) ?_
          refine qj_icmp_eq (tgt := 61) hx hb d_Md_endLine_32 (by decide) (fun hc9 => ?_) (fun hc9 => ?_)
          · replace hf := q_if_t hc9 hf
            refine qj_iinc (j := 2) (v := x1 + 1) hx hb d_Md_endLine_61 rfl rfl (by decide) rfl ?_
            refine qj_goto (tgt := 5) hx hb d_Md_endLine_64 (by decide) ?_
            refine qj_sub [1, 2, 0] rfl ?_
            exact ih5 (x1 + 1) M2 hf
          · replace hf := q_if_f hc9 hf
            refine qj_aload_n hx hb d_Md_endLine_35 rfl 0 rfl ?_
            refine qj_get hx hb hts hin_12 hown hK (by decide) rfl rfl 49 (by decide) (hts _ tw_683) (fun _ h => h) (qr (some 35)) rfl d_Md_endLine_36 ?_
            refine qj_aload_n hx hb d_Md_endLine_39 rfl 0 rfl ?_
            refine qj_get hx hb hts hin_12 hown hK (by decide) rfl rfl 51 (by decide) (hts _ tw_678) (fun _ h => h) (qr (some 37)) rfl d_Md_endLine_40 ?_
            refine qj_iload_n hx hb d_Md_endLine_43 rfl 2 rfl ?_
            have hf9 := q_ix_s hf; clear hf; obtain ⟨hi10, hf⟩ := hf9
            refine qj_iald (t0 := 0) hx hb hK (by decide) (fun _ _ => rfl) rfl hi10 d_Md_endLine_44 ?_
            refine qj_aload_n hx hb d_Md_endLine_45 rfl 0 rfl ?_
            refine qj_get hx hb hts hin_12 hown hK (by decide) rfl rfl 53 (by decide) (hts _ tw_684) (fun _ h => h) (qi (M2.1 0 53)) rfl d_Md_endLine_46 ?_
            refine qj_aload_n hx hb d_Md_endLine_49 rfl 0 rfl ?_
            refine qj_get hx hb hts hin_12 hown hK (by decide) rfl rfl 56 (by decide) (hts _ tw_681) (fun _ h => h) (qi (M2.1 0 56)) rfl d_Md_endLine_50 ?_
            refine qj_iadd hx hb d_Md_endLine_53 ?_
            refine qj_aload_n hx hb d_Md_endLine_54 rfl 0 rfl ?_
            refine qj_iload_n hx hb d_Md_endLine_55 rfl 2 rfl ?_
            have hf9 := q_bp_s hf; clear hf; obtain ⟨x11, hx11, hf⟩ := hf9
            refine qc_Vi (st := [qi ((M2.1 0 53) + (M2.1 0 56)), qi (M2.1 37 x1.toNatClampNeg), qr (some 35)]) hx hb hml hown hts hK qT_ok hs (c_Md_size x1 M2 _ hx11) ⟨(callB_of 1 hts (q_good tw_685) rfl rfl rfl (hts _ tw_459) (hts _ tw_686) (by decide +kernel) ⟨by decide, by decide⟩), (hts _ tw_687), (hts _ tw_688)⟩ (by decide) rfl rfl rfl rfl (Nat.le_of_ble_eq_true rfl) d_Md_endLine_56 ?_
            refine qj_isub hx hb d_Md_endLine_59 ?_
            have hf9 := q_ix_s hf; clear hf; obtain ⟨hi12, hf⟩ := hf9
            have hf9 := q_lt_s hf; clear hf; obtain ⟨M13, eM13, hf⟩ := hf9
            refine qj_iast (t0 := 0) hx hb hK (by decide) (fun _ _ => rfl) rfl hi12 eM13 d_Md_endLine_60 ?_
            refine qj_iinc (j := 2) (v := x1 + 1) hx hb d_Md_endLine_61 rfl rfl (by decide) rfl ?_
            refine qj_goto (tgt := 5) hx hb d_Md_endLine_64 (by decide) ?_
            refine qj_sub [1, 2, 0] rfl ?_
            exact ih5 (x1 + 1) M13 hf
  refine qj_sub [1, 2, 0] rfl ?_
  refine hL5 _ _ (fun M14 hf9 => ?_) (M.1 0 54) M hf
  clear hf; have hf := hf9; clear hf9
  refine qj_aload_n hx hb d_Md_endLine_67 rfl 0 rfl ?_
  refine qj_dup hx hb d_Md_endLine_68 ?_
  refine qj_get hx hb hts hin_12 hown hK (by decide) rfl rfl 53 (by decide) (hts _ tw_684) (fun _ h => h) (qi (M14.1 0 53)) rfl d_Md_endLine_69 ?_
  refine qj_aload_n hx hb d_Md_endLine_72 rfl 0 rfl ?_
  refine qj_get hx hb hts hin_12 hown hK (by decide) rfl rfl 56 (by decide) (hts _ tw_681) (fun _ h => h) (qi (M14.1 0 56)) rfl d_Md_endLine_73 ?_
  refine qj_iadd hx hb d_Md_endLine_76 ?_
  have hf9 := q_lt_s hf; clear hf; obtain ⟨M15, eM15, hf⟩ := hf9
  refine qj_puti (ty := .int) hx hb hts hin_12 ty_12 tyok_12 nm_12 hown hK (by decide) rfl rfl 53 (by decide) (hts _ tw_684) (fun _ h => h) rfl (by decide +kernel) rfl rfl (Nat.le_of_ble_eq_true rfl) sm_53 eM15 d_Md_endLine_77 ?_
  refine qj_aload_n hx hb d_Md_endLine_80 rfl 0 rfl ?_
  refine qj_dup hx hb d_Md_endLine_81 ?_
  refine qj_get hx hb hts hin_12 hown hK (by decide) rfl rfl 39 (by decide) (hts _ tw_689) (fun _ h => h) (qi (M15.1 0 39)) rfl d_Md_endLine_82 ?_
  refine qj_iconst (v := 1) hx hb d_Md_endLine_85 (by decide) ?_
  refine qj_iadd hx hb d_Md_endLine_86 ?_
  have hf9 := q_lt_s hf; clear hf; obtain ⟨M16, eM16, hf⟩ := hf9
  refine qj_puti (ty := .int) hx hb hts hin_12 ty_12 tyok_12 nm_12 hown hK (by decide) rfl rfl 39 (by decide) (hts _ tw_689) (fun _ h => h) rfl (by decide +kernel) rfl rfl (Nat.le_of_ble_eq_true rfl) sm_39 eM16 d_Md_endLine_87 ?_
  refine qj_aload_n hx hb d_Md_endLine_90 rfl 0 rfl ?_
  refine qj_iload_n hx hb d_Md_endLine_91 rfl 1 rfl ?_
  have hf9 := q_cv_s hf; clear hf; obtain ⟨M17, hM17, hf⟩ := hf9
  refine qc_Vv (st := []) hx hb hml hown hts hK qT_ok hs (c_Md_newLine a1 M16 _ hM17) ⟨(callB_of 1 hts (q_good tw_690) rfl rfl rfl (hts _ tw_459) (hts _ tw_691) (by decide +kernel) ⟨by decide, by decide⟩), (hts _ tw_692), (hts _ tw_693)⟩ (by decide) rfl rfl rfl rfl (Nat.le_of_ble_eq_true rfl) d_Md_endLine_92 ?_
  exact hret _ _ _ d_Md_endLine_95 (Option.some.inj hf)
theorem d_Md_putWord_0 : decode prog_14_method_68_code 0 = .ok (.iconst 0, 1) := by decide +kernel
theorem d_Md_putWord_1 : decode prog_14_method_68_code 1 = .ok (.istore 5, 2) := by decide +kernel
theorem d_Md_putWord_3 : decode prog_14_method_68_code 3 = .ok (.iconst 0, 1) := by decide +kernel
theorem d_Md_putWord_4 : decode prog_14_method_68_code 4 = .ok (.istore 6, 2) := by decide +kernel
theorem d_Md_putWord_6 : decode prog_14_method_68_code 6 = .ok (.iload_n 2, 1) := by decide +kernel
theorem d_Md_putWord_7 : decode prog_14_method_68_code 7 = .ok (.istore 7, 2) := by decide +kernel
theorem d_Md_putWord_9 : decode prog_14_method_68_code 9 = .ok (.iload 7, 2) := by decide +kernel
theorem d_Md_putWord_11 : decode prog_14_method_68_code 11 = .ok (.iload_n 3, 1) := by decide +kernel
theorem d_Md_putWord_12 : decode prog_14_method_68_code 12 = .ok (.if_icmp .ge 40, 3) := by decide +kernel
theorem d_Md_putWord_15 : decode prog_14_method_68_code 15 = .ok (.aload_n 0, 1) := by decide +kernel
theorem d_Md_putWord_16 : decode prog_14_method_68_code 16 = .ok (.iload 7, 2) := by decide +kernel
theorem d_Md_putWord_18 : decode prog_14_method_68_code 18 = .ok (.invokevirtual 354, 3) := by decide +kernel
theorem d_Md_putWord_21 : decode prog_14_method_68_code 21 = .ok (.istore 8, 2) := by decide +kernel
theorem d_Md_putWord_23 : decode prog_14_method_68_code 23 = .ok (.iload 5, 2) := by decide +kernel
theorem d_Md_putWord_25 : decode prog_14_method_68_code 25 = .ok (.iload 8, 2) := by decide +kernel
theorem d_Md_putWord_27 : decode prog_14_method_68_code 27 = .ok (.iadd, 1) := by decide +kernel
theorem d_Md_putWord_28 : decode prog_14_method_68_code 28 = .ok (.istore 5, 2) := by decide +kernel
theorem d_Md_putWord_30 : decode prog_14_method_68_code 30 = .ok (.iload 8, 2) := by decide +kernel
theorem d_Md_putWord_32 : decode prog_14_method_68_code 32 = .ok (.iload 6, 2) := by decide +kernel
theorem d_Md_putWord_34 : decode prog_14_method_68_code 34 = .ok (.if_icmp .le 8, 3) := by decide +kernel
theorem d_Md_putWord_37 : decode prog_14_method_68_code 37 = .ok (.iload 8, 2) := by decide +kernel
theorem d_Md_putWord_39 : decode prog_14_method_68_code 39 = .ok (.goto 5, 3) := by decide +kernel
theorem d_Md_putWord_42 : decode prog_14_method_68_code 42 = .ok (.iload 6, 2) := by decide +kernel
theorem d_Md_putWord_44 : decode prog_14_method_68_code 44 = .ok (.istore 6, 2) := by decide +kernel
theorem d_Md_putWord_46 : decode prog_14_method_68_code 46 = .ok (.iinc 7 1, 3) := by decide +kernel
theorem d_Md_putWord_49 : decode prog_14_method_68_code 49 = .ok (.goto (-40), 3) := by decide +kernel
theorem d_Md_putWord_52 : decode prog_14_method_68_code 52 = .ok (.aload_n 0, 1) := by decide +kernel
theorem d_Md_putWord_53 : decode prog_14_method_68_code 53 = .ok (.getfield 357, 3) := by decide +kernel
theorem d_Md_putWord_56 : decode prog_14_method_68_code 56 = .ok (.ifCond .eq 27, 3) := by decide +kernel
theorem d_Md_putWord_59 : decode prog_14_method_68_code 59 = .ok (.aload_n 0, 1) := by decide +kernel
theorem d_Md_putWord_60 : decode prog_14_method_68_code 60 = .ok (.getfield 369, 3) := by decide +kernel
theorem d_Md_putWord_63 : decode prog_14_method_68_code 63 = .ok (.iload 4, 2) := by decide +kernel
theorem d_Md_putWord_65 : decode prog_14_method_68_code 65 = .ok (.iadd, 1) := by decide +kernel
theorem d_Md_putWord_66 : decode prog_14_method_68_code 66 = .ok (.iload 5, 2) := by decide +kernel
theorem d_Md_putWord_68 : decode prog_14_method_68_code 68 = .ok (.iadd, 1) := by decide +kernel
theorem d_Md_putWord_69 : decode prog_14_method_68_code 69 = .ok (.aload_n 0, 1) := by decide +kernel
theorem d_Md_putWord_70 : decode prog_14_method_68_code 70 = .ok (.getfield 98, 3) := by decide +kernel
theorem d_Md_putWord_73 : decode prog_14_method_68_code 73 = .ok (.iload_n 1, 1) := by decide +kernel
theorem d_Md_putWord_74 : decode prog_14_method_68_code 74 = .ok (.iaload, 1) := by decide +kernel
theorem d_Md_putWord_75 : decode prog_14_method_68_code 75 = .ok (.if_icmp .le 8, 3) := by decide +kernel
theorem d_Md_putWord_78 : decode prog_14_method_68_code 78 = .ok (.aload_n 0, 1) := by decide +kernel
theorem d_Md_putWord_79 : decode prog_14_method_68_code 79 = .ok (.iload_n 2, 1) := by decide +kernel
theorem d_Md_putWord_80 : decode prog_14_method_68_code 80 = .ok (.invokevirtual 363, 3) := by decide +kernel
theorem d_Md_putWord_83 : decode prog_14_method_68_code 83 = .ok (.aload_n 0, 1) := by decide +kernel
theorem d_Md_putWord_84 : decode prog_14_method_68_code 84 = .ok (.getfield 357, 3) := by decide +kernel
theorem d_Md_putWord_87 : decode prog_14_method_68_code 87 = .ok (.ifCond .eq 13, 3) := by decide +kernel
theorem d_Md_putWord_90 : decode prog_14_method_68_code 90 = .ok (.aload_n 0, 1) := by decide +kernel
theorem d_Md_putWord_91 : decode prog_14_method_68_code 91 = .ok (.getfield 369, 3) := by decide +kernel
theorem d_Md_putWord_94 : decode prog_14_method_68_code 94 = .ok (.iload 4, 2) := by decide +kernel
theorem d_Md_putWord_96 : decode prog_14_method_68_code 96 = .ok (.iadd, 1) := by decide +kernel
theorem d_Md_putWord_97 : decode prog_14_method_68_code 97 = .ok (.goto 4, 3) := by decide +kernel
theorem d_Md_putWord_100 : decode prog_14_method_68_code 100 = .ok (.iconst 0, 1) := by decide +kernel
theorem d_Md_putWord_101 : decode prog_14_method_68_code 101 = .ok (.istore 7, 2) := by decide +kernel
theorem d_Md_putWord_103 : decode prog_14_method_68_code 103 = .ok (.iload_n 2, 1) := by decide +kernel
theorem d_Md_putWord_104 : decode prog_14_method_68_code 104 = .ok (.istore 8, 2) := by decide +kernel
theorem d_Md_putWord_106 : decode prog_14_method_68_code 106 = .ok (.iload 8, 2) := by decide +kernel
theorem d_Md_putWord_108 : decode prog_14_method_68_code 108 = .ok (.iload_n 3, 1) := by decide +kernel
theorem d_Md_putWord_109 : decode prog_14_method_68_code 109 = .ok (.if_icmp .ge 74, 3) := by decide +kernel
theorem d_Md_putWord_112 : decode prog_14_method_68_code 112 = .ok (.aload_n 0, 1) := by decide +kernel
theorem d_Md_putWord_113 : decode prog_14_method_68_code 113 = .ok (.getfield 107, 3) := by decide +kernel
theorem d_Md_putWord_116 : decode prog_14_method_68_code 116 = .ok (.aload_n 0, 1) := by decide +kernel
theorem d_Md_putWord_117 : decode prog_14_method_68_code 117 = .ok (.getfield 119, 3) := by decide +kernel
theorem d_Md_putWord_120 : decode prog_14_method_68_code 120 = .ok (.iload 8, 2) := by decide +kernel
theorem d_Md_putWord_122 : decode prog_14_method_68_code 122 = .ok (.iaload, 1) := by decide +kernel
theorem d_Md_putWord_123 : decode prog_14_method_68_code 123 = .ok (.iconst 1, 1) := by decide +kernel
theorem d_Md_putWord_124 : decode prog_14_method_68_code 124 = .ok (.bastore, 1) := by decide +kernel
theorem d_Md_putWord_125 : decode prog_14_method_68_code 125 = .ok (.aload_n 0, 1) := by decide +kernel
theorem d_Md_putWord_126 : decode prog_14_method_68_code 126 = .ok (.getfield 116, 3) := by decide +kernel
theorem d_Md_putWord_129 : decode prog_14_method_68_code 129 = .ok (.aload_n 0, 1) := by decide +kernel
theorem d_Md_putWord_130 : decode prog_14_method_68_code 130 = .ok (.getfield 119, 3) := by decide +kernel
theorem d_Md_putWord_133 : decode prog_14_method_68_code 133 = .ok (.iload 8, 2) := by decide +kernel
theorem d_Md_putWord_135 : decode prog_14_method_68_code 135 = .ok (.iaload, 1) := by decide +kernel
theorem d_Md_putWord_136 : decode prog_14_method_68_code 136 = .ok (.iload_n 1, 1) := by decide +kernel
theorem d_Md_putWord_137 : decode prog_14_method_68_code 137 = .ok (.iastore, 1) := by decide +kernel
theorem d_Md_putWord_138 : decode prog_14_method_68_code 138 = .ok (.aload_n 0, 1) := by decide +kernel
theorem d_Md_putWord_139 : decode prog_14_method_68_code 139 = .ok (.getfield 110, 3) := by decide +kernel
theorem d_Md_putWord_142 : decode prog_14_method_68_code 142 = .ok (.aload_n 0, 1) := by decide +kernel
theorem d_Md_putWord_143 : decode prog_14_method_68_code 143 = .ok (.getfield 119, 3) := by decide +kernel
theorem d_Md_putWord_146 : decode prog_14_method_68_code 146 = .ok (.iload 8, 2) := by decide +kernel
theorem d_Md_putWord_148 : decode prog_14_method_68_code 148 = .ok (.iaload, 1) := by decide +kernel
theorem d_Md_putWord_149 : decode prog_14_method_68_code 149 = .ok (.aload_n 0, 1) := by decide +kernel
theorem d_Md_putWord_150 : decode prog_14_method_68_code 150 = .ok (.getfield 95, 3) := by decide +kernel
theorem d_Md_putWord_153 : decode prog_14_method_68_code 153 = .ok (.iload_n 1, 1) := by decide +kernel
theorem d_Md_putWord_154 : decode prog_14_method_68_code 154 = .ok (.iaload, 1) := by decide +kernel
theorem d_Md_putWord_155 : decode prog_14_method_68_code 155 = .ok (.aload_n 0, 1) := by decide +kernel
theorem d_Md_putWord_156 : decode prog_14_method_68_code 156 = .ok (.iload_n 1, 1) := by decide +kernel
theorem d_Md_putWord_157 : decode prog_14_method_68_code 157 = .ok (.iconst 5, 1) := by decide +kernel
theorem d_Md_putWord_158 : decode prog_14_method_68_code 158 = .ok (.invokevirtual 325, 3) := by decide +kernel
theorem d_Md_putWord_161 : decode prog_14_method_68_code 161 = .ok (.iadd, 1) := by decide +kernel
theorem d_Md_putWord_162 : decode prog_14_method_68_code 162 = .ok (.iload 7, 2) := by decide +kernel
theorem d_Md_putWord_164 : decode prog_14_method_68_code 164 = .ok (.iadd, 1) := by decide +kernel
theorem d_Md_putWord_165 : decode prog_14_method_68_code 165 = .ok (.iastore, 1) := by decide +kernel
theorem d_Md_putWord_166 : decode prog_14_method_68_code 166 = .ok (.iload 7, 2) := by decide +kernel
theorem d_Md_putWord_168 : decode prog_14_method_68_code 168 = .ok (.aload_n 0, 1) := by decide +kernel
theorem d_Md_putWord_169 : decode prog_14_method_68_code 169 = .ok (.iload 8, 2) := by decide +kernel
theorem d_Md_putWord_171 : decode prog_14_method_68_code 171 = .ok (.invokevirtual 354, 3) := by decide +kernel
theorem d_Md_putWord_174 : decode prog_14_method_68_code 174 = .ok (.iadd, 1) := by decide +kernel
theorem d_Md_putWord_175 : decode prog_14_method_68_code 175 = .ok (.istore 7, 2) := by decide +kernel
theorem d_Md_putWord_177 : decode prog_14_method_68_code 177 = .ok (.iinc 8 1, 3) := by decide +kernel
theorem d_Md_putWord_180 : decode prog_14_method_68_code 180 = .ok (.goto (-74), 3) := by decide +kernel
theorem d_Md_putWord_183 : decode prog_14_method_68_code 183 = .ok (.aload_n 0, 1) := by decide +kernel
theorem d_Md_putWord_184 : decode prog_14_method_68_code 184 = .ok (.iload 7, 2) := by decide +kernel
theorem d_Md_putWord_186 : decode prog_14_method_68_code 186 = .ok (.putfield 369, 3) := by decide +kernel
theorem d_Md_putWord_189 : decode prog_14_method_68_code 189 = .ok (.aload_n 0, 1) := by decide +kernel
theorem d_Md_putWord_190 : decode prog_14_method_68_code 190 = .ok (.iload 6, 2) := by decide +kernel
theorem d_Md_putWord_192 : decode prog_14_method_68_code 192 = .ok (.aload_n 0, 1) := by decide +kernel
theorem d_Md_putWord_193 : decode prog_14_method_68_code 193 = .ok (.getfield 360, 3) := by decide +kernel
theorem d_Md_putWord_196 : decode prog_14_method_68_code 196 = .ok (.if_icmp .le 8, 3) := by decide +kernel
theorem d_Md_putWord_199 : decode prog_14_method_68_code 199 = .ok (.iload 6, 2) := by decide +kernel
theorem d_Md_putWord_201 : decode prog_14_method_68_code 201 = .ok (.goto 7, 3) := by decide +kernel
theorem d_Md_putWord_204 : decode prog_14_method_68_code 204 = .ok (.aload_n 0, 1) := by decide +kernel
theorem d_Md_putWord_205 : decode prog_14_method_68_code 205 = .ok (.getfield 360, 3) := by decide +kernel
theorem d_Md_putWord_208 : decode prog_14_method_68_code 208 = .ok (.putfield 360, 3) := by decide +kernel
theorem d_Md_putWord_211 : decode prog_14_method_68_code 211 = .ok (.aload_n 0, 1) := by decide +kernel
theorem d_Md_putWord_212 : decode prog_14_method_68_code 212 = .ok (.iconst 1, 1) := by decide +kernel
theorem d_Md_putWord_213 : decode prog_14_method_68_code 213 = .ok (.putfield 357, 3) := by decide +kernel
theorem d_Md_putWord_216 : decode prog_14_method_68_code 216 = .ok (.return_, 1) := by decide +kernel
def f_Md_putWord_9 (a3 : Int32) (M : qM) : Nat → (Int32 → Int32 → Option qM) → Int32 → Int32 → Int32 → Option qM
  | 0, _, _, _, _ => none
  | n + 1, K4, x1, x2, x3 => if a3 ≤ x3 then (K4 x1 x2) else (q_bp (f_Md_size x3 M) fun x6 => if x6 ≤ x2 then (f_Md_putWord_9 a3 M n K4 (x1 + x6) x2 (x3 + 1)) else (f_Md_putWord_9 a3 M n K4 (x1 + x6) x6 (x3 + 1)))
def f_Md_putWord_106 (a3 : Int32) (a1 : Int32) : Nat → (Int32 → qM → Option qM) → Int32 → Int32 → qM → Option qM
  | 0, _, _, _, _ => none
  | n + 1, K15, x12, x13, M14 => if a3 ≤ x13 then (K15 x12 M14) else (q_ix x13 200 <| q_ix (M14.1 37 x13.toNatClampNeg) 160 <| q_lt (qsI M14 33 (M14.1 37 x13.toNatClampNeg).toNatClampNeg 1) fun M19 => q_ix x13 200 <| q_ix (M19.1 37 x13.toNatClampNeg) 160 <| q_lt (qsI M19 36 (M19.1 37 x13.toNatClampNeg).toNatClampNeg a1) fun M22 => q_ix x13 200 <| q_ix a1 40 <| q_bp (f_Md_border a1 5 M22) fun x25 => q_ix (M22.1 37 x13.toNatClampNeg) 160 <| q_lt (qsI M22 34 (M22.1 37 x13.toNatClampNeg).toNatClampNeg (((M22.1 29 a1.toNatClampNeg) + x25) + x12)) fun M27 => q_bp (f_Md_size x13 M27) fun x28 => f_Md_putWord_106 a3 a1 n K15 (x12 + x28) (x13 + 1) M27)
def f_Md_putWord (a1 : Int32) (a2 : Int32) (a3 : Int32) (a4 : Int32) (M : qM) : Option qM := f_Md_putWord_9 a3 M 1000 (fun (x8 : Int32) (x9 : Int32) => q_lt (fun (M10 : qM) => q_lt (fun (x11 : Int32) => f_Md_putWord_106 a3 a1 1000 (fun (x29 : Int32) (M30 : qM) => q_lt (qsI M30 0 55 x29) fun M31 => q_lt (fun (x32 : Int32) => q_lt (qsI M31 0 56 x32) fun M33 => q_lt (qsI M33 0 57 1) fun M34 => some M34) fun (j35 : Int32 → Option qM) => if x9 ≤ (M31.1 0 56) then (j35 (M31.1 0 56)) else (j35 x9)) x11 a2 M10) fun (j37 : Int32 → Option qM) => if (M10.1 0 57) = 0 then (j37 0) else (j37 ((M10.1 0 55) + a4))) fun (j39 : qM → Option qM) => if (M.1 0 57) = 0 then (j39 M) else (q_ix a1 40 <| if (((M.1 0 55) + a4) + x8) ≤ (M.1 30 a1.toNatClampNeg) then (j39 M) else (q_cv (f_Md_endLine a2 M) fun M43 => j39 M43))) 0 0 a2
abbrev rm_Md_putWord : Room := { frames := 3, cells := 0, slots := 0, locals := 67 }
set_option maxRecDepth 100000 in
set_option maxHeartbeats 4000000 in
theorem c_Md_putWord {l : Launch} {D : va_G} {dA : Nat → ClassId} {b : Nat} (a1 : Int32) (a2 : Int32) (a3 : Int32) (a4 : Int32)  (M : qM) (out : qM) (hf : f_Md_putWord a1 a2 a3 a4 M = some out) : CTv l y_Md_putWord w_Md_putWord rm_Md_putWord D (tysX dA) (enM dA b) 38 b (fun _ => True) [qr (some 0), qi a1, qi a2, qi a3, qi a4] M out := by
  refine qm_v (cc := prog_14_method_68_code) (nL := 9) (by decide) rfl (Nat.le_of_ble_eq_true rfl) ?_
  intro p e s m args below meth c Q hx hb hts0 hown hml hK hs hret
  have hts : ∀ w ∈ lw_g, w.before args s = true := fun w h => hts0 w (List.mem_cons_of_mem _ h)
  show QJ p l e rm_Md_putWord s m args below meth c (qA 38 b) b 9 0 0 Q (qWd D (enM dA b) 38 b) M 0 [(0, qr (some 0)), (1, qi a1), (2, qi a2), (3, qi a3), (4, qi a4)] []
  unfold f_Md_putWord at hf
  refine qj_iconst (v := 0) hx hb d_Md_putWord_0 (by decide) ?_
  refine qj_istore hx hb d_Md_putWord_1 (by decide) rfl ?_
  refine qj_iconst (v := 0) hx hb d_Md_putWord_3 (by decide) ?_
  refine qj_istore hx hb d_Md_putWord_4 (by decide) rfl ?_
  refine qj_iload_n hx hb d_Md_putWord_6 rfl 4 rfl ?_
  refine qj_istore hx hb d_Md_putWord_7 (by decide) rfl ?_
  have hL9 : ∀ (n : Nat) (K4 : Int32 → Int32 → Option qM), (∀ (x8 : Int32) (x9 : Int32), K4 x8 x9 = some out → QJ p l e rm_Md_putWord s m args below meth c (qA 38 b) b 9 0 0 Q (qWd D (enM dA b) 38 b) M 52 [(0, qr (some 0)), (1, qi a1), (2, qi a2), (3, qi a3), (4, qi a4), (5, qi x8), (6, qi x9)] []) → ∀ (x1 : Int32) (x2 : Int32) (x3 : Int32), f_Md_putWord_9 a3 M n K4 x1 x2 x3 = some out → QJ p l e rm_Md_putWord s m args below meth c (qA 38 b) b 9 0 0 Q (qWd D (enM dA b) 38 b) M 9 [(0, qr (some 0)), (1, qi a1), (2, qi a2), (3, qi a3), (4, qi a4), (5, qi x1), (6, qi x2), (7, qi x3)] [] := by
    clear hf
    intro n
    induction n with
    | zero =>
      intro K4 hK4 x1 x2 x3 hf
      exact absurd hf (by simp [f_Md_putWord_9])
    | succ n ih9 =>
      intro K4 hK4 x1 x2 x3 hf
      rw [f_Md_putWord_9] at hf
      have ih9 := ih9 K4 hK4
      refine qj_iload hx hb d_Md_putWord_9 7 rfl ?_
      refine qj_iload_n hx hb d_Md_putWord_11 rfl 3 rfl ?_
      refine qj_icmp_ge (tgt := 52) hx hb d_Md_putWord_12 (by decide) (fun hc5 => ?_) (fun hc5 => ?_)
      · replace hf := q_if_t hc5 hf
        refine qj_sub [0, 1, 2, 3, 4, 5, 6] rfl ?_
        exact hK4 x1 x2 hf
      · replace hf := q_if_f hc5 hf
        refine qj_aload_n hx hb d_Md_putWord_15 rfl 0 rfl ?_
        refine qj_iload hx hb d_Md_putWord_16 7 rfl ?_
        have hf9 := q_bp_s hf; clear hf; obtain ⟨x6, hx6, hf⟩ := hf9
        refine qc_Vi (st := []) hx hb hml hown hts hK qT_ok hs (c_Md_size x3 M _ hx6) ⟨(callB_of 1 hts (q_good tw_685) rfl rfl rfl (hts _ tw_459) (hts _ tw_686) (by decide +kernel) ⟨by decide, by decide⟩), (hts _ tw_687), (hts _ tw_688)⟩ (by decide) rfl rfl rfl rfl (Nat.le_of_ble_eq_true rfl) d_Md_putWord_18 ?_
        refine qj_istore hx hb d_Md_putWord_21 (by decide) rfl ?_
        refine qj_iload hx hb d_Md_putWord_23 6 rfl ?_
        refine qj_iload hx hb d_Md_putWord_25 0 rfl ?_
        refine qj_iadd hx hb d_Md_putWord_27 ?_
        refine qj_istore hx hb d_Md_putWord_28 (by decide) rfl ?_
        refine qj_iload hx hb d_Md_putWord_30 1 rfl ?_
        refine qj_iload hx hb d_Md_putWord_32 7 rfl ?_
        refine qj_icmp_le (tgt := 42) hx hb d_Md_putWord_34 (by decide) (fun hc7 => ?_) (fun hc7 => ?_)
        · replace hf := q_if_t hc7 hf
          refine qj_iload hx hb d_Md_putWord_42 7 rfl ?_
          refine qj_istore hx hb d_Md_putWord_44 (by decide) rfl ?_
          refine qj_iinc (j := 8) (v := x3 + 1) hx hb d_Md_putWord_46 rfl rfl (by decide) rfl ?_
          refine qj_goto (tgt := 9) hx hb d_Md_putWord_49 (by decide) ?_
          refine qj_sub [4, 5, 6, 7, 8, 2, 1, 0] rfl ?_
          exact ih9 (x1 + x6) x2 (x3 + 1) hf
        · replace hf := q_if_f hc7 hf
          refine qj_iload hx hb d_Md_putWord_37 1 rfl ?_
          refine qj_goto (tgt := 44) hx hb d_Md_putWord_39 (by decide) ?_
          refine qj_istore hx hb d_Md_putWord_44 (by decide) rfl ?_
          refine qj_iinc (j := 8) (v := x3 + 1) hx hb d_Md_putWord_46 rfl rfl (by decide) rfl ?_
          refine qj_goto (tgt := 9) hx hb d_Md_putWord_49 (by decide) ?_
          refine qj_sub [4, 5, 6, 7, 8, 2, 1, 0] rfl ?_
          exact ih9 (x1 + x6) x6 (x3 + 1) hf
  refine qj_sub [3, 4, 5, 6, 7, 2, 1, 0] rfl ?_
  refine hL9 _ _ (fun x8 x9 hf9 => ?_) 0 0 a2 hf
  clear hf; have hf := hf9; clear hf9
  refine qj_aload_n hx hb d_Md_putWord_52 rfl 0 rfl ?_
  refine qj_get hx hb hts hin_12 hown hK (by decide) rfl rfl 57 (by decide) (hts _ tw_682) (fun _ h => h) (qi (M.1 0 57)) rfl d_Md_putWord_53 ?_
  have hf9 := q_lt_s hf; clear hf; obtain ⟨j39, ej39, hf⟩ := hf9
  have hj39 : ∀ (M10 : qM), j39 M10 = some out → QJ p l e rm_Md_putWord s m args below meth c (qA 38 b) b 9 0 0 Q (qWd D (enM dA b) 38 b) M10 83 [(0, qr (some 0)), (1, qi a1), (2, qi a2), (3, qi a3), (4, qi a4), (6, qi x9)] [] := by
    clear hf
    intro M10 hf
    rw [ej39] at hf
    refine qj_aload_n hx hb d_Md_putWord_83 rfl 0 rfl ?_
    refine qj_get hx hb hts hin_12 hown hK (by decide) rfl rfl 57 (by decide) (hts _ tw_682) (fun _ h => h) (qi (M10.1 0 57)) rfl d_Md_putWord_84 ?_
    have hf9 := q_lt_s hf; clear hf; obtain ⟨j37, ej37, hf⟩ := hf9
    have hj37 : ∀ (x11 : Int32), j37 x11 = some out → QJ p l e rm_Md_putWord s m args below meth c (qA 38 b) b 9 0 0 Q (qWd D (enM dA b) 38 b) M10 101 [(0, qr (some 0)), (1, qi a1), (2, qi a2), (3, qi a3), (6, qi x9)] [qi x11] := by
      clear hf
      intro x11 hf
      rw [ej37] at hf
      refine qj_istore hx hb d_Md_putWord_101 (by decide) rfl ?_
      refine qj_iload_n hx hb d_Md_putWord_103 rfl 3 rfl ?_
      refine qj_istore hx hb d_Md_putWord_104 (by decide) rfl ?_
      have hL106 : ∀ (n : Nat) (K15 : Int32 → qM → Option qM), (∀ (x29 : Int32) (M30 : qM), K15 x29 M30 = some out → QJ p l e rm_Md_putWord s m args below meth c (qA 38 b) b 9 0 0 Q (qWd D (enM dA b) 38 b) M30 183 [(0, qr (some 0)), (6, qi x9), (7, qi x29)] []) → ∀ (x12 : Int32) (x13 : Int32) (M14 : qM), f_Md_putWord_106 a3 a1 n K15 x12 x13 M14 = some out → QJ p l e rm_Md_putWord s m args below meth c (qA 38 b) b 9 0 0 Q (qWd D (enM dA b) 38 b) M14 106 [(0, qr (some 0)), (1, qi a1), (3, qi a3), (6, qi x9), (7, qi x12), (8, qi x13)] [] := by
        clear hf
        intro n
        induction n with
        | zero =>
          intro K15 hK15 x12 x13 M14 hf
          exact absurd hf (by simp [f_Md_putWord_106])
        | succ n ih106 =>
          intro K15 hK15 x12 x13 M14 hf
          rw [f_Md_putWord_106] at hf
          have ih106 := ih106 K15 hK15
          refine qj_iload hx hb d_Md_putWord_106 5 rfl ?_
          refine qj_iload_n hx hb d_Md_putWord_108 rfl 2 rfl ?_
          refine qj_icmp_ge (tgt := 183) hx hb d_Md_putWord_109 (by decide) (fun hc16 => ?_) (fun hc16 => ?_)
          · replace hf := q_if_t hc16 hf
            refine qj_sub [0, 3, 4] rfl ?_
            exact hK15 x12 M14 hf
          · replace hf := q_if_f hc16 hf
            refine qj_aload_n hx hb d_Md_putWord_112 rfl 0 rfl ?_
            refine qj_get hx hb hts hin_12 hown hK (by decide) rfl rfl 47 (by decide) (hts _ tw_694) (fun _ h => h) (qr (some 33)) rfl d_Md_putWord_113 ?_
            refine qj_aload_n hx hb d_Md_putWord_116 rfl 0 rfl ?_
            refine qj_get hx hb hts hin_12 hown hK (by decide) rfl rfl 51 (by decide) (hts _ tw_678) (fun _ h => h) (qr (some 37)) rfl d_Md_putWord_117 ?_
            refine qj_iload hx hb d_Md_putWord_120 5 rfl ?_
            have hf9 := q_ix_s hf; clear hf; obtain ⟨hi17, hf⟩ := hf9
            refine qj_iald (t0 := 0) hx hb hK (by decide) (fun _ _ => rfl) rfl hi17 d_Md_putWord_122 ?_
            refine qj_iconst (v := 1) hx hb d_Md_putWord_123 (by decide) ?_
            have hf9 := q_ix_s hf; clear hf; obtain ⟨hi18, hf⟩ := hf9
            have hf9 := q_lt_s hf; clear hf; obtain ⟨M19, eM19, hf⟩ := hf9
            refine qj_zast (t0 := 2) hx hb hK (by decide) (fun _ _ => rfl) rfl hi18 (Or.inr rfl) eM19 d_Md_putWord_124 ?_
            refine qj_aload_n hx hb d_Md_putWord_125 rfl 0 rfl ?_
            refine qj_get hx hb hts hin_12 hown hK (by decide) rfl rfl 50 (by decide) (hts _ tw_695) (fun _ h => h) (qr (some 36)) rfl d_Md_putWord_126 ?_
            refine qj_aload_n hx hb d_Md_putWord_129 rfl 0 rfl ?_
            refine qj_get hx hb hts hin_12 hown hK (by decide) rfl rfl 51 (by decide) (hts _ tw_678) (fun _ h => h) (qr (some 37)) rfl d_Md_putWord_130 ?_
            refine qj_iload hx hb d_Md_putWord_133 5 rfl ?_
            have hf9 := q_ix_s hf; clear hf; obtain ⟨hi20, hf⟩ := hf9
            refine qj_iald (t0 := 0) hx hb hK (by decide) (fun _ _ => rfl) rfl hi20 d_Md_putWord_135 ?_
            refine qj_iload_n hx hb d_Md_putWord_136 rfl 1 rfl ?_
            have hf9 := q_ix_s hf; clear hf; obtain ⟨hi21, hf⟩ := hf9
            have hf9 := q_lt_s hf; clear hf; obtain ⟨M22, eM22, hf⟩ := hf9
            refine qj_iast (t0 := 0) hx hb hK (by decide) (fun _ _ => rfl) rfl hi21 eM22 d_Md_putWord_137 ?_
            refine qj_aload_n hx hb d_Md_putWord_138 rfl 0 rfl ?_
            refine qj_get hx hb hts hin_12 hown hK (by decide) rfl rfl 48 (by decide) (hts _ tw_696) (fun _ h => h) (qr (some 34)) rfl d_Md_putWord_139 ?_
            refine qj_aload_n hx hb d_Md_putWord_142 rfl 0 rfl ?_
            refine qj_get hx hb hts hin_12 hown hK (by decide) rfl rfl 51 (by decide) (hts _ tw_678) (fun _ h => h) (qr (some 37)) rfl d_Md_putWord_143 ?_
            refine qj_iload hx hb d_Md_putWord_146 5 rfl ?_
            have hf9 := q_ix_s hf; clear hf; obtain ⟨hi23, hf⟩ := hf9
            refine qj_iald (t0 := 0) hx hb hK (by decide) (fun _ _ => rfl) rfl hi23 d_Md_putWord_148 ?_
            refine qj_aload_n hx hb d_Md_putWord_149 rfl 0 rfl ?_
            refine qj_get hx hb hts hin_12 hown hK (by decide) rfl rfl 43 (by decide) (hts _ tw_667) (fun _ h => h) (qr (some 29)) rfl d_Md_putWord_150 ?_
            refine qj_iload_n hx hb d_Md_putWord_153 rfl 1 rfl ?_
            have hf9 := q_ix_s hf; clear hf; obtain ⟨hi24, hf⟩ := hf9
            refine qj_iald (t0 := 0) hx hb hK (by decide) (fun _ _ => rfl) rfl hi24 d_Md_putWord_154 ?_
            refine qj_aload_n hx hb d_Md_putWord_155 rfl 0 rfl ?_
            refine qj_iload_n hx hb d_Md_putWord_156 rfl 1 rfl ?_
            refine qj_iconst (v := 5) hx hb d_Md_putWord_157 (by decide) ?_
            have hf9 := q_bp_s hf; clear hf; obtain ⟨x25, hx25, hf⟩ := hf9
            refine qc_Vi (st := [qi (M22.1 29 a1.toNatClampNeg), qi (M22.1 37 x13.toNatClampNeg), qr (some 34)]) hx hb hml hown hts hK qT_ok hs (c_Md_border a1 5 M22 _ hx25) ⟨(callB_of 2 hts (q_good tw_668) rfl rfl rfl (hts _ tw_459) (hts _ tw_669) (by decide +kernel) ⟨by decide, by decide⟩), (hts _ tw_670), (hts _ tw_671)⟩ (by decide) rfl rfl rfl rfl (Nat.le_of_ble_eq_true rfl) d_Md_putWord_158 ?_
            refine qj_iadd hx hb d_Md_putWord_161 ?_
            refine qj_iload hx hb d_Md_putWord_162 4 rfl ?_
            refine qj_iadd hx hb d_Md_putWord_164 ?_
            have hf9 := q_ix_s hf; clear hf; obtain ⟨hi26, hf⟩ := hf9
            have hf9 := q_lt_s hf; clear hf; obtain ⟨M27, eM27, hf⟩ := hf9
            refine qj_iast (t0 := 0) hx hb hK (by decide) (fun _ _ => rfl) rfl hi26 eM27 d_Md_putWord_165 ?_
            refine qj_iload hx hb d_Md_putWord_166 4 rfl ?_
            refine qj_aload_n hx hb d_Md_putWord_168 rfl 0 rfl ?_
            refine qj_iload hx hb d_Md_putWord_169 5 rfl ?_
            have hf9 := q_bp_s hf; clear hf; obtain ⟨x28, hx28, hf⟩ := hf9
            refine qc_Vi (st := [qi x12]) hx hb hml hown hts hK qT_ok hs (c_Md_size x13 M27 _ hx28) ⟨(callB_of 1 hts (q_good tw_685) rfl rfl rfl (hts _ tw_459) (hts _ tw_686) (by decide +kernel) ⟨by decide, by decide⟩), (hts _ tw_687), (hts _ tw_688)⟩ (by decide) rfl rfl rfl rfl (Nat.le_of_ble_eq_true rfl) d_Md_putWord_171 ?_
            refine qj_iadd hx hb d_Md_putWord_174 ?_
            refine qj_istore hx hb d_Md_putWord_175 (by decide) rfl ?_
            refine qj_iinc (j := 5) (v := x13 + 1) hx hb d_Md_putWord_177 rfl rfl (by decide) rfl ?_
            refine qj_goto (tgt := 106) hx hb d_Md_putWord_180 (by decide) ?_
            refine qj_sub [2, 3, 4, 5, 1, 0] rfl ?_
            exact ih106 (x12 + x28) (x13 + 1) M27 hf
      refine qj_sub [2, 3, 5, 6, 1, 0] rfl ?_
      refine hL106 _ _ (fun x29 M30 hf9 => ?_) x11 a2 M10 hf
      clear hf; have hf := hf9; clear hf9
      refine qj_aload_n hx hb d_Md_putWord_183 rfl 0 rfl ?_
      refine qj_iload hx hb d_Md_putWord_184 2 rfl ?_
      have hf9 := q_lt_s hf; clear hf; obtain ⟨M31, eM31, hf⟩ := hf9
      refine qj_puti (ty := .int) hx hb hts hin_12 ty_12 tyok_12 nm_12 hown hK (by decide) rfl rfl 55 (by decide) (hts _ tw_680) (fun _ h => h) rfl (by decide +kernel) rfl rfl (Nat.le_of_ble_eq_true rfl) sm_55 eM31 d_Md_putWord_186 ?_
      refine qj_aload_n hx hb d_Md_putWord_189 rfl 0 rfl ?_
      refine qj_iload hx hb d_Md_putWord_190 1 rfl ?_
      refine qj_aload_n hx hb d_Md_putWord_192 rfl 0 rfl ?_
      refine qj_get hx hb hts hin_12 hown hK (by decide) rfl rfl 56 (by decide) (hts _ tw_681) (fun _ h => h) (qi (M31.1 0 56)) rfl d_Md_putWord_193 ?_
      have hf9 := q_lt_s hf; clear hf; obtain ⟨j35, ej35, hf⟩ := hf9
      have hj35 : ∀ (x32 : Int32), j35 x32 = some out → QJ p l e rm_Md_putWord s m args below meth c (qA 38 b) b 9 0 0 Q (qWd D (enM dA b) 38 b) M31 208 [(0, qr (some 0))] [qi x32, qr (some 0)] := by
        clear hf
        intro x32 hf
        rw [ej35] at hf
        have hf9 := q_lt_s hf; clear hf; obtain ⟨M33, eM33, hf⟩ := hf9
        refine qj_puti (ty := .int) hx hb hts hin_12 ty_12 tyok_12 nm_12 hown hK (by decide) rfl rfl 56 (by decide) (hts _ tw_681) (fun _ h => h) rfl (by decide +kernel) rfl rfl (Nat.le_of_ble_eq_true rfl) sm_56 eM33 d_Md_putWord_208 ?_
        refine qj_aload_n hx hb d_Md_putWord_211 rfl 0 rfl ?_
        refine qj_iconst (v := 1) hx hb d_Md_putWord_212 (by decide) ?_
        have hf9 := q_lt_s hf; clear hf; obtain ⟨M34, eM34, hf⟩ := hf9
        refine qj_puti (ty := .boolean) hx hb hts hin_12 ty_12 tyok_12 nm_12 hown hK (by decide) rfl rfl 57 (by decide) (hts _ tw_682) (fun _ h => h) rfl (by decide +kernel) rfl rfl (Nat.le_of_ble_eq_true rfl) sm_57 eM34 d_Md_putWord_213 ?_
        exact hret _ _ _ d_Md_putWord_216 (Option.some.inj hf)
      refine qj_icmp_le (tgt := 204) hx hb d_Md_putWord_196 (by decide) (fun hc36 => ?_) (fun hc36 => ?_)
      · replace hf := q_if_t hc36 hf
        refine qj_aload_n hx hb d_Md_putWord_204 rfl 0 rfl ?_
        refine qj_get hx hb hts hin_12 hown hK (by decide) rfl rfl 56 (by decide) (hts _ tw_681) (fun _ h => h) (qi (M31.1 0 56)) rfl d_Md_putWord_205 ?_
        refine qj_sub [0] rfl ?_
        exact hj35 (M31.1 0 56) hf
      · replace hf := q_if_f hc36 hf
        refine qj_iload hx hb d_Md_putWord_199 1 rfl ?_
        refine qj_goto (tgt := 208) hx hb d_Md_putWord_201 (by decide) ?_
        refine qj_sub [0] rfl ?_
        exact hj35 x9 hf
    refine qj_if_eq (tgt := 100) hx hb d_Md_putWord_87 (by decide) (fun hc38 => ?_) (fun hc38 => ?_)
    · replace hf := q_if_t hc38 hf
      refine qj_iconst (v := 0) hx hb d_Md_putWord_100 (by decide) ?_
      refine qj_sub [0, 1, 2, 3, 5] rfl ?_
      exact hj37 0 hf
    · replace hf := q_if_f hc38 hf
      refine qj_aload_n hx hb d_Md_putWord_90 rfl 0 rfl ?_
      refine qj_get hx hb hts hin_12 hown hK (by decide) rfl rfl 55 (by decide) (hts _ tw_680) (fun _ h => h) (qi (M10.1 0 55)) rfl d_Md_putWord_91 ?_
      refine qj_iload hx hb d_Md_putWord_94 4 rfl ?_
      refine qj_iadd hx hb d_Md_putWord_96 ?_
      refine qj_goto (tgt := 101) hx hb d_Md_putWord_97 (by decide) ?_
      refine qj_sub [0, 1, 2, 3, 5] rfl ?_
      exact hj37 ((M10.1 0 55) + a4) hf
  refine qj_if_eq (tgt := 83) hx hb d_Md_putWord_56 (by decide) (fun hc40 => ?_) (fun hc40 => ?_)
  · replace hf := q_if_t hc40 hf
    refine qj_sub [0, 1, 2, 3, 4, 6] rfl ?_
    exact hj39 M hf
  · replace hf := q_if_f hc40 hf
    refine qj_aload_n hx hb d_Md_putWord_59 rfl 0 rfl ?_
    refine qj_get hx hb hts hin_12 hown hK (by decide) rfl rfl 55 (by decide) (hts _ tw_680) (fun _ h => h) (qi (M.1 0 55)) rfl d_Md_putWord_60 ?_
    refine qj_iload hx hb d_Md_putWord_63 4 rfl ?_
    refine qj_iadd hx hb d_Md_putWord_65 ?_
    refine qj_iload hx hb d_Md_putWord_66 5 rfl ?_
    refine qj_iadd hx hb d_Md_putWord_68 ?_
    refine qj_aload_n hx hb d_Md_putWord_69 rfl 0 rfl ?_
    refine qj_get hx hb hts hin_12 hown hK (by decide) rfl rfl 44 (by decide) (hts _ tw_672) (fun _ h => h) (qr (some 30)) rfl d_Md_putWord_70 ?_
    refine qj_iload_n hx hb d_Md_putWord_73 rfl 1 rfl ?_
    have hf9 := q_ix_s hf; clear hf; obtain ⟨hi41, hf⟩ := hf9
    refine qj_iald (t0 := 0) hx hb hK (by decide) (fun _ _ => rfl) rfl hi41 d_Md_putWord_74 ?_
    refine qj_icmp_le (tgt := 83) hx hb d_Md_putWord_75 (by decide) (fun hc42 => ?_) (fun hc42 => ?_)
    · replace hf := q_if_t hc42 hf
      refine qj_sub [0, 1, 2, 3, 4, 6] rfl ?_
      exact hj39 M hf
    · replace hf := q_if_f hc42 hf
      refine qj_aload_n hx hb d_Md_putWord_78 rfl 0 rfl ?_
      refine qj_iload_n hx hb d_Md_putWord_79 rfl 2 rfl ?_
      have hf9 := q_cv_s hf; clear hf; obtain ⟨M43, hM43, hf⟩ := hf9
      refine qc_Vv (st := []) hx hb hml hown hts hK qT_ok hs (c_Md_endLine a2 M _ hM43) ⟨(callB_of 1 hts (q_good tw_697) rfl rfl rfl (hts _ tw_459) (hts _ tw_698) (by decide +kernel) ⟨by decide, by decide⟩), (hts _ tw_699), (hts _ tw_700)⟩ (by decide) rfl rfl rfl rfl (Nat.le_of_ble_eq_true rfl) d_Md_putWord_80 ?_
      refine qj_sub [0, 1, 2, 3, 4, 6] rfl ?_
      exact hj39 M43 hf
