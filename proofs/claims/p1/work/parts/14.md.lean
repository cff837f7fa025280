theorem d_Md_selector_0 : decode prog_14_method_48_code 0 = .ok (.aload_n 0, 1) := by decide +kernel
theorem d_Md_selector_1 : decode prog_14_method_48_code 1 = .ok (.getfield 272, 3) := by decide +kernel
theorem d_Md_selector_4 : decode prog_14_method_48_code 4 = .ok (.istore_n 3, 1) := by decide +kernel
theorem d_Md_selector_5 : decode prog_14_method_48_code 5 = .ok (.iconst 0, 1) := by decide +kernel
theorem d_Md_selector_6 : decode prog_14_method_48_code 6 = .ok (.istore 4, 2) := by decide +kernel
theorem d_Md_selector_8 : decode prog_14_method_48_code 8 = .ok (.iconst 0, 1) := by decide +kernel
theorem d_Md_selector_9 : decode prog_14_method_48_code 9 = .ok (.istore 5, 2) := by decide +kernel
theorem d_Md_selector_11 : decode prog_14_method_48_code 11 = .ok (.aload_n 0, 1) := by decide +kernel
theorem d_Md_selector_12 : decode prog_14_method_48_code 12 = .ok (.getfield 59, 3) := by decide +kernel
theorem d_Md_selector_15 : decode prog_14_method_48_code 15 = .ok (.iload_n 3, 1) := by decide +kernel
theorem d_Md_selector_16 : decode prog_14_method_48_code 16 = .ok (.iconst 0, 1) := by decide +kernel
theorem d_Md_selector_17 : decode prog_14_method_48_code 17 = .ok (.iastore, 1) := by decide +kernel
theorem d_Md_selector_18 : decode prog_14_method_48_code 18 = .ok (.aload_n 0, 1) := by decide +kernel
theorem d_Md_selector_19 : decode prog_14_method_48_code 19 = .ok (.getfield 62, 3) := by decide +kernel
theorem d_Md_selector_22 : decode prog_14_method_48_code 22 = .ok (.iload_n 3, 1) := by decide +kernel
theorem d_Md_selector_23 : decode prog_14_method_48_code 23 = .ok (.iconst 0, 1) := by decide +kernel
theorem d_Md_selector_24 : decode prog_14_method_48_code 24 = .ok (.iastore, 1) := by decide +kernel
theorem d_Md_selector_25 : decode prog_14_method_48_code 25 = .ok (.aload_n 0, 1) := by decide +kernel
theorem d_Md_selector_26 : decode prog_14_method_48_code 26 = .ok (.iload_n 1, 1) := by decide +kernel
theorem d_Md_selector_27 : decode prog_14_method_48_code 27 = .ok (.iload_n 2, 1) := by decide +kernel
theorem d_Md_selector_28 : decode prog_14_method_48_code 28 = .ok (.invokevirtual 281, 3) := by decide +kernel
theorem d_Md_selector_31 : decode prog_14_method_48_code 31 = .ok (.istore 6, 2) := by decide +kernel
theorem d_Md_selector_33 : decode prog_14_method_48_code 33 = .ok (.iload 4, 2) := by decide +kernel
theorem d_Md_selector_35 : decode prog_14_method_48_code 35 = .ok (.iconst 5, 1) := by decide +kernel
theorem d_Md_selector_36 : decode prog_14_method_48_code 36 = .ok (.if_icmp .ge 312, 3) := by decide +kernel
theorem d_Md_selector_39 : decode prog_14_method_48_code 39 = .ok (.iload 4, 2) := by decide +kernel
theorem d_Md_selector_41 : decode prog_14_method_48_code 41 = .ok (.iconst 4, 1) := by decide +kernel
theorem d_Md_selector_42 : decode prog_14_method_48_code 42 = .ok (.if_icmp .ne 5, 3) := by decide +kernel
theorem d_Md_selector_45 : decode prog_14_method_48_code 45 = .ok (.iconst 0, 1) := by decide +kernel
theorem d_Md_selector_46 : decode prog_14_method_48_code 46 = .ok (.ireturn, 1) := by decide +kernel
theorem d_Md_selector_47 : decode prog_14_method_48_code 47 = .ok (.iload 6, 2) := by decide +kernel
theorem d_Md_selector_49 : decode prog_14_method_48_code 49 = .ok (.istore 7, 2) := by decide +kernel
theorem d_Md_selector_51 : decode prog_14_method_48_code 51 = .ok (.aload_n 0, 1) := by decide +kernel
theorem d_Md_selector_52 : decode prog_14_method_48_code 52 = .ok (.getfield 46, 3) := by decide +kernel
theorem d_Md_selector_55 : decode prog_14_method_48_code 55 = .ok (.iconst 4, 1) := by decide +kernel
theorem d_Md_selector_56 : decode prog_14_method_48_code 56 = .ok (.iload_n 3, 1) := by decide +kernel
theorem d_Md_selector_57 : decode prog_14_method_48_code 57 = .ok (.imul, 1) := by decide +kernel
theorem d_Md_selector_58 : decode prog_14_method_48_code 58 = .ok (.iload 4, 2) := by decide +kernel
theorem d_Md_selector_60 : decode prog_14_method_48_code 60 = .ok (.iadd, 1) := by decide +kernel
theorem d_Md_selector_61 : decode prog_14_method_48_code 61 = .ok (.iconst 0, 1) := by decide +kernel
theorem d_Md_selector_62 : decode prog_14_method_48_code 62 = .ok (.iastore, 1) := by decide +kernel
theorem d_Md_selector_63 : decode prog_14_method_48_code 63 = .ok (.aload_n 0, 1) := by decide +kernel
theorem d_Md_selector_64 : decode prog_14_method_48_code 64 = .ok (.getfield 49, 3) := by decide +kernel
theorem d_Md_selector_67 : decode prog_14_method_48_code 67 = .ok (.iconst 4, 1) := by decide +kernel
theorem d_Md_selector_68 : decode prog_14_method_48_code 68 = .ok (.iload_n 3, 1) := by decide +kernel
theorem d_Md_selector_69 : decode prog_14_method_48_code 69 = .ok (.imul, 1) := by decide +kernel
theorem d_Md_selector_70 : decode prog_14_method_48_code 70 = .ok (.iload 4, 2) := by decide +kernel
theorem d_Md_selector_72 : decode prog_14_method_48_code 72 = .ok (.iadd, 1) := by decide +kernel
theorem d_Md_selector_73 : decode prog_14_method_48_code 73 = .ok (.iconst 0, 1) := by decide +kernel
theorem d_Md_selector_74 : decode prog_14_method_48_code 74 = .ok (.iastore, 1) := by decide +kernel
theorem d_Md_selector_75 : decode prog_14_method_48_code 75 = .ok (.aload_n 0, 1) := by decide +kernel
theorem d_Md_selector_76 : decode prog_14_method_48_code 76 = .ok (.getfield 52, 3) := by decide +kernel
theorem d_Md_selector_79 : decode prog_14_method_48_code 79 = .ok (.iconst 4, 1) := by decide +kernel
theorem d_Md_selector_80 : decode prog_14_method_48_code 80 = .ok (.iload_n 3, 1) := by decide +kernel
theorem d_Md_selector_81 : decode prog_14_method_48_code 81 = .ok (.imul, 1) := by decide +kernel
theorem d_Md_selector_82 : decode prog_14_method_48_code 82 = .ok (.iload 4, 2) := by decide +kernel
theorem d_Md_selector_84 : decode prog_14_method_48_code 84 = .ok (.iadd, 1) := by decide +kernel
theorem d_Md_selector_85 : decode prog_14_method_48_code 85 = .ok (.iload 5, 2) := by decide +kernel
theorem d_Md_selector_87 : decode prog_14_method_48_code 87 = .ok (.bastore, 1) := by decide +kernel
theorem d_Md_selector_88 : decode prog_14_method_48_code 88 = .ok (.iload 6, 2) := by decide +kernel
theorem d_Md_selector_90 : decode prog_14_method_48_code 90 = .ok (.iload_n 2, 1) := by decide +kernel
theorem d_Md_selector_91 : decode prog_14_method_48_code 91 = .ok (.if_icmp .ge 93, 3) := by decide +kernel
theorem d_Md_selector_94 : decode prog_14_method_48_code 94 = .ok (.aload_n 0, 1) := by decide +kernel
theorem d_Md_selector_95 : decode prog_14_method_48_code 95 = .ok (.getfield 13, 3) := by decide +kernel
theorem d_Md_selector_98 : decode prog_14_method_48_code 98 = .ok (.iload 6, 2) := by decide +kernel
theorem d_Md_selector_100 : decode prog_14_method_48_code 100 = .ok (.iaload, 1) := by decide +kernel
theorem d_Md_selector_101 : decode prog_14_method_48_code 101 = .ok (.invokestatic 161, 3) := by decide +kernel
theorem d_Md_selector_104 : decode prog_14_method_48_code 104 = .ok (.ifCond .ne 15, 3) := by decide +kernel
theorem d_Md_selector_107 : decode prog_14_method_48_code 107 = .ok (.aload_n 0, 1) := by decide +kernel
theorem d_Md_selector_108 : decode prog_14_method_48_code 108 = .ok (.getfield 13, 3) := by decide +kernel
theorem d_Md_selector_111 : decode prog_14_method_48_code 111 = .ok (.iload 6, 2) := by decide +kernel
theorem d_Md_selector_113 : decode prog_14_method_48_code 113 = .ok (.iaload, 1) := by decide +kernel
theorem d_Md_selector_114 : decode prog_14_method_48_code 114 = .ok (.bipush 42, 2) := by decide +kernel
theorem d_Md_selector_116 : decode prog_14_method_48_code 116 = .ok (.if_icmp .ne 68, 3) := by decide +kernel
theorem d_Md_selector_119 : decode prog_14_method_48_code 119 = .ok (.aload_n 0, 1) := by decide +kernel
theorem d_Md_selector_120 : decode prog_14_method_48_code 120 = .ok (.getfield 46, 3) := by decide +kernel
theorem d_Md_selector_123 : decode prog_14_method_48_code 123 = .ok (.iconst 4, 1) := by decide +kernel
theorem d_Md_selector_124 : decode prog_14_method_48_code 124 = .ok (.iload_n 3, 1) := by decide +kernel
theorem d_Md_selector_125 : decode prog_14_method_48_code 125 = .ok (.imul, 1) := by decide +kernel
theorem d_Md_selector_126 : decode prog_14_method_48_code 126 = .ok (.iload 4, 2) := by decide +kernel
theorem d_Md_selector_128 : decode prog_14_method_48_code 128 = .ok (.iadd, 1) := by decide +kernel
theorem d_Md_selector_129 : decode prog_14_method_48_code 129 = .ok (.aload_n 0, 1) := by decide +kernel
theorem d_Md_selector_130 : decode prog_14_method_48_code 130 = .ok (.getfield 13, 3) := by decide +kernel
theorem d_Md_selector_133 : decode prog_14_method_48_code 133 = .ok (.iload 6, 2) := by decide +kernel
theorem d_Md_selector_135 : decode prog_14_method_48_code 135 = .ok (.iaload, 1) := by decide +kernel
theorem d_Md_selector_136 : decode prog_14_method_48_code 136 = .ok (.invokestatic 161, 3) := by decide +kernel
theorem d_Md_selector_139 : decode prog_14_method_48_code 139 = .ok (.ifCond .eq 13, 3) := by decide +kernel
theorem d_Md_selector_142 : decode prog_14_method_48_code 142 = .ok (.aload_n 0, 1) := by decide +kernel
theorem d_Md_selector_143 : decode prog_14_method_48_code 143 = .ok (.getfield 13, 3) := by decide +kernel
theorem d_Md_selector_146 : decode prog_14_method_48_code 146 = .ok (.iload 6, 2) := by decide +kernel
theorem d_Md_selector_148 : decode prog_14_method_48_code 148 = .ok (.iaload, 1) := by decide +kernel
theorem d_Md_selector_149 : decode prog_14_method_48_code 149 = .ok (.goto 4, 3) := by decide +kernel
theorem d_Md_selector_152 : decode prog_14_method_48_code 152 = .ok (.iconst 0, 1) := by decide +kernel
theorem d_Md_selector_153 : decode prog_14_method_48_code 153 = .ok (.iastore, 1) := by decide +kernel
theorem d_Md_selector_154 : decode prog_14_method_48_code 154 = .ok (.aload_n 0, 1) := by decide +kernel
theorem d_Md_selector_155 : decode prog_14_method_48_code 155 = .ok (.getfield 62, 3) := by decide +kernel
theorem d_Md_selector_158 : decode prog_14_method_48_code 158 = .ok (.iload_n 3, 1) := by decide +kernel
theorem d_Md_selector_159 : decode prog_14_method_48_code 159 = .ok (.dup2, 1) := by decide +kernel
theorem d_Md_selector_160 : decode prog_14_method_48_code 160 = .ok (.iaload, 1) := by decide +kernel
theorem d_Md_selector_161 : decode prog_14_method_48_code 161 = .ok (.aload_n 0, 1) := by decide +kernel
theorem d_Md_selector_162 : decode prog_14_method_48_code 162 = .ok (.getfield 13, 3) := by decide +kernel
theorem d_Md_selector_165 : decode prog_14_method_48_code 165 = .ok (.iload 6, 2) := by decide +kernel
theorem d_Md_selector_167 : decode prog_14_method_48_code 167 = .ok (.iaload, 1) := by decide +kernel
theorem d_Md_selector_168 : decode prog_14_method_48_code 168 = .ok (.invokestatic 161, 3) := by decide +kernel
theorem d_Md_selector_171 : decode prog_14_method_48_code 171 = .ok (.ifCond .eq 7, 3) := by decide +kernel
theorem d_Md_selector_174 : decode prog_14_method_48_code 174 = .ok (.iconst 1, 1) := by decide +kernel
theorem d_Md_selector_175 : decode prog_14_method_48_code 175 = .ok (.goto 4, 3) := by decide +kernel
theorem d_Md_selector_178 : decode prog_14_method_48_code 178 = .ok (.iconst 0, 1) := by decide +kernel
theorem d_Md_selector_179 : decode prog_14_method_48_code 179 = .ok (.iadd, 1) := by decide +kernel
theorem d_Md_selector_180 : decode prog_14_method_48_code 180 = .ok (.iastore, 1) := by decide +kernel
theorem d_Md_selector_181 : decode prog_14_method_48_code 181 = .ok (.iinc 6 1, 3) := by decide +kernel
theorem d_Md_selector_184 : decode prog_14_method_48_code 184 = .ok (.iload 6, 2) := by decide +kernel
theorem d_Md_selector_186 : decode prog_14_method_48_code 186 = .ok (.iload_n 2, 1) := by decide +kernel
theorem d_Md_selector_187 : decode prog_14_method_48_code 187 = .ok (.if_icmp .ge 67, 3) := by decide +kernel
theorem d_Md_selector_190 : decode prog_14_method_48_code 190 = .ok (.aload_n 0, 1) := by decide +kernel
theorem d_Md_selector_191 : decode prog_14_method_48_code 191 = .ok (.getfield 13, 3) := by decide +kernel
theorem d_Md_selector_194 : decode prog_14_method_48_code 194 = .ok (.iload 6, 2) := by decide +kernel
theorem d_Md_selector_196 : decode prog_14_method_48_code 196 = .ok (.iaload, 1) := by decide +kernel
theorem d_Md_selector_197 : decode prog_14_method_48_code 197 = .ok (.invokestatic 179, 3) := by decide +kernel
theorem d_Md_selector_200 : decode prog_14_method_48_code 200 = .ok (.ifCond .eq 54, 3) := by decide +kernel
theorem d_Md_selector_203 : decode prog_14_method_48_code 203 = .ok (.aload_n 0, 1) := by decide +kernel
theorem d_Md_selector_204 : decode prog_14_method_48_code 204 = .ok (.getfield 49, 3) := by decide +kernel
theorem d_Md_selector_207 : decode prog_14_method_48_code 207 = .ok (.iconst 4, 1) := by decide +kernel
theorem d_Md_selector_208 : decode prog_14_method_48_code 208 = .ok (.iload_n 3, 1) := by decide +kernel
theorem d_Md_selector_209 : decode prog_14_method_48_code 209 = .ok (.imul, 1) := by decide +kernel
theorem d_Md_selector_210 : decode prog_14_method_48_code 210 = .ok (.iload 4, 2) := by decide +kernel
theorem d_Md_selector_212 : decode prog_14_method_48_code 212 = .ok (.iadd, 1) := by decide +kernel
theorem d_Md_selector_213 : decode prog_14_method_48_code 213 = .ok (.aload_n 0, 1) := by decide +kernel
theorem d_Md_selector_214 : decode prog_14_method_48_code 214 = .ok (.getfield 49, 3) := by decide +kernel
theorem d_Md_selector_217 : decode prog_14_method_48_code 217 = .ok (.iconst 4, 1) := by decide +kernel
theorem d_Md_selector_218 : decode prog_14_method_48_code 218 = .ok (.iload_n 3, 1) := by decide +kernel
theorem d_Md_selector_219 : decode prog_14_method_48_code 219 = .ok (.imul, 1) := by decide +kernel
theorem d_Md_selector_220 : decode prog_14_method_48_code 220 = .ok (.iload 4, 2) := by decide +kernel
theorem d_Md_selector_222 : decode prog_14_method_48_code 222 = .ok (.iadd, 1) := by decide +kernel
theorem d_Md_selector_223 : decode prog_14_method_48_code 223 = .ok (.iaload, 1) := by decide +kernel
theorem d_Md_selector_224 : decode prog_14_method_48_code 224 = .ok (.iconst 1, 1) := by decide +kernel
theorem d_Md_selector_225 : decode prog_14_method_48_code 225 = .ok (.aload_n 0, 1) := by decide +kernel
theorem d_Md_selector_226 : decode prog_14_method_48_code 226 = .ok (.getfield 13, 3) := by decide +kernel
theorem d_Md_selector_229 : decode prog_14_method_48_code 229 = .ok (.iload 6, 2) := by decide +kernel
theorem d_Md_selector_231 : decode prog_14_method_48_code 231 = .ok (.iaload, 1) := by decide +kernel
theorem d_Md_selector_232 : decode prog_14_method_48_code 232 = .ok (.bipush 65, 2) := by decide +kernel
theorem d_Md_selector_234 : decode prog_14_method_48_code 234 = .ok (.isub, 1) := by decide +kernel
theorem d_Md_selector_235 : decode prog_14_method_48_code 235 = .ok (.ishl, 1) := by decide +kernel
theorem d_Md_selector_236 : decode prog_14_method_48_code 236 = .ok (.ior, 1) := by decide +kernel
theorem d_Md_selector_237 : decode prog_14_method_48_code 237 = .ok (.iastore, 1) := by decide +kernel
theorem d_Md_selector_238 : decode prog_14_method_48_code 238 = .ok (.aload_n 0, 1) := by decide +kernel
theorem d_Md_selector_239 : decode prog_14_method_48_code 239 = .ok (.getfield 59, 3) := by decide +kernel
theorem d_Md_selector_242 : decode prog_14_method_48_code 242 = .ok (.iload_n 3, 1) := by decide +kernel
theorem d_Md_selector_243 : decode prog_14_method_48_code 243 = .ok (.dup2, 1) := by decide +kernel
theorem d_Md_selector_244 : decode prog_14_method_48_code 244 = .ok (.iaload, 1) := by decide +kernel
theorem d_Md_selector_245 : decode prog_14_method_48_code 245 = .ok (.iconst 1, 1) := by decide +kernel
theorem d_Md_selector_246 : decode prog_14_method_48_code 246 = .ok (.iadd, 1) := by decide +kernel
theorem d_Md_selector_247 : decode prog_14_method_48_code 247 = .ok (.iastore, 1) := by decide +kernel
theorem d_Md_selector_248 : decode prog_14_method_48_code 248 = .ok (.iinc 6 1, 3) := by decide +kernel
theorem d_Md_selector_251 : decode prog_14_method_48_code 251 = .ok (.goto (-67), 3) := by decide +kernel
theorem d_Md_selector_254 : decode prog_14_method_48_code 254 = .ok (.iload 6, 2) := by decide +kernel
theorem d_Md_selector_256 : decode prog_14_method_48_code 256 = .ok (.iload 7, 2) := by decide +kernel
theorem d_Md_selector_258 : decode prog_14_method_48_code 258 = .ok (.if_icmp .ne 5, 3) := by decide +kernel
theorem d_Md_selector_261 : decode prog_14_method_48_code 261 = .ok (.iconst 0, 1) := by decide +kernel
theorem d_Md_selector_262 : decode prog_14_method_48_code 262 = .ok (.ireturn, 1) := by decide +kernel
theorem d_Md_selector_263 : decode prog_14_method_48_code 263 = .ok (.iinc 4 1, 3) := by decide +kernel
theorem d_Md_selector_266 : decode prog_14_method_48_code 266 = .ok (.aload_n 0, 1) := by decide +kernel
theorem d_Md_selector_267 : decode prog_14_method_48_code 267 = .ok (.getfield 56, 3) := by decide +kernel
theorem d_Md_selector_270 : decode prog_14_method_48_code 270 = .ok (.iload_n 3, 1) := by decide +kernel
theorem d_Md_selector_271 : decode prog_14_method_48_code 271 = .ok (.iload 4, 2) := by decide +kernel
theorem d_Md_selector_273 : decode prog_14_method_48_code 273 = .ok (.iastore, 1) := by decide +kernel
theorem d_Md_selector_274 : decode prog_14_method_48_code 274 = .ok (.aload_n 0, 1) := by decide +kernel
theorem d_Md_selector_275 : decode prog_14_method_48_code 275 = .ok (.iload 6, 2) := by decide +kernel
theorem d_Md_selector_277 : decode prog_14_method_48_code 277 = .ok (.iload_n 2, 1) := by decide +kernel
theorem d_Md_selector_278 : decode prog_14_method_48_code 278 = .ok (.invokevirtual 281, 3) := by decide +kernel
theorem d_Md_selector_281 : decode prog_14_method_48_code 281 = .ok (.istore 8, 2) := by decide +kernel
theorem d_Md_selector_283 : decode prog_14_method_48_code 283 = .ok (.iload 8, 2) := by decide +kernel
theorem d_Md_selector_285 : decode prog_14_method_48_code 285 = .ok (.iload_n 2, 1) := by decide +kernel
theorem d_Md_selector_286 : decode prog_14_method_48_code 286 = .ok (.if_icmp .ne 5, 3) := by decide +kernel
theorem d_Md_selector_289 : decode prog_14_method_48_code 289 = .ok (.iconst 1, 1) := by decide +kernel
theorem d_Md_selector_290 : decode prog_14_method_48_code 290 = .ok (.ireturn, 1) := by decide +kernel
theorem d_Md_selector_291 : decode prog_14_method_48_code 291 = .ok (.aload_n 0, 1) := by decide +kernel
theorem d_Md_selector_292 : decode prog_14_method_48_code 292 = .ok (.getfield 13, 3) := by decide +kernel
theorem d_Md_selector_295 : decode prog_14_method_48_code 295 = .ok (.iload 8, 2) := by decide +kernel
theorem d_Md_selector_297 : decode prog_14_method_48_code 297 = .ok (.iaload, 1) := by decide +kernel
theorem d_Md_selector_298 : decode prog_14_method_48_code 298 = .ok (.bipush 62, 2) := by decide +kernel
theorem d_Md_selector_300 : decode prog_14_method_48_code 300 = .ok (.if_icmp .ne 7, 3) := by decide +kernel
theorem d_Md_selector_303 : decode prog_14_method_48_code 303 = .ok (.iconst 1, 1) := by decide +kernel
theorem d_Md_selector_304 : decode prog_14_method_48_code 304 = .ok (.goto 4, 3) := by decide +kernel
theorem d_Md_selector_307 : decode prog_14_method_48_code 307 = .ok (.iconst 0, 1) := by decide +kernel
theorem d_Md_selector_308 : decode prog_14_method_48_code 308 = .ok (.istore 5, 2) := by decide +kernel
theorem d_Md_selector_310 : decode prog_14_method_48_code 310 = .ok (.iload 5, 2) := by decide +kernel
theorem d_Md_selector_312 : decode prog_14_method_48_code 312 = .ok (.ifCond .ne 12, 3) := by decide +kernel
theorem d_Md_selector_315 : decode prog_14_method_48_code 315 = .ok (.iload 8, 2) := by decide +kernel
theorem d_Md_selector_317 : decode prog_14_method_48_code 317 = .ok (.iload 6, 2) := by decide +kernel
theorem d_Md_selector_319 : decode prog_14_method_48_code 319 = .ok (.if_icmp .ne 5, 3) := by decide +kernel
theorem d_Md_selector_322 : decode prog_14_method_48_code 322 = .ok (.iconst 0, 1) := by decide +kernel
theorem d_Md_selector_323 : decode prog_14_method_48_code 323 = .ok (.ireturn, 1) := by decide +kernel
theorem d_Md_selector_324 : decode prog_14_method_48_code 324 = .ok (.iload 5, 2) := by decide +kernel
theorem d_Md_selector_326 : decode prog_14_method_48_code 326 = .ok (.ifCond .eq 15, 3) := by decide +kernel
theorem d_Md_selector_329 : decode prog_14_method_48_code 329 = .ok (.aload_n 0, 1) := by decide +kernel
theorem d_Md_selector_330 : decode prog_14_method_48_code 330 = .ok (.iload 8, 2) := by decide +kernel
theorem d_Md_selector_332 : decode prog_14_method_48_code 332 = .ok (.iconst 1, 1) := by decide +kernel
theorem d_Md_selector_333 : decode prog_14_method_48_code 333 = .ok (.iadd, 1) := by decide +kernel
theorem d_Md_selector_334 : decode prog_14_method_48_code 334 = .ok (.iload_n 2, 1) := by decide +kernel
theorem d_Md_selector_335 : decode prog_14_method_48_code 335 = .ok (.invokevirtual 281, 3) := by decide +kernel
theorem d_Md_selector_338 : decode prog_14_method_48_code 338 = .ok (.goto 5, 3) := by decide +kernel
theorem d_Md_selector_341 : decode prog_14_method_48_code 341 = .ok (.iload 8, 2) := by decide +kernel
theorem d_Md_selector_343 : decode prog_14_method_48_code 343 = .ok (.istore 6, 2) := by decide +kernel
theorem d_Md_selector_345 : decode prog_14_method_48_code 345 = .ok (.goto (-312), 3) := by decide +kernel
theorem d_Md_selector_348 : decode prog_14_method_48_code 348 = .ok (.iconst 0, 1) := by decide +kernel
theorem d_Md_selector_349 : decode prog_14_method_48_code 349 = .ok (.ireturn, 1) := by decide +kernel
def f_Md_selector_184 (a2 : Int32) (M : qM) (x6 : Int32) : Nat → (Int32 → qM → Option (Int32 × qM)) → Int32 → qM → Option (Int32 × qM)
  | 0, _, _, _ => none
  | n + 1, K24, x22, M23 => if a2 ≤ x22 then (K24 x22 M23) else (q_ix x22 120 <| q_bp (f_Md_capital (M23.1 2 x22.toNatClampNeg) M23) fun x27 => if x27 = 0 then (K24 x22 M23) else (q_ix ((4 * (M.1 0 22)) + x6) 48 <| q_ix x22 120 <| q_ix ((4 * (M.1 0 22)) + x6) 48 <| q_lt (qsI M23 14 ((4 * (M.1 0 22)) + x6).toNatClampNeg ((M23.1 14 ((4 * (M.1 0 22)) + x6).toNatClampNeg) ||| (1 <<< (((M23.1 2 x22.toNatClampNeg) - 65) &&& 31)))) fun M32 => q_ix (M.1 0 22) 12 <| q_ix (M.1 0 22) 12 <| q_lt (qsI M32 17 (M.1 0 22).toNatClampNeg ((M32.1 17 (M.1 0 22).toNatClampNeg) + 1)) fun M35 => f_Md_selector_184 a2 M x6 n K24 (x22 + 1) M35))
def f_Md_selector_33 (M : qM) (a2 : Int32) : Nat → (qM → Option (Int32 × qM)) → Int32 → Int32 → Int32 → qM → Option (Int32 × qM)
  | 0, _, _, _, _, _ => none
  | n + 1, K10, x6, x7, x8, M9 => if 5 ≤ x6 then (K10 M9) else (if x6 = 4 then (some (0, M9)) else (q_ix ((4 * (M.1 0 22)) + x6) 48 <| q_lt (qsI M9 13 ((4 * (M.1 0 22)) + x6).toNatClampNeg 0) fun M14 => q_ix ((4 * (M.1 0 22)) + x6) 48 <| q_lt (qsI M14 14 ((4 * (M.1 0 22)) + x6).toNatClampNeg 0) fun M16 => q_ix ((4 * (M.1 0 22)) + x6) 48 <| q_zk x7 <| q_lt (qsI M16 15 ((4 * (M.1 0 22)) + x6).toNatClampNeg x7) fun M19 => q_lt (fun (x20 : Int32) (M21 : qM) => f_Md_selector_184 a2 M x6 1000 (fun (x36 : Int32) (M37 : qM) => if x36 = x8 then (some (0, M37)) else (q_ix (M.1 0 22) 12 <| q_lt (qsI M37 16 (M.1 0 22).toNatClampNeg (x6 + 1)) fun M40 => q_bp (f_Md_blanks x36 a2 M40) fun x41 => if x41 = a2 then (some (1, M40)) else (q_ix x41 120 <| q_lt (fun (x44 : Int32) => q_lt (if x44 = 0 then (f_Md_selector_33 M a2 n K10 (x6 + 1) x44 x41 M40) else (q_bp (f_Md_blanks (x41 + 1) a2 M40) fun x46 => f_Md_selector_33 M a2 n K10 (x6 + 1) x44 x46 M40)) fun (j47 : Option (Int32 × qM)) => if x44 = 0 then (if x41 = x36 then (some (0, M40)) else (j47)) else (j47)) fun (j50 : Int32 → Option (Int32 × qM)) => if (M40.1 2 x41.toNatClampNeg) = 62 then (j50 1) else (j50 0)))) x20 M21) fun (j52 : Int32 → qM → Option (Int32 × qM)) => if a2 ≤ x8 then (j52 x8 M19) else (q_ix x8 120 <| q_bp (f_Md_small (M19.1 2 x8.toNatClampNeg) M19) fun x55 => q_lt (q_ix x8 120 <| q_bp (f_Md_small (M19.1 2 x8.toNatClampNeg) M19) fun x57 => q_lt (fun (x58 : Int32) => q_ix ((4 * (M.1 0 22)) + x6) 48 <| q_lt (qsI M19 13 ((4 * (M.1 0 22)) + x6).toNatClampNeg x58) fun M60 => q_ix (M.1 0 22) 12 <| q_ix x8 120 <| q_bp (f_Md_small (M60.1 2 x8.toNatClampNeg) M60) fun x63 => q_lt (fun (x64 : Int32) => q_ix (M.1 0 22) 12 <| q_lt (qsI M60 18 (M.1 0 22).toNatClampNeg ((M60.1 18 (M.1 0 22).toNatClampNeg) + x64)) fun M66 => j52 (x8 + 1) M66) fun (j67 : Int32 → Option (Int32 × qM)) => if x63 = 0 then (j67 0) else (j67 1)) fun (j69 : Int32 → Option (Int32 × qM)) => if x57 = 0 then (j69 0) else (q_ix x8 120 <| j69 (M19.1 2 x8.toNatClampNeg))) fun (j72 : Option (Int32 × qM)) => if x55 = 0 then (q_ix x8 120 <| if (M19.1 2 x8.toNatClampNeg) = 42 then (j72) else (j52 x8 M19)) else (j72))))
def f_Md_selector (a1 : Int32) (a2 : Int32) (M : qM) : Option (Int32 × qM) := q_ix (M.1 0 22) 12 <| q_lt (qsI M 17 (M.1 0 22).toNatClampNeg 0) fun M2 => q_ix (M.1 0 22) 12 <| q_lt (qsI M2 18 (M.1 0 22).toNatClampNeg 0) fun M4 => q_bp (f_Md_blanks a1 a2 M4) fun x5 => f_Md_selector_33 M a2 1000 (fun (M76 : qM) => some (0, M76)) 0 0 x5 M4
abbrev rm_Md_selector : Room := { frames := 1, cells := 0, slots := 0, locals := 23 }
set_option maxRecDepth 100000 in
set_option maxHeartbeats 4000000 in
theorem c_Md_selector {l : Launch} {D : va_G} {dA : Nat → ClassId} {b : Nat} (a1 : Int32) (a2 : Int32)  (M : qM) (out : Int32 × qM) (hf : f_Md_selector a1 a2 M = some out) : CTi l y_Md_selector w_Md_selector rm_Md_selector D (tysX dA) (enM dA b) 38 b (fun _ => True) [qr (some 0), qi a1, qi a2] M out := by
  refine qm_z (cc := prog_14_method_48_code) (nL := 9) (by decide) rfl (Nat.le_of_ble_eq_true rfl) ?_
  intro p e s m args below meth c Q hx hb hts0 hown hml hK hs hret
  have hts : ∀ w ∈ lw_g, w.before args s = true := fun w h => hts0 w (List.mem_cons_of_mem _ h)
  show QJ p l e rm_Md_selector s m args below meth c (qA 38 b) b 9 0 0 Q (qWd D (enM dA b) 38 b) M 0 [(0, qr (some 0)), (1, qi a1), (2, qi a2)] []
  unfold f_Md_selector at hf
  refine qj_aload_n hx hb d_Md_selector_0 rfl 0 rfl ?_
  refine qj_get hx hb hts hin_12 hown hK (by decide) rfl rfl 22 (by decide) (hts _ tw_605) (fun _ h => h) (qi (M.1 0 22)) rfl d_Md_selector_1 ?_
  refine qj_istore_n hx hb d_Md_selector_4 rfl (by decide) rfl ?_
  refine qj_iconst (v := 0) hx hb d_Md_selector_5 (by decide) ?_
  refine qj_istore hx hb d_Md_selector_6 (by decide) rfl ?_
  refine qj_iconst (v := 0) hx hb d_Md_selector_8 (by decide) ?_
  refine qj_istore hx hb d_Md_selector_9 (by decide) rfl ?_
  refine qj_aload_n hx hb d_Md_selector_11 rfl 3 rfl ?_
  refine qj_get hx hb hts hin_12 hown hK (by decide) rfl rfl 27 (by decide) (hts _ tw_606) (fun _ h => h) (qr (some 17)) rfl d_Md_selector_12 ?_
  refine qj_iload_n hx hb d_Md_selector_15 rfl 2 rfl ?_
  refine qj_iconst (v := 0) hx hb d_Md_selector_16 (by decide) ?_
  have hf9 := q_ix_s hf; clear hf; obtain ⟨hi1, hf⟩ := hf9
  have hf9 := q_lt_s hf; clear hf; obtain ⟨M2, eM2, hf⟩ := hf9
  refine qj_iast (t0 := 0) hx hb hK (by decide) (fun _ _ => rfl) rfl hi1 eM2 d_Md_selector_17 ?_
  refine qj_aload_n hx hb d_Md_selector_18 rfl 3 rfl ?_
  refine qj_get hx hb hts hin_12 hown hK (by decide) rfl rfl 28 (by decide) (hts _ tw_607) (fun _ h => h) (qr (some 18)) rfl d_Md_selector_19 ?_
  refine qj_iload_n hx hb d_Md_selector_22 rfl 2 rfl ?_
  refine qj_iconst (v := 0) hx hb d_Md_selector_23 (by decide) ?_
  have hf9 := q_ix_s hf; clear hf; obtain ⟨hi3, hf⟩ := hf9
  have hf9 := q_lt_s hf; clear hf; obtain ⟨M4, eM4, hf⟩ := hf9
  refine qj_iast (t0 := 0) hx hb hK (by decide) (fun _ _ => rfl) rfl hi3 eM4 d_Md_selector_24 ?_
  refine qj_aload_n hx hb d_Md_selector_25 rfl 3 rfl ?_
  refine qj_iload_n hx hb d_Md_selector_26 rfl 4 rfl ?_
  refine qj_iload_n hx hb d_Md_selector_27 rfl 5 rfl ?_
  have hf9 := q_bp_s hf; clear hf; obtain ⟨x5, hx5, hf⟩ := hf9
  refine qc_Vi (st := []) hx hb hml hown hts hK qT_ok hs (c_Md_blanks a1 a2 M4 _ hx5) ⟨(callB_of 2 hts (q_good tw_608) rfl rfl rfl (hts _ tw_459) (hts _ tw_609) (by decide +kernel) ⟨by decide, by decide⟩), (hts _ tw_610), (hts _ tw_611)⟩ (by decide) rfl rfl rfl rfl (Nat.le_of_ble_eq_true rfl) d_Md_selector_28 ?_
  refine qj_istore hx hb d_Md_selector_31 (by decide) rfl ?_
  have hL33 : ∀ (n : Nat) (K10 : qM → Option (Int32 × qM)), (∀ (M76 : qM), K10 M76 = some out → QJ p l e rm_Md_selector s m args below meth c (qA 38 b) b 9 0 0 Q (qWd D (enM dA b) 38 b) M76 348 [] []) → ∀ (x6 : Int32) (x7 : Int32) (x8 : Int32) (M9 : qM), f_Md_selector_33 M a2 n K10 x6 x7 x8 M9 = some out → QJ p l e rm_Md_selector s m args below meth c (qA 38 b) b 9 0 0 Q (qWd D (enM dA b) 38 b) M9 33 [(0, qr (some 0)), (2, qi a2), (3, qi (M.1 0 22)), (4, qi x6), (5, qi x7), (6, qi x8)] [] := by
    clear hf
    intro n
    induction n with
    | zero =>
      intro K10 hK10 x6 x7 x8 M9 hf
      exact absurd hf (by simp [f_Md_selector_33])
    | succ n ih33 =>
      intro K10 hK10 x6 x7 x8 M9 hf
      rw [f_Md_selector_33] at hf
      have ih33 := ih33 K10 hK10
      refine qj_iload hx hb d_Md_selector_33 3 rfl ?_
      refine qj_iconst (v := 5) hx hb d_Md_selector_35 (by decide) ?_
      refine qj_icmp_ge (tgt := 348) hx hb d_Md_selector_36 (by decide) (fun hc11 => ?_) (fun hc11 => ?_)
      · replace hf := q_if_t hc11 hf
        refine qj_sub [] rfl ?_
        exact hK10 M9 hf
      · replace hf := q_if_f hc11 hf
        refine qj_iload hx hb d_Md_selector_39 3 rfl ?_
        refine qj_iconst (v := 4) hx hb d_Md_selector_41 (by decide) ?_
        refine qj_icmp_ne (tgt := 47) hx hb d_Md_selector_42 (by decide) (fun hc12 => ?_) (fun hc12 => ?_)
        · replace hf := q_if_f hc12 hf
          refine qj_iload hx hb d_Md_selector_47 5 rfl ?_
          refine qj_istore hx hb d_Md_selector_49 (by decide) rfl ?_
          refine qj_aload_n hx hb d_Md_selector_51 rfl 1 rfl ?_
          refine qj_get hx hb hts hin_12 hown hK (by decide) rfl rfl 23 (by decide) (hts _ tw_612) (fun _ h => h) (qr (some 13)) rfl d_Md_selector_52 ?_
          refine qj_iconst (v := 4) hx hb d_Md_selector_55 (by decide) ?_
          refine qj_iload_n hx hb d_Md_selector_56 rfl 3 rfl ?_
          refine qj_imul hx hb d_Md_selector_57 ?_
          refine qj_iload hx hb d_Md_selector_58 4 rfl ?_
          refine qj_iadd hx hb d_Md_selector_60 ?_
          refine qj_iconst (v := 0) hx hb d_Md_selector_61 (by decide) ?_
          have hf9 := q_ix_s hf; clear hf; obtain ⟨hi13, hf⟩ := hf9
          have hf9 := q_lt_s hf; clear hf; obtain ⟨M14, eM14, hf⟩ := hf9
          refine qj_iast (t0 := 0) hx hb hK (by decide) (fun _ _ => rfl) rfl hi13 eM14 d_Md_selector_62 ?_
          refine qj_aload_n hx hb d_Md_selector_63 rfl 1 rfl ?_
          refine qj_get hx hb hts hin_12 hown hK (by decide) rfl rfl 24 (by decide) (hts _ tw_613) (fun _ h => h) (qr (some 14)) rfl d_Md_selector_64 ?_
          refine qj_iconst (v := 4) hx hb d_Md_selector_67 (by decide) ?_
          refine qj_iload_n hx hb d_Md_selector_68 rfl 3 rfl ?_
          refine qj_imul hx hb d_Md_selector_69 ?_
          refine qj_iload hx hb d_Md_selector_70 4 rfl ?_
          refine qj_iadd hx hb d_Md_selector_72 ?_
          refine qj_iconst (v := 0) hx hb d_Md_selector_73 (by decide) ?_
          have hf9 := q_ix_s hf; clear hf; obtain ⟨hi15, hf⟩ := hf9
          have hf9 := q_lt_s hf; clear hf; obtain ⟨M16, eM16, hf⟩ := hf9
          refine qj_iast (t0 := 0) hx hb hK (by decide) (fun _ _ => rfl) rfl hi15 eM16 d_Md_selector_74 ?_
          refine qj_aload_n hx hb d_Md_selector_75 rfl 1 rfl ?_
          refine qj_get hx hb hts hin_12 hown hK (by decide) rfl rfl 25 (by decide) (hts _ tw_614) (fun _ h => h) (qr (some 15)) rfl d_Md_selector_76 ?_
          refine qj_iconst (v := 4) hx hb d_Md_selector_79 (by decide) ?_
          refine qj_iload_n hx hb d_Md_selector_80 rfl 3 rfl ?_
          refine qj_imul hx hb d_Md_selector_81 ?_
          refine qj_iload hx hb d_Md_selector_82 4 rfl ?_
          refine qj_iadd hx hb d_Md_selector_84 ?_
          refine qj_iload hx hb d_Md_selector_85 5 rfl ?_
          have hf9 := q_ix_s hf; clear hf; obtain ⟨hi17, hf⟩ := hf9
          have hf9 := q_zk_s hf; clear hf; obtain ⟨hz18, hf⟩ := hf9
          have hf9 := q_lt_s hf; clear hf; obtain ⟨M19, eM19, hf⟩ := hf9
          refine qj_zast (t0 := 2) hx hb hK (by decide) (fun _ _ => rfl) rfl hi17 hz18 eM19 d_Md_selector_87 ?_
          refine qj_iload hx hb d_Md_selector_88 6 rfl ?_
          refine qj_iload_n hx hb d_Md_selector_90 rfl 2 rfl ?_
          have hf9 := q_lt_s hf; clear hf; obtain ⟨j52, ej52, hf⟩ := hf9
          have hj52 : ∀ (x20 : Int32) (M21 : qM), j52 x20 M21 = some out → QJ p l e rm_Md_selector s m args below meth c (qA 38 b) b 9 0 0 Q (qWd D (enM dA b) 38 b) M21 184 [(0, qr (some 0)), (2, qi a2), (3, qi (M.1 0 22)), (4, qi x6), (6, qi x20), (7, qi x8)] [] := by
            clear hf
            intro x20 M21 hf
            rw [ej52] at hf
            have hL184 : ∀ (n : Nat) (K24 : Int32 → qM → Option (Int32 × qM)), (∀ (x36 : Int32) (M37 : qM), K24 x36 M37 = some out → QJ p l e rm_Md_selector s m args below meth c (qA 38 b) b 9 0 0 Q (qWd D (enM dA b) 38 b) M37 254 [(0, qr (some 0)), (2, qi a2), (3, qi (M.1 0 22)), (4, qi x6), (6, qi x36), (7, qi x8)] []) → ∀ (x22 : Int32) (M23 : qM), f_Md_selector_184 a2 M x6 n K24 x22 M23 = some out → QJ p l e rm_Md_selector s m args below meth c (qA 38 b) b 9 0 0 Q (qWd D (enM dA b) 38 b) M23 184 [(0, qr (some 0)), (2, qi a2), (3, qi (M.1 0 22)), (4, qi x6), (6, qi x22), (7, qi x8)] [] := by
              clear hf
              intro n
              induction n with
              | zero =>
                intro K24 hK24 x22 M23 hf
                exact absurd hf (by simp [f_Md_selector_184])
              | succ n ih184 =>
                intro K24 hK24 x22 M23 hf
                rw [f_Md_selector_184] at hf
                have ih184 := ih184 K24 hK24
                refine qj_iload hx hb d_Md_selector_184 4 rfl ?_
                refine qj_iload_n hx hb d_Md_selector_186 rfl 1 rfl ?_
                refine qj_icmp_ge (tgt := 254) hx hb d_Md_selector_187 (by decide) (fun hc25 => ?_) (fun hc25 => ?_)
                · replace hf := q_if_t hc25 hf
                  exact hK24 x22 M23 hf
                · replace hf := q_if_f hc25 hf
                  refine qj_aload_n hx hb d_Md_selector_190 rfl 0 rfl ?_
                  refine qj_get hx hb hts hin_12 hown hK (by decide) rfl rfl 3 (by decide) (hts _ tw_592) (fun _ h => h) (qr (some 2)) rfl d_Md_selector_191 ?_
                  refine qj_iload hx hb d_Md_selector_194 4 rfl ?_
                  have hf9 := q_ix_s hf; clear hf; obtain ⟨hi26, hf⟩ := hf9
                  refine qj_iald (t0 := 0) hx hb hK (by decide) (fun _ _ => rfl) rfl hi26 d_Md_selector_196 ?_
                  have hf9 := q_bp_s hf; clear hf; obtain ⟨x27, hx27, hf⟩ := hf9
                  refine qc_Si (st := []) hx hb hml hown hts hK qT_ok hs (c_Md_capital (M23.1 2 x22.toNatClampNeg) M23 _ hx27) ⟨(callB_of 1 hts (q_good tw_557) rfl rfl rfl (hts _ tw_459) (hts _ tw_558) (by decide +kernel) ⟨by decide, by decide⟩), (hts _ tw_559)⟩ rfl rfl (Nat.le_of_ble_eq_true rfl) d_Md_selector_197 ?_
                  refine qj_if_eq (tgt := 254) hx hb d_Md_selector_200 (by decide) (fun hc28 => ?_) (fun hc28 => ?_)
                  · replace hf := q_if_t hc28 hf
                    exact hK24 x22 M23 hf
                  · replace hf := q_if_f hc28 hf
                    refine qj_aload_n hx hb d_Md_selector_203 rfl 0 rfl ?_
                    refine qj_get hx hb hts hin_12 hown hK (by decide) rfl rfl 24 (by decide) (hts _ tw_613) (fun _ h => h) (qr (some 14)) rfl d_Md_selector_204 ?_
                    refine qj_iconst (v := 4) hx hb d_Md_selector_207 (by decide) ?_
                    refine qj_iload_n hx hb d_Md_selector_208 rfl 2 rfl ?_
                    refine qj_imul hx hb d_Md_selector_209 ?_
                    refine qj_iload hx hb d_Md_selector_210 3 rfl ?_
                    refine qj_iadd hx hb d_Md_selector_212 ?_
                    refine qj_aload_n hx hb d_Md_selector_213 rfl 0 rfl ?_
                    refine qj_get hx hb hts hin_12 hown hK (by decide) rfl rfl 24 (by decide) (hts _ tw_613) (fun _ h => h) (qr (some 14)) rfl d_Md_selector_214 ?_
                    refine qj_iconst (v := 4) hx hb d_Md_selector_217 (by decide) ?_
                    refine qj_iload_n hx hb d_Md_selector_218 rfl 2 rfl ?_
                    refine qj_imul hx hb d_Md_selector_219 ?_
                    refine qj_iload hx hb d_Md_selector_220 3 rfl ?_
                    refine qj_iadd hx hb d_Md_selector_222 ?_
                    have hf9 := q_ix_s hf; clear hf; obtain ⟨hi29, hf⟩ := hf9
                    refine qj_iald (t0 := 0) hx hb hK (by decide) (fun _ _ => rfl) rfl hi29 d_Md_selector_223 ?_
                    refine qj_iconst (v := 1) hx hb d_Md_selector_224 (by decide) ?_
                    refine qj_aload_n hx hb d_Md_selector_225 rfl 0 rfl ?_
                    refine qj_get hx hb hts hin_12 hown hK (by decide) rfl rfl 3 (by decide) (hts _ tw_592) (fun _ h => h) (qr (some 2)) rfl d_Md_selector_226 ?_
                    refine qj_iload hx hb d_Md_selector_229 4 rfl ?_
                    have hf9 := q_ix_s hf; clear hf; obtain ⟨hi30, hf⟩ := hf9
                    refine qj_iald (t0 := 0) hx hb hK (by decide) (fun _ _ => rfl) rfl hi30 d_Md_selector_231 ?_
                    refine qj_bipush (v := 65) hx hb d_Md_selector_232 (by decide) ?_
                    refine qj_isub hx hb d_Md_selector_234 ?_
                    refine qj_ishl hx hb d_Md_selector_235 ?_
                    refine qj_ior hx hb d_Md_selector_236 ?_
                    have hf9 := q_ix_s hf; clear hf; obtain ⟨hi31, hf⟩ := hf9
                    have hf9 := q_lt_s hf; clear hf; obtain ⟨M32, eM32, hf⟩ := hf9
                    refine qj_iast (t0 := 0) hx hb hK (by decide) (fun _ _ => rfl) rfl hi31 eM32 d_Md_selector_237 ?_
                    refine qj_aload_n hx hb d_Md_selector_238 rfl 0 rfl ?_
                    refine qj_get hx hb hts hin_12 hown hK (by decide) rfl rfl 27 (by decide) (hts _ tw_606) (fun _ h => h) (qr (some 17)) rfl d_Md_selector_239 ?_
                    refine qj_iload_n hx hb d_Md_selector_242 rfl 2 rfl ?_
                    refine qj_dup2 hx hb d_Md_selector_243 ?_
                    have hf9 := q_ix_s hf; clear hf; obtain ⟨hi33, hf⟩ := hf9
                    refine qj_iald (t0 := 0) hx hb hK (by decide) (fun _ _ => rfl) rfl hi33 d_Md_selector_244 ?_
                    refine qj_iconst (v := 1) hx hb d_Md_selector_245 (by decide) ?_
                    refine qj_iadd hx hb d_Md_selector_246 ?_
                    have hf9 := q_ix_s hf; clear hf; obtain ⟨hi34, hf⟩ := hf9
                    have hf9 := q_lt_s hf; clear hf; obtain ⟨M35, eM35, hf⟩ := hf9
                    refine qj_iast (t0 := 0) hx hb hK (by decide) (fun _ _ => rfl) rfl hi34 eM35 d_Md_selector_247 ?_
                    refine qj_iinc (j := 4) (v := x22 + 1) hx hb d_Md_selector_248 rfl rfl (by decide) rfl ?_
                    refine qj_goto (tgt := 184) hx hb d_Md_selector_251 (by decide) ?_
                    refine qj_sub [1, 2, 3, 4, 0, 5] rfl ?_
                    exact ih184 (x22 + 1) M35 hf
            refine hL184 _ _ (fun x36 M37 hf9 => ?_) x20 M21 hf
            clear hf; have hf := hf9; clear hf9
            refine qj_iload hx hb d_Md_selector_254 4 rfl ?_
            refine qj_iload hx hb d_Md_selector_256 5 rfl ?_
            refine qj_icmp_ne (tgt := 263) hx hb d_Md_selector_258 (by decide) (fun hc38 => ?_) (fun hc38 => ?_)
            · replace hf := q_if_f hc38 hf
              refine qj_iinc (j := 3) (v := x6 + 1) hx hb d_Md_selector_263 rfl rfl (by decide) rfl ?_
              refine qj_aload_n hx hb d_Md_selector_266 rfl 1 rfl ?_
              refine qj_get hx hb hts hin_12 hown hK (by decide) rfl rfl 26 (by decide) (hts _ tw_615) (fun _ h => h) (qr (some 16)) rfl d_Md_selector_267 ?_
              refine qj_iload_n hx hb d_Md_selector_270 rfl 3 rfl ?_
              refine qj_iload hx hb d_Md_selector_271 0 rfl ?_
              have hf9 := q_ix_s hf; clear hf; obtain ⟨hi39, hf⟩ := hf9
              have hf9 := q_lt_s hf; clear hf; obtain ⟨M40, eM40, hf⟩ := hf9
              refine qj_iast (t0 := 0) hx hb hK (by decide) (fun _ _ => rfl) rfl hi39 eM40 d_Md_selector_273 ?_
              refine qj_aload_n hx hb d_Md_selector_274 rfl 1 rfl ?_
              refine qj_iload hx hb d_Md_selector_275 4 rfl ?_
              refine qj_iload_n hx hb d_Md_selector_277 rfl 2 rfl ?_
              have hf9 := q_bp_s hf; clear hf; obtain ⟨x41, hx41, hf⟩ := hf9
              refine qc_Vi (st := []) hx hb hml hown hts hK qT_ok hs (c_Md_blanks x36 a2 M40 _ hx41) ⟨(callB_of 2 hts (q_good tw_608) rfl rfl rfl (hts _ tw_459) (hts _ tw_609) (by decide +kernel) ⟨by decide, by decide⟩), (hts _ tw_610), (hts _ tw_611)⟩ (by decide) rfl rfl rfl rfl (Nat.le_of_ble_eq_true rfl) d_Md_selector_278 ?_
              refine qj_istore hx hb d_Md_selector_281 (by decide) rfl ?_
              refine qj_iload hx hb d_Md_selector_283 0 rfl ?_
              refine qj_iload_n hx hb d_Md_selector_285 rfl 3 rfl ?_
              refine qj_icmp_ne (tgt := 291) hx hb d_Md_selector_286 (by decide) (fun hc42 => ?_) (fun hc42 => ?_)
              · replace hf := q_if_f hc42 hf
                refine qj_aload_n hx hb d_Md_selector_291 rfl 2 rfl ?_
                refine qj_get hx hb hts hin_12 hown hK (by decide) rfl rfl 3 (by decide) (hts _ tw_592) (fun _ h => h) (qr (some 2)) rfl d_Md_selector_292 ?_
                refine qj_iload hx hb d_Md_selector_295 0 rfl ?_
                have hf9 := q_ix_s hf; clear hf; obtain ⟨hi43, hf⟩ := hf9
                refine qj_iald (t0 := 0) hx hb hK (by decide) (fun _ _ => rfl) rfl hi43 d_Md_selector_297 ?_
                refine qj_bipush (v := 62) hx hb d_Md_selector_298 (by decide) ?_
                have hf9 := q_lt_s hf; clear hf; obtain ⟨j50, ej50, hf⟩ := hf9
                have hj50 : ∀ (x44 : Int32), j50 x44 = some out → QJ p l e rm_Md_selector s m args below meth c (qA 38 b) b 9 0 0 Q (qWd D (enM dA b) 38 b) M40 308 [(0, qr (some 0)), (2, qi a2), (3, qi (M.1 0 22)), (4, qi (x6 + 1)), (6, qi x36), (8, qi x41)] [qi x44] := by
                  clear hf
                  intro x44 hf
                  rw [ej50] at hf
                  refine qj_istore hx hb d_Md_selector_308 (by decide) rfl ?_
                  refine qj_iload hx hb d_Md_selector_310 0 rfl ?_
                  have hf9 := q_lt_s hf; clear hf; obtain ⟨j47, ej47, hf⟩ := hf9
                  have hj47 : j47 = some out → QJ p l e rm_Md_selector s m args below meth c (qA 38 b) b 9 0 0 Q (qWd D (enM dA b) 38 b) M40 324 [(0, qr (some 0)), (2, qi a2), (3, qi (M.1 0 22)), (4, qi (x6 + 1)), (5, qi x44), (8, qi x41)] [] := by
                    clear hf
                    intro hf
                    rw [ej47] at hf
                    refine qj_iload hx hb d_Md_selector_324 4 rfl ?_
                    refine qj_if_eq (tgt := 341) hx hb d_Md_selector_326 (by decide) (fun hc45 => ?_) (fun hc45 => ?_)
                    · replace hf := q_if_t hc45 hf
                      refine qj_iload hx hb d_Md_selector_341 5 rfl ?_
                      refine qj_istore hx hb d_Md_selector_343 (by decide) rfl ?_
                      refine qj_goto (tgt := 33) hx hb d_Md_selector_345 (by decide) ?_
                      refine qj_sub [1, 2, 3, 4, 5, 0] rfl ?_
                      exact ih33 (x6 + 1) x44 x41 M40 hf
                    · replace hf := q_if_f hc45 hf
                      refine qj_aload_n hx hb d_Md_selector_329 rfl 0 rfl ?_
                      refine qj_iload hx hb d_Md_selector_330 5 rfl ?_
                      refine qj_iconst (v := 1) hx hb d_Md_selector_332 (by decide) ?_
                      refine qj_iadd hx hb d_Md_selector_333 ?_
                      refine qj_iload_n hx hb d_Md_selector_334 rfl 1 rfl ?_
                      have hf9 := q_bp_s hf; clear hf; obtain ⟨x46, hx46, hf⟩ := hf9
                      refine qc_Vi (st := []) hx hb hml hown hts hK qT_ok hs (c_Md_blanks (x41 + 1) a2 M40 _ hx46) ⟨(callB_of 2 hts (q_good tw_608) rfl rfl rfl (hts _ tw_459) (hts _ tw_609) (by decide +kernel) ⟨by decide, by decide⟩), (hts _ tw_610), (hts _ tw_611)⟩ (by decide) rfl rfl rfl rfl (Nat.le_of_ble_eq_true rfl) d_Md_selector_335 ?_
                      refine qj_goto (tgt := 343) hx hb d_Md_selector_338 (by decide) ?_
                      refine qj_istore hx hb d_Md_selector_343 (by decide) rfl ?_
                      refine qj_goto (tgt := 33) hx hb d_Md_selector_345 (by decide) ?_
                      refine qj_sub [1, 2, 3, 4, 5, 0] rfl ?_
                      exact ih33 (x6 + 1) x44 x46 M40 hf
                  refine qj_if_ne (tgt := 324) hx hb d_Md_selector_312 (by decide) (fun hc48 => ?_) (fun hc48 => ?_)
                  · replace hf := q_if_f hc48 hf
                    refine qj_sub [1, 2, 3, 4, 0, 6] rfl ?_
                    exact hj47  hf
                  · replace hf := q_if_t hc48 hf
                    refine qj_iload hx hb d_Md_selector_315 6 rfl ?_
                    refine qj_iload hx hb d_Md_selector_317 5 rfl ?_
                    refine qj_icmp_ne (tgt := 324) hx hb d_Md_selector_319 (by decide) (fun hc49 => ?_) (fun hc49 => ?_)
                    · replace hf := q_if_f hc49 hf
                      refine qj_sub [1, 2, 3, 4, 0, 6] rfl ?_
                      exact hj47  hf
                    · replace hf := q_if_t hc49 hf
                      refine qj_iconst (v := 0) hx hb d_Md_selector_322 (by decide) ?_
                      exact hret _ _ _ _ (Or.inl rfl) d_Md_selector_323 (Option.some.inj hf)
                refine qj_icmp_ne (tgt := 307) hx hb d_Md_selector_300 (by decide) (fun hc51 => ?_) (fun hc51 => ?_)
                · replace hf := q_if_f hc51 hf
                  refine qj_iconst (v := 0) hx hb d_Md_selector_307 (by decide) ?_
                  refine qj_sub [2, 3, 4, 1, 5, 0] rfl ?_
                  exact hj50 0 hf
                · replace hf := q_if_t hc51 hf
                  refine qj_iconst (v := 1) hx hb d_Md_selector_303 (by decide) ?_
                  refine qj_goto (tgt := 308) hx hb d_Md_selector_304 (by decide) ?_
                  refine qj_sub [2, 3, 4, 1, 5, 0] rfl ?_
                  exact hj50 1 hf
              · replace hf := q_if_t hc42 hf
                refine qj_iconst (v := 1) hx hb d_Md_selector_289 (by decide) ?_
                exact hret _ _ _ _ (Or.inr rfl) d_Md_selector_290 (Option.some.inj hf)
            · replace hf := q_if_t hc38 hf
              refine qj_iconst (v := 0) hx hb d_Md_selector_261 (by decide) ?_
              exact hret _ _ _ _ (Or.inl rfl) d_Md_selector_262 (Option.some.inj hf)
          refine qj_icmp_ge (tgt := 184) hx hb d_Md_selector_91 (by decide) (fun hc53 => ?_) (fun hc53 => ?_)
          · replace hf := q_if_t hc53 hf
            refine qj_sub [1, 2, 3, 4, 6, 0] rfl ?_
            exact hj52 x8 M19 hf
          · replace hf := q_if_f hc53 hf
            refine qj_aload_n hx hb d_Md_selector_94 rfl 1 rfl ?_
            refine qj_get hx hb hts hin_12 hown hK (by decide) rfl rfl 3 (by decide) (hts _ tw_592) (fun _ h => h) (qr (some 2)) rfl d_Md_selector_95 ?_
            refine qj_iload hx hb d_Md_selector_98 6 rfl ?_
            have hf9 := q_ix_s hf; clear hf; obtain ⟨hi54, hf⟩ := hf9
            refine qj_iald (t0 := 0) hx hb hK (by decide) (fun _ _ => rfl) rfl hi54 d_Md_selector_100 ?_
            have hf9 := q_bp_s hf; clear hf; obtain ⟨x55, hx55, hf⟩ := hf9
            refine qc_Si (st := []) hx hb hml hown hts hK qT_ok hs (c_Md_small (M19.1 2 x8.toNatClampNeg) M19 _ hx55) ⟨(callB_of 1 hts (q_good tw_460) rfl rfl rfl (hts _ tw_459) (hts _ tw_461) (by decide +kernel) ⟨by decide, by decide⟩), (hts _ tw_462)⟩ rfl rfl (Nat.le_of_ble_eq_true rfl) d_Md_selector_101 ?_
            have hf9 := q_lt_s hf; clear hf; obtain ⟨j72, ej72, hf⟩ := hf9
            have hj72 : j72 = some out → QJ p l e rm_Md_selector s m args below meth c (qA 38 b) b 9 0 0 Q (qWd D (enM dA b) 38 b) M19 119 [(0, qr (some 0)), (2, qi a2), (3, qi (M.1 0 22)), (4, qi x6), (6, qi x8), (7, qi x8)] [] := by
              clear hf
              intro hf
              rw [ej72] at hf
              refine qj_aload_n hx hb d_Md_selector_119 rfl 0 rfl ?_
              refine qj_get hx hb hts hin_12 hown hK (by decide) rfl rfl 23 (by decide) (hts _ tw_612) (fun _ h => h) (qr (some 13)) rfl d_Md_selector_120 ?_
              refine qj_iconst (v := 4) hx hb d_Md_selector_123 (by decide) ?_
              refine qj_iload_n hx hb d_Md_selector_124 rfl 2 rfl ?_
              refine qj_imul hx hb d_Md_selector_125 ?_
              refine qj_iload hx hb d_Md_selector_126 3 rfl ?_
              refine qj_iadd hx hb d_Md_selector_128 ?_
              refine qj_aload_n hx hb d_Md_selector_129 rfl 0 rfl ?_
              refine qj_get hx hb hts hin_12 hown hK (by decide) rfl rfl 3 (by decide) (hts _ tw_592) (fun _ h => h) (qr (some 2)) rfl d_Md_selector_130 ?_
              refine qj_iload hx hb d_Md_selector_133 4 rfl ?_
              have hf9 := q_ix_s hf; clear hf; obtain ⟨hi56, hf⟩ := hf9
              refine qj_iald (t0 := 0) hx hb hK (by decide) (fun _ _ => rfl) rfl hi56 d_Md_selector_135 ?_
              have hf9 := q_bp_s hf; clear hf; obtain ⟨x57, hx57, hf⟩ := hf9
              refine qc_Si (st := [qi ((4 * (M.1 0 22)) + x6), qr (some 13)]) hx hb hml hown hts hK qT_ok hs (c_Md_small (M19.1 2 x8.toNatClampNeg) M19 _ hx57) ⟨(callB_of 1 hts (q_good tw_460) rfl rfl rfl (hts _ tw_459) (hts _ tw_461) (by decide +kernel) ⟨by decide, by decide⟩), (hts _ tw_462)⟩ rfl rfl (Nat.le_of_ble_eq_true rfl) d_Md_selector_136 ?_
              have hf9 := q_lt_s hf; clear hf; obtain ⟨j69, ej69, hf⟩ := hf9
              have hj69 : ∀ (x58 : Int32), j69 x58 = some out → QJ p l e rm_Md_selector s m args below meth c (qA 38 b) b 9 0 0 Q (qWd D (enM dA b) 38 b) M19 153 [(0, qr (some 0)), (2, qi a2), (3, qi (M.1 0 22)), (4, qi x6), (6, qi x8), (7, qi x8)] [qi x58, qi ((4 * (M.1 0 22)) + x6), qr (some 13)] := by
                clear hf
                intro x58 hf
                rw [ej69] at hf
                have hf9 := q_ix_s hf; clear hf; obtain ⟨hi59, hf⟩ := hf9
                have hf9 := q_lt_s hf; clear hf; obtain ⟨M60, eM60, hf⟩ := hf9
                refine qj_iast (t0 := 0) hx hb hK (by decide) (fun _ _ => rfl) rfl hi59 eM60 d_Md_selector_153 ?_
                refine qj_aload_n hx hb d_Md_selector_154 rfl 0 rfl ?_
                refine qj_get hx hb hts hin_12 hown hK (by decide) rfl rfl 28 (by decide) (hts _ tw_607) (fun _ h => h) (qr (some 18)) rfl d_Md_selector_155 ?_
                refine qj_iload_n hx hb d_Md_selector_158 rfl 2 rfl ?_
                refine qj_dup2 hx hb d_Md_selector_159 ?_
                have hf9 := q_ix_s hf; clear hf; obtain ⟨hi61, hf⟩ := hf9
                refine qj_iald (t0 := 0) hx hb hK (by decide) (fun _ _ => rfl) rfl hi61 d_Md_selector_160 ?_
                refine qj_aload_n hx hb d_Md_selector_161 rfl 0 rfl ?_
                refine qj_get hx hb hts hin_12 hown hK (by decide) rfl rfl 3 (by decide) (hts _ tw_592) (fun _ h => h) (qr (some 2)) rfl d_Md_selector_162 ?_
                refine qj_iload hx hb d_Md_selector_165 4 rfl ?_
                have hf9 := q_ix_s hf; clear hf; obtain ⟨hi62, hf⟩ := hf9
                refine qj_iald (t0 := 0) hx hb hK (by decide) (fun _ _ => rfl) rfl hi62 d_Md_selector_167 ?_
                have hf9 := q_bp_s hf; clear hf; obtain ⟨x63, hx63, hf⟩ := hf9
                refine qc_Si (st := [qi (M60.1 18 (M.1 0 22).toNatClampNeg), qi (M.1 0 22), qr (some 18)]) hx hb hml hown hts hK qT_ok hs (c_Md_small (M60.1 2 x8.toNatClampNeg) M60 _ hx63) ⟨(callB_of 1 hts (q_good tw_460) rfl rfl rfl (hts _ tw_459) (hts _ tw_461) (by decide +kernel) ⟨by decide, by decide⟩), (hts _ tw_462)⟩ rfl rfl (Nat.le_of_ble_eq_true rfl) d_Md_selector_168 ?_
                have hf9 := q_lt_s hf; clear hf; obtain ⟨j67, ej67, hf⟩ := hf9
                have hj67 : ∀ (x64 : Int32), j67 x64 = some out → QJ p l e rm_Md_selector s m args below meth c (qA 38 b) b 9 0 0 Q (qWd D (enM dA b) 38 b) M60 179 [(0, qr (some 0)), (2, qi a2), (3, qi (M.1 0 22)), (4, qi x6), (6, qi x8), (7, qi x8)] [qi x64, qi (M60.1 18 (M.1 0 22).toNatClampNeg), qi (M.1 0 22), qr (some 18)] := by
                  clear hf
                  intro x64 hf
                  rw [ej67] at hf
                  refine qj_iadd hx hb d_Md_selector_179 ?_
                  have hf9 := q_ix_s hf; clear hf; obtain ⟨hi65, hf⟩ := hf9
                  have hf9 := q_lt_s hf; clear hf; obtain ⟨M66, eM66, hf⟩ := hf9
                  refine qj_iast (t0 := 0) hx hb hK (by decide) (fun _ _ => rfl) rfl hi65 eM66 d_Md_selector_180 ?_
                  refine qj_iinc (j := 4) (v := x8 + 1) hx hb d_Md_selector_181 rfl rfl (by decide) rfl ?_
                  refine qj_sub [1, 2, 3, 4, 0, 5] rfl ?_
                  exact hj52 (x8 + 1) M66 hf
                refine qj_if_eq (tgt := 178) hx hb d_Md_selector_171 (by decide) (fun hc68 => ?_) (fun hc68 => ?_)
                · replace hf := q_if_t hc68 hf
                  refine qj_iconst (v := 0) hx hb d_Md_selector_178 (by decide) ?_
                  exact hj67 0 hf
                · replace hf := q_if_f hc68 hf
                  refine qj_iconst (v := 1) hx hb d_Md_selector_174 (by decide) ?_
                  refine qj_goto (tgt := 179) hx hb d_Md_selector_175 (by decide) ?_
                  exact hj67 1 hf
              refine qj_if_eq (tgt := 152) hx hb d_Md_selector_139 (by decide) (fun hc70 => ?_) (fun hc70 => ?_)
              · replace hf := q_if_t hc70 hf
                refine qj_iconst (v := 0) hx hb d_Md_selector_152 (by decide) ?_
                exact hj69 0 hf
              · replace hf := q_if_f hc70 hf
                refine qj_aload_n hx hb d_Md_selector_142 rfl 0 rfl ?_
                refine qj_get hx hb hts hin_12 hown hK (by decide) rfl rfl 3 (by decide) (hts _ tw_592) (fun _ h => h) (qr (some 2)) rfl d_Md_selector_143 ?_
                refine qj_iload hx hb d_Md_selector_146 4 rfl ?_
                have hf9 := q_ix_s hf; clear hf; obtain ⟨hi71, hf⟩ := hf9
                refine qj_iald (t0 := 0) hx hb hK (by decide) (fun _ _ => rfl) rfl hi71 d_Md_selector_148 ?_
                refine qj_goto (tgt := 153) hx hb d_Md_selector_149 (by decide) ?_
                exact hj69 (M19.1 2 x8.toNatClampNeg) hf
            refine qj_if_ne (tgt := 119) hx hb d_Md_selector_104 (by decide) (fun hc73 => ?_) (fun hc73 => ?_)
            · replace hf := q_if_f hc73 hf
              refine qj_sub [1, 2, 3, 4, 6, 0] rfl ?_
              exact hj72  hf
            · replace hf := q_if_t hc73 hf
              refine qj_aload_n hx hb d_Md_selector_107 rfl 1 rfl ?_
              refine qj_get hx hb hts hin_12 hown hK (by decide) rfl rfl 3 (by decide) (hts _ tw_592) (fun _ h => h) (qr (some 2)) rfl d_Md_selector_108 ?_
              refine qj_iload hx hb d_Md_selector_111 6 rfl ?_
              have hf9 := q_ix_s hf; clear hf; obtain ⟨hi74, hf⟩ := hf9
              refine qj_iald (t0 := 0) hx hb hK (by decide) (fun _ _ => rfl) rfl hi74 d_Md_selector_113 ?_
              refine qj_bipush (v := 42) hx hb d_Md_selector_114 (by decide) ?_
              refine qj_icmp_ne (tgt := 184) hx hb d_Md_selector_116 (by decide) (fun hc75 => ?_) (fun hc75 => ?_)
              · replace hf := q_if_f hc75 hf
                refine qj_sub [1, 2, 3, 4, 6, 0] rfl ?_
                exact hj52 x8 M19 hf
              · replace hf := q_if_t hc75 hf
                refine qj_sub [1, 2, 3, 4, 6, 0] rfl ?_
                exact hj72  hf
        · replace hf := q_if_t hc12 hf
          refine qj_iconst (v := 0) hx hb d_Md_selector_45 (by decide) ?_
          exact hret _ _ _ _ (Or.inl rfl) d_Md_selector_46 (Option.some.inj hf)
  refine qj_sub [4, 6, 3, 2, 1, 0] rfl ?_
  refine hL33 _ _ (fun M76 hf9 => ?_) 0 0 x5 M4 hf
  clear hf; have hf := hf9; clear hf9
  refine qj_iconst (v := 0) hx hb d_Md_selector_348 (by decide) ?_
  exact hret _ _ _ _ (Or.inl rfl) d_Md_selector_349 (Option.some.inj hf)
theorem d_Md_readSheet_0 : decode prog_14_method_46_code 0 = .ok (.aload_n 0, 1) := by decide +kernel
theorem d_Md_readSheet_1 : decode prog_14_method_46_code 1 = .ok (.iconst 0, 1) := by decide +kernel
theorem d_Md_readSheet_2 : decode prog_14_method_46_code 2 = .ok (.putfield 272, 3) := by decide +kernel
theorem d_Md_readSheet_5 : decode prog_14_method_46_code 5 = .ok (.iconst 0, 1) := by decide +kernel
theorem d_Md_readSheet_6 : decode prog_14_method_46_code 6 = .ok (.istore_n 1, 1) := by decide +kernel
theorem d_Md_readSheet_7 : decode prog_14_method_46_code 7 = .ok (.iload_n 1, 1) := by decide +kernel
theorem d_Md_readSheet_8 : decode prog_14_method_46_code 8 = .ok (.ifCond .lt 96, 3) := by decide +kernel
theorem d_Md_readSheet_11 : decode prog_14_method_46_code 11 = .ok (.aload_n 0, 1) := by decide +kernel
theorem d_Md_readSheet_12 : decode prog_14_method_46_code 12 = .ok (.getfield 272, 3) := by decide +kernel
theorem d_Md_readSheet_15 : decode prog_14_method_46_code 15 = .ok (.bipush 12, 2) := by decide +kernel
theorem d_Md_readSheet_17 : decode prog_14_method_46_code 17 = .ok (.if_icmp .ge 87, 3) := by decide +kernel
theorem d_Md_readSheet_20 : decode prog_14_method_46_code 20 = .ok (.aload_n 0, 1) := by decide +kernel
theorem d_Md_readSheet_21 : decode prog_14_method_46_code 21 = .ok (.iload_n 1, 1) := by decide +kernel
theorem d_Md_readSheet_22 : decode prog_14_method_46_code 22 = .ok (.bipush 123, 2) := by decide +kernel
theorem d_Md_readSheet_24 : decode prog_14_method_46_code 24 = .ok (.invokevirtual 275, 3) := by decide +kernel
theorem d_Md_readSheet_27 : decode prog_14_method_46_code 27 = .ok (.istore_n 2, 1) := by decide +kernel
theorem d_Md_readSheet_28 : decode prog_14_method_46_code 28 = .ok (.iload_n 2, 1) := by decide +kernel
theorem d_Md_readSheet_29 : decode prog_14_method_46_code 29 = .ok (.ifCond .ge 7, 3) := by decide +kernel
theorem d_Md_readSheet_32 : decode prog_14_method_46_code 32 = .ok (.iconst (-1), 1) := by decide +kernel
theorem d_Md_readSheet_33 : decode prog_14_method_46_code 33 = .ok (.goto 10, 3) := by decide +kernel
theorem d_Md_readSheet_36 : decode prog_14_method_46_code 36 = .ok (.aload_n 0, 1) := by decide +kernel
theorem d_Md_readSheet_37 : decode prog_14_method_46_code 37 = .ok (.iload_n 2, 1) := by decide +kernel
theorem d_Md_readSheet_38 : decode prog_14_method_46_code 38 = .ok (.bipush 125, 2) := by decide +kernel
theorem d_Md_readSheet_40 : decode prog_14_method_46_code 40 = .ok (.invokevirtual 275, 3) := by decide +kernel
theorem d_Md_readSheet_43 : decode prog_14_method_46_code 43 = .ok (.istore_n 3, 1) := by decide +kernel
theorem d_Md_readSheet_44 : decode prog_14_method_46_code 44 = .ok (.iload_n 3, 1) := by decide +kernel
theorem d_Md_readSheet_45 : decode prog_14_method_46_code 45 = .ok (.ifCond .lt 44, 3) := by decide +kernel
theorem d_Md_readSheet_48 : decode prog_14_method_46_code 48 = .ok (.aload_n 0, 1) := by decide +kernel
theorem d_Md_readSheet_49 : decode prog_14_method_46_code 49 = .ok (.iload_n 1, 1) := by decide +kernel
theorem d_Md_readSheet_50 : decode prog_14_method_46_code 50 = .ok (.iload_n 2, 1) := by decide +kernel
theorem d_Md_readSheet_51 : decode prog_14_method_46_code 51 = .ok (.invokevirtual 278, 3) := by decide +kernel
theorem d_Md_readSheet_54 : decode prog_14_method_46_code 54 = .ok (.ifCond .eq 35, 3) := by decide +kernel
theorem d_Md_readSheet_57 : decode prog_14_method_46_code 57 = .ok (.aload_n 0, 1) := by decide +kernel
theorem d_Md_readSheet_58 : decode prog_14_method_46_code 58 = .ok (.getfield 65, 3) := by decide +kernel
theorem d_Md_readSheet_61 : decode prog_14_method_46_code 61 = .ok (.aload_n 0, 1) := by decide +kernel
theorem d_Md_readSheet_62 : decode prog_14_method_46_code 62 = .ok (.getfield 272, 3) := by decide +kernel
theorem d_Md_readSheet_65 : decode prog_14_method_46_code 65 = .ok (.iload_n 2, 1) := by decide +kernel
theorem d_Md_readSheet_66 : decode prog_14_method_46_code 66 = .ok (.iconst 1, 1) := by decide +kernel
theorem d_Md_readSheet_67 : decode prog_14_method_46_code 67 = .ok (.iadd, 1) := by decide +kernel
theorem d_Md_readSheet_68 : decode prog_14_method_46_code 68 = .ok (.iastore, 1) := by decide +kernel
theorem d_Md_readSheet_69 : decode prog_14_method_46_code 69 = .ok (.aload_n 0, 1) := by decide +kernel
theorem d_Md_readSheet_70 : decode prog_14_method_46_code 70 = .ok (.getfield 68, 3) := by decide +kernel
theorem d_Md_readSheet_73 : decode prog_14_method_46_code 73 = .ok (.aload_n 0, 1) := by decide +kernel
theorem d_Md_readSheet_74 : decode prog_14_method_46_code 74 = .ok (.getfield 272, 3) := by decide +kernel
theorem d_Md_readSheet_77 : decode prog_14_method_46_code 77 = .ok (.iload_n 3, 1) := by decide +kernel
theorem d_Md_readSheet_78 : decode prog_14_method_46_code 78 = .ok (.iastore, 1) := by decide +kernel
theorem d_Md_readSheet_79 : decode prog_14_method_46_code 79 = .ok (.aload_n 0, 1) := by decide +kernel
theorem d_Md_readSheet_80 : decode prog_14_method_46_code 80 = .ok (.dup, 1) := by decide +kernel
theorem d_Md_readSheet_81 : decode prog_14_method_46_code 81 = .ok (.getfield 272, 3) := by decide +kernel
theorem d_Md_readSheet_84 : decode prog_14_method_46_code 84 = .ok (.iconst 1, 1) := by decide +kernel
theorem d_Md_readSheet_85 : decode prog_14_method_46_code 85 = .ok (.iadd, 1) := by decide +kernel
theorem d_Md_readSheet_86 : decode prog_14_method_46_code 86 = .ok (.putfield 272, 3) := by decide +kernel
theorem d_Md_readSheet_89 : decode prog_14_method_46_code 89 = .ok (.iload_n 3, 1) := by decide +kernel
theorem d_Md_readSheet_90 : decode prog_14_method_46_code 90 = .ok (.ifCond .ge 7, 3) := by decide +kernel
theorem d_Md_readSheet_93 : decode prog_14_method_46_code 93 = .ok (.iconst (-1), 1) := by decide +kernel
theorem d_Md_readSheet_94 : decode prog_14_method_46_code 94 = .ok (.goto 6, 3) := by decide +kernel
theorem d_Md_readSheet_97 : decode prog_14_method_46_code 97 = .ok (.iload_n 3, 1) := by decide +kernel
theorem d_Md_readSheet_98 : decode prog_14_method_46_code 98 = .ok (.iconst 1, 1) := by decide +kernel
theorem d_Md_readSheet_99 : decode prog_14_method_46_code 99 = .ok (.iadd, 1) := by decide +kernel
theorem d_Md_readSheet_100 : decode prog_14_method_46_code 100 = .ok (.istore_n 1, 1) := by decide +kernel
theorem d_Md_readSheet_101 : decode prog_14_method_46_code 101 = .ok (.goto (-94), 3) := by decide +kernel
theorem d_Md_readSheet_104 : decode prog_14_method_46_code 104 = .ok (.return_, 1) := by decide +kernel
def f_Md_readSheet_7  : Nat → (qM → Option qM) → Int32 → qM → Option qM
  | 0, _, _, _ => none
  | n + 1, K4, x2, M3 => if x2 < 0 then (K4 M3) else (if 12 ≤ (M3.1 0 22) then (K4 M3) else (q_bp (f_Md_nextSign x2 123 M3) fun x7 => q_lt (fun (x8 : Int32) => q_lt (fun (M9 : qM) => if 0 ≤ x8 then (f_Md_readSheet_7 n K4 (x8 + 1) M9) else (f_Md_readSheet_7 n K4 (-1) M9)) fun (j11 : qM → Option qM) => if x8 < 0 then (j11 M3) else (q_cl (f_Md_selector x2 x7 M3) fun x13 M14 => if x13 = 0 then (j11 M14) else (q_ix (M14.1 0 22) 12 <| q_lt (qsI M14 19 (M14.1 0 22).toNatClampNeg (x7 + 1)) fun M17 => q_ix (M17.1 0 22) 12 <| q_lt (qsI M17 20 (M17.1 0 22).toNatClampNeg x8) fun M19 => q_lt (qsI M19 0 22 ((M19.1 0 22) + 1)) fun M20 => j11 M20))) fun (j21 : Int32 → Option qM) => if 0 ≤ x7 then (q_bp (f_Md_nextSign x7 125 M3) fun x23 => j21 x23) else (j21 (-1))))
def f_Md_readSheet  (M : qM) : Option qM := q_lt (qsI M 0 22 0) fun M1 => f_Md_readSheet_7 1000 (fun (M24 : qM) => some M24) 0 M1
abbrev rm_Md_readSheet : Room := { frames := 2, cells := 0, slots := 0, locals := 51 }
set_option maxRecDepth 100000 in
set_option maxHeartbeats 4000000 in
theorem c_Md_readSheet {l : Launch} {D : va_G} {dA : Nat → ClassId} {b : Nat}   (M : qM) (out : qM) (hf : f_Md_readSheet M = some out) : CTv l y_Md_readSheet w_Md_readSheet rm_Md_readSheet D (tysX dA) (enM dA b) 38 b (fun _ => True) [qr (some 0)] M out := by
  refine qm_v (cc := prog_14_method_46_code) (nL := 4) (by decide) rfl (Nat.le_of_ble_eq_true rfl) ?_
  intro p e s m args below meth c Q hx hb hts0 hown hml hK hs hret
  have hts : ∀ w ∈ lw_g, w.before args s = true := fun w h => hts0 w (List.mem_cons_of_mem _ h)
  show QJ p l e rm_Md_readSheet s m args below meth c (qA 38 b) b 4 0 0 Q (qWd D (enM dA b) 38 b) M 0 [(0, qr (some 0))] []
  unfold f_Md_readSheet at hf
  refine qj_aload_n hx hb d_Md_readSheet_0 rfl 0 rfl ?_
  refine qj_iconst (v := 0) hx hb d_Md_readSheet_1 (by decide) ?_
  have hf9 := q_lt_s hf; clear hf; obtain ⟨M1, eM1, hf⟩ := hf9
  refine qj_puti (ty := .int) hx hb hts hin_12 ty_12 tyok_12 nm_12 hown hK (by decide) rfl rfl 22 (by decide) (hts _ tw_605) (fun _ h => h) rfl (by decide +kernel) rfl rfl (Nat.le_of_ble_eq_true rfl) sm_22 eM1 d_Md_readSheet_2 ?_
  refine qj_iconst (v := 0) hx hb d_Md_readSheet_5 (by decide) ?_
  refine qj_istore_n hx hb d_Md_readSheet_6 rfl (by decide) rfl ?_
  have hL7 : ∀ (n : Nat) (K4 : qM → Option qM), (∀ (M24 : qM), K4 M24 = some out → QJ p l e rm_Md_readSheet s m args below meth c (qA 38 b) b 4 0 0 Q (qWd D (enM dA b) 38 b) M24 104 [] []) → ∀ (x2 : Int32) (M3 : qM), f_Md_readSheet_7 n K4 x2 M3 = some out → QJ p l e rm_Md_readSheet s m args below meth c (qA 38 b) b 4 0 0 Q (qWd D (enM dA b) 38 b) M3 7 [(0, qr (some 0)), (1, qi x2)] [] := by
    clear hf
    intro n
    induction n with
    | zero =>
      intro K4 hK4 x2 M3 hf
      exact absurd hf (by simp [f_Md_readSheet_7])
    | succ n ih7 =>
      intro K4 hK4 x2 M3 hf
      rw [f_Md_readSheet_7] at hf
      have ih7 := ih7 K4 hK4
      refine qj_iload_n hx hb d_Md_readSheet_7 rfl 1 rfl ?_
      refine qj_if_lt (tgt := 104) hx hb d_Md_readSheet_8 (by decide) (fun hc5 => ?_) (fun hc5 => ?_)
      · replace hf := q_if_t hc5 hf
        refine qj_sub [] rfl ?_
        exact hK4 M3 hf
      · replace hf := q_if_f hc5 hf
        refine qj_aload_n hx hb d_Md_readSheet_11 rfl 0 rfl ?_
        refine qj_get hx hb hts hin_12 hown hK (by decide) rfl rfl 22 (by decide) (hts _ tw_605) (fun _ h => h) (qi (M3.1 0 22)) rfl d_Md_readSheet_12 ?_
        refine qj_bipush (v := 12) hx hb d_Md_readSheet_15 (by decide) ?_
        refine qj_icmp_ge (tgt := 104) hx hb d_Md_readSheet_17 (by decide) (fun hc6 => ?_) (fun hc6 => ?_)
        · replace hf := q_if_t hc6 hf
          refine qj_sub [] rfl ?_
          exact hK4 M3 hf
        · replace hf := q_if_f hc6 hf
          refine qj_aload_n hx hb d_Md_readSheet_20 rfl 0 rfl ?_
          refine qj_iload_n hx hb d_Md_readSheet_21 rfl 1 rfl ?_
          refine qj_bipush (v := 123) hx hb d_Md_readSheet_22 (by decide) ?_
          have hf9 := q_bp_s hf; clear hf; obtain ⟨x7, hx7, hf⟩ := hf9
          refine qc_Vi (st := []) hx hb hml hown hts hK qT_ok hs (c_Md_nextSign x2 123 M3 _ hx7) ⟨(callB_of 2 hts (q_good tw_616) rfl rfl rfl (hts _ tw_459) (hts _ tw_617) (by decide +kernel) ⟨by decide, by decide⟩), (hts _ tw_618), (hts _ tw_619)⟩ (by decide) rfl rfl rfl rfl (Nat.le_of_ble_eq_true rfl) d_Md_readSheet_24 ?_
          refine qj_istore_n hx hb d_Md_readSheet_27 rfl (by decide) rfl ?_
          refine qj_iload_n hx hb d_Md_readSheet_28 rfl 0 rfl ?_
          have hf9 := q_lt_s hf; clear hf; obtain ⟨j21, ej21, hf⟩ := hf9
          have hj21 : ∀ (x8 : Int32), j21 x8 = some out → QJ p l e rm_Md_readSheet s m args below meth c (qA 38 b) b 4 0 0 Q (qWd D (enM dA b) 38 b) M3 43 [(0, qr (some 0)), (1, qi x2), (2, qi x7)] [qi x8] := by
            clear hf
            intro x8 hf
            rw [ej21] at hf
            refine qj_istore_n hx hb d_Md_readSheet_43 rfl (by decide) rfl ?_
            refine qj_iload_n hx hb d_Md_readSheet_44 rfl 0 rfl ?_
            have hf9 := q_lt_s hf; clear hf; obtain ⟨j11, ej11, hf⟩ := hf9
            have hj11 : ∀ (M9 : qM), j11 M9 = some out → QJ p l e rm_Md_readSheet s m args below meth c (qA 38 b) b 4 0 0 Q (qWd D (enM dA b) 38 b) M9 89 [(0, qr (some 0)), (3, qi x8)] [] := by
              clear hf
              intro M9 hf
              rw [ej11] at hf
              refine qj_iload_n hx hb d_Md_readSheet_89 rfl 1 rfl ?_
              refine qj_if_ge (tgt := 97) hx hb d_Md_readSheet_90 (by decide) (fun hc10 => ?_) (fun hc10 => ?_)
              · replace hf := q_if_t hc10 hf
                refine qj_iload_n hx hb d_Md_readSheet_97 rfl 1 rfl ?_
                refine qj_iconst (v := 1) hx hb d_Md_readSheet_98 (by decide) ?_
                refine qj_iadd hx hb d_Md_readSheet_99 ?_
                refine qj_istore_n hx hb d_Md_readSheet_100 rfl (by decide) rfl ?_
                refine qj_goto (tgt := 7) hx hb d_Md_readSheet_101 (by decide) ?_
                refine qj_sub [1, 0] rfl ?_
                exact ih7 (x8 + 1) M9 hf
              · replace hf := q_if_f hc10 hf
                refine qj_iconst (v := (-1)) hx hb d_Md_readSheet_93 (by decide) ?_
                refine qj_goto (tgt := 100) hx hb d_Md_readSheet_94 (by decide) ?_
                refine qj_istore_n hx hb d_Md_readSheet_100 rfl (by decide) rfl ?_
                refine qj_goto (tgt := 7) hx hb d_Md_readSheet_101 (by decide) ?_
                refine qj_sub [1, 0] rfl ?_
                exact ih7 (-1) M9 hf
            refine qj_if_lt (tgt := 89) hx hb d_Md_readSheet_45 (by decide) (fun hc12 => ?_) (fun hc12 => ?_)
            · replace hf := q_if_t hc12 hf
              refine qj_sub [1, 0] rfl ?_
              exact hj11 M3 hf
            · replace hf := q_if_f hc12 hf
              refine qj_aload_n hx hb d_Md_readSheet_48 rfl 1 rfl ?_
              refine qj_iload_n hx hb d_Md_readSheet_49 rfl 2 rfl ?_
              refine qj_iload_n hx hb d_Md_readSheet_50 rfl 3 rfl ?_
              have hf9 := q_cl_s hf; clear hf; obtain ⟨x13, M14, hx13, hf⟩ := hf9
              refine qc_Vi (st := []) hx hb hml hown hts hK qT_ok hs (c_Md_selector x2 x7 M3 _ hx13) ⟨(callB_of 2 hts (q_good tw_620) rfl rfl rfl (hts _ tw_459) (hts _ tw_621) (by decide +kernel) ⟨by decide, by decide⟩), (hts _ tw_622), (hts _ tw_623)⟩ (by decide) rfl rfl rfl rfl (Nat.le_of_ble_eq_true rfl) d_Md_readSheet_51 ?_
              refine qj_if_eq (tgt := 89) hx hb d_Md_readSheet_54 (by decide) (fun hc15 => ?_) (fun hc15 => ?_)
              · replace hf := q_if_t hc15 hf
                refine qj_sub [1, 0] rfl ?_
                exact hj11 M14 hf
              · replace hf := q_if_f hc15 hf
                refine qj_aload_n hx hb d_Md_readSheet_57 rfl 1 rfl ?_
                refine qj_get hx hb hts hin_12 hown hK (by decide) rfl rfl 29 (by decide) (hts _ tw_624) (fun _ h => h) (qr (some 19)) rfl d_Md_readSheet_58 ?_
                refine qj_aload_n hx hb d_Md_readSheet_61 rfl 1 rfl ?_
                refine qj_get hx hb hts hin_12 hown hK (by decide) rfl rfl 22 (by decide) (hts _ tw_605) (fun _ h => h) (qi (M14.1 0 22)) rfl d_Md_readSheet_62 ?_
                refine qj_iload_n hx hb d_Md_readSheet_65 rfl 3 rfl ?_
                refine qj_iconst (v := 1) hx hb d_Md_readSheet_66 (by decide) ?_
                refine qj_iadd hx hb d_Md_readSheet_67 ?_
                have hf9 := q_ix_s hf; clear hf; obtain ⟨hi16, hf⟩ := hf9
                have hf9 := q_lt_s hf; clear hf; obtain ⟨M17, eM17, hf⟩ := hf9
                refine qj_iast (t0 := 0) hx hb hK (by decide) (fun _ _ => rfl) rfl hi16 eM17 d_Md_readSheet_68 ?_
                refine qj_aload_n hx hb d_Md_readSheet_69 rfl 1 rfl ?_
                refine qj_get hx hb hts hin_12 hown hK (by decide) rfl rfl 30 (by decide) (hts _ tw_625) (fun _ h => h) (qr (some 20)) rfl d_Md_readSheet_70 ?_
                refine qj_aload_n hx hb d_Md_readSheet_73 rfl 1 rfl ?_
                refine qj_get hx hb hts hin_12 hown hK (by decide) rfl rfl 22 (by decide) (hts _ tw_605) (fun _ h => h) (qi (M17.1 0 22)) rfl d_Md_readSheet_74 ?_
                refine qj_iload_n hx hb d_Md_readSheet_77 rfl 0 rfl ?_
                have hf9 := q_ix_s hf; clear hf; obtain ⟨hi18, hf⟩ := hf9
                have hf9 := q_lt_s hf; clear hf; obtain ⟨M19, eM19, hf⟩ := hf9
                refine qj_iast (t0 := 0) hx hb hK (by decide) (fun _ _ => rfl) rfl hi18 eM19 d_Md_readSheet_78 ?_
                refine qj_aload_n hx hb d_Md_readSheet_79 rfl 1 rfl ?_
                refine qj_dup hx hb d_Md_readSheet_80 ?_
                refine qj_get hx hb hts hin_12 hown hK (by decide) rfl rfl 22 (by decide) (hts _ tw_605) (fun _ h => h) (qi (M19.1 0 22)) rfl d_Md_readSheet_81 ?_
                refine qj_iconst (v := 1) hx hb d_Md_readSheet_84 (by decide) ?_
                refine qj_iadd hx hb d_Md_readSheet_85 ?_
                have hf9 := q_lt_s hf; clear hf; obtain ⟨M20, eM20, hf⟩ := hf9
                refine qj_puti (ty := .int) hx hb hts hin_12 ty_12 tyok_12 nm_12 hown hK (by decide) rfl rfl 22 (by decide) (hts _ tw_605) (fun _ h => h) rfl (by decide +kernel) rfl rfl (Nat.le_of_ble_eq_true rfl) sm_22 eM20 d_Md_readSheet_86 ?_
                refine qj_sub [1, 0] rfl ?_
                exact hj11 M20 hf
          refine qj_if_ge (tgt := 36) hx hb d_Md_readSheet_29 (by decide) (fun hc22 => ?_) (fun hc22 => ?_)
          · replace hf := q_if_t hc22 hf
            refine qj_aload_n hx hb d_Md_readSheet_36 rfl 1 rfl ?_
            refine qj_iload_n hx hb d_Md_readSheet_37 rfl 0 rfl ?_
            refine qj_bipush (v := 125) hx hb d_Md_readSheet_38 (by decide) ?_
            have hf9 := q_bp_s hf; clear hf; obtain ⟨x23, hx23, hf⟩ := hf9
            refine qc_Vi (st := []) hx hb hml hown hts hK qT_ok hs (c_Md_nextSign x7 125 M3 _ hx23) ⟨(callB_of 2 hts (q_good tw_616) rfl rfl rfl (hts _ tw_459) (hts _ tw_617) (by decide +kernel) ⟨by decide, by decide⟩), (hts _ tw_618), (hts _ tw_619)⟩ (by decide) rfl rfl rfl rfl (Nat.le_of_ble_eq_true rfl) d_Md_readSheet_40 ?_
            refine qj_sub [1, 2, 0] rfl ?_
            exact hj21 x23 hf
          · replace hf := q_if_f hc22 hf
            refine qj_iconst (v := (-1)) hx hb d_Md_readSheet_32 (by decide) ?_
            refine qj_goto (tgt := 43) hx hb d_Md_readSheet_33 (by decide) ?_
            refine qj_sub [1, 2, 0] rfl ?_
            exact hj21 (-1) hf
  refine qj_sub [1, 0] rfl ?_
  refine hL7 _ _ (fun M24 hf9 => ?_) 0 M1 hf
  clear hf; have hf := hf9; clear hf9
  exact hret _ _ _ d_Md_readSheet_104 (Option.some.inj hf)
theorem d_Md_rules_0 : decode prog_14_method_44_code 0 = .ok (.aload_n 0, 1) := by decide +kernel
theorem d_Md_rules_1 : decode prog_14_method_44_code 1 = .ok (.invokevirtual 269, 3) := by decide +kernel
theorem d_Md_rules_4 : decode prog_14_method_44_code 4 = .ok (.aload_n 0, 1) := by decide +kernel
theorem d_Md_rules_5 : decode prog_14_method_44_code 5 = .ok (.getfield 272, 3) := by decide +kernel
theorem d_Md_rules_8 : decode prog_14_method_44_code 8 = .ok (.ireturn, 1) := by decide +kernel
def f_Md_rules  (M : qM) : Option (Int32 × qM) := q_cv (f_Md_readSheet M) fun M1 => some (M1.1 0 22, M1)
abbrev rm_Md_rules : Room := { frames := 3, cells := 0, slots := 0, locals := 74 }
set_option maxRecDepth 100000 in
set_option maxHeartbeats 4000000 in
theorem c_Md_rules {l : Launch} {D : va_G} {dA : Nat → ClassId} {b : Nat}   (M : qM) (out : Int32 × qM) (hf : f_Md_rules M = some out) : CTi l y_Md_rules w_Md_rules rm_Md_rules D (tysX dA) (enM dA b) 38 b (fun _ => True) [qr (some 0)] M out := by
  refine qm_i (cc := prog_14_method_44_code) (nL := 1) (by decide) rfl (Nat.le_of_ble_eq_true rfl) ?_
  intro p e s m args below meth c Q hx hb hts0 hown hml hK hs hret
  have hts : ∀ w ∈ lw_g, w.before args s = true := fun w h => hts0 w (List.mem_cons_of_mem _ h)
  show QJ p l e rm_Md_rules s m args below meth c (qA 38 b) b 1 0 0 Q (qWd D (enM dA b) 38 b) M 0 [(0, qr (some 0))] []
  unfold f_Md_rules at hf
  refine qj_aload_n hx hb d_Md_rules_0 rfl 0 rfl ?_
  have hf9 := q_cv_s hf; clear hf; obtain ⟨M1, hM1, hf⟩ := hf9
  refine qc_Vv (st := []) hx hb hml hown hts hK qT_ok hs (c_Md_readSheet  M _ hM1) ⟨(callB_of 0 hts (q_good tw_626) rfl rfl rfl (hts _ tw_459) (hts _ tw_627) (by decide +kernel) ⟨by decide, by decide⟩), (hts _ tw_628), (hts _ tw_629)⟩ (by decide) rfl rfl rfl rfl (Nat.le_of_ble_eq_true rfl) d_Md_rules_1 ?_
  refine qj_aload_n hx hb d_Md_rules_4 rfl 0 rfl ?_
  refine qj_get hx hb hts hin_12 hown hK (by decide) rfl rfl 22 (by decide) (hts _ tw_605) (fun _ h => h) (qi (M1.1 0 22)) rfl d_Md_rules_5 ?_
  exact hret _ _ _ _ d_Md_rules_8 (Option.some.inj hf)
theorem d_Md_match_0 : decode prog_14_method_49_code 0 = .ok (.iconst 1, 1) := by decide +kernel
theorem d_Md_match_1 : decode prog_14_method_49_code 1 = .ok (.istore_n 2, 1) := by decide +kernel
theorem d_Md_match_2 : decode prog_14_method_49_code 2 = .ok (.iload_n 2, 1) := by decide +kernel
theorem d_Md_match_3 : decode prog_14_method_49_code 3 = .ok (.aload_n 0, 1) := by decide +kernel
theorem d_Md_match_4 : decode prog_14_method_49_code 4 = .ok (.getfield 56, 3) := by decide +kernel
theorem d_Md_match_7 : decode prog_14_method_49_code 7 = .ok (.iload_n 1, 1) := by decide +kernel
theorem d_Md_match_8 : decode prog_14_method_49_code 8 = .ok (.iaload, 1) := by decide +kernel
theorem d_Md_match_9 : decode prog_14_method_49_code 9 = .ok (.if_icmp .gt 236, 3) := by decide +kernel
theorem d_Md_match_12 : decode prog_14_method_49_code 12 = .ok (.iconst 4, 1) := by decide +kernel
theorem d_Md_match_13 : decode prog_14_method_49_code 13 = .ok (.iload_n 1, 1) := by decide +kernel
theorem d_Md_match_14 : decode prog_14_method_49_code 14 = .ok (.imul, 1) := by decide +kernel
theorem d_Md_match_15 : decode prog_14_method_49_code 15 = .ok (.iload_n 2, 1) := by decide +kernel
theorem d_Md_match_16 : decode prog_14_method_49_code 16 = .ok (.iadd, 1) := by decide +kernel
theorem d_Md_match_17 : decode prog_14_method_49_code 17 = .ok (.iconst 1, 1) := by decide +kernel
theorem d_Md_match_18 : decode prog_14_method_49_code 18 = .ok (.isub, 1) := by decide +kernel
theorem d_Md_match_19 : decode prog_14_method_49_code 19 = .ok (.istore_n 3, 1) := by decide +kernel
theorem d_Md_match_20 : decode prog_14_method_49_code 20 = .ok (.iconst 0, 1) := by decide +kernel
theorem d_Md_match_21 : decode prog_14_method_49_code 21 = .ok (.istore 4, 2) := by decide +kernel
theorem d_Md_match_23 : decode prog_14_method_49_code 23 = .ok (.iload 4, 2) := by decide +kernel
theorem d_Md_match_25 : decode prog_14_method_49_code 25 = .ok (.aload_n 0, 1) := by decide +kernel
theorem d_Md_match_26 : decode prog_14_method_49_code 26 = .ok (.getfield 142, 3) := by decide +kernel
theorem d_Md_match_29 : decode prog_14_method_49_code 29 = .ok (.if_icmp .ge 210, 3) := by decide +kernel
theorem d_Md_match_32 : decode prog_14_method_49_code 32 = .ok (.aload_n 0, 1) := by decide +kernel
theorem d_Md_match_33 : decode prog_14_method_49_code 33 = .ok (.getfield 16, 3) := by decide +kernel
theorem d_Md_match_36 : decode prog_14_method_49_code 36 = .ok (.iload 4, 2) := by decide +kernel
theorem d_Md_match_38 : decode prog_14_method_49_code 38 = .ok (.iaload, 1) := by decide +kernel
theorem d_Md_match_39 : decode prog_14_method_49_code 39 = .ok (.istore 5, 2) := by decide +kernel
theorem d_Md_match_41 : decode prog_14_method_49_code 41 = .ok (.aload_n 0, 1) := by decide +kernel
theorem d_Md_match_42 : decode prog_14_method_49_code 42 = .ok (.getfield 19, 3) := by decide +kernel
theorem d_Md_match_45 : decode prog_14_method_49_code 45 = .ok (.iload 5, 2) := by decide +kernel
theorem d_Md_match_47 : decode prog_14_method_49_code 47 = .ok (.iaload, 1) := by decide +kernel
theorem d_Md_match_48 : decode prog_14_method_49_code 48 = .ok (.iconst 1, 1) := by decide +kernel
theorem d_Md_match_49 : decode prog_14_method_49_code 49 = .ok (.if_icmp .le 55, 3) := by decide +kernel
theorem d_Md_match_52 : decode prog_14_method_49_code 52 = .ok (.aload_n 0, 1) := by decide +kernel
theorem d_Md_match_53 : decode prog_14_method_49_code 53 = .ok (.getfield 46, 3) := by decide +kernel
theorem d_Md_match_56 : decode prog_14_method_49_code 56 = .ok (.iload_n 3, 1) := by decide +kernel
theorem d_Md_match_57 : decode prog_14_method_49_code 57 = .ok (.iaload, 1) := by decide +kernel
theorem d_Md_match_58 : decode prog_14_method_49_code 58 = .ok (.ifCond .eq 19, 3) := by decide +kernel
theorem d_Md_match_61 : decode prog_14_method_49_code 61 = .ok (.aload_n 0, 1) := by decide +kernel
theorem d_Md_match_62 : decode prog_14_method_49_code 62 = .ok (.getfield 46, 3) := by decide +kernel
theorem d_Md_match_65 : decode prog_14_method_49_code 65 = .ok (.iload_n 3, 1) := by decide +kernel
theorem d_Md_match_66 : decode prog_14_method_49_code 66 = .ok (.iaload, 1) := by decide +kernel
theorem d_Md_match_67 : decode prog_14_method_49_code 67 = .ok (.aload_n 0, 1) := by decide +kernel
theorem d_Md_match_68 : decode prog_14_method_49_code 68 = .ok (.getfield 19, 3) := by decide +kernel
theorem d_Md_match_71 : decode prog_14_method_49_code 71 = .ok (.iload 5, 2) := by decide +kernel
theorem d_Md_match_73 : decode prog_14_method_49_code 73 = .ok (.iaload, 1) := by decide +kernel
theorem d_Md_match_74 : decode prog_14_method_49_code 74 = .ok (.if_icmp .ne 30, 3) := by decide +kernel
theorem d_Md_match_77 : decode prog_14_method_49_code 77 = .ok (.aload_n 0, 1) := by decide +kernel
theorem d_Md_match_78 : decode prog_14_method_49_code 78 = .ok (.getfield 22, 3) := by decide +kernel
theorem d_Md_match_81 : decode prog_14_method_49_code 81 = .ok (.iload 5, 2) := by decide +kernel
theorem d_Md_match_83 : decode prog_14_method_49_code 83 = .ok (.iaload, 1) := by decide +kernel
theorem d_Md_match_84 : decode prog_14_method_49_code 84 = .ok (.aload_n 0, 1) := by decide +kernel
theorem d_Md_match_85 : decode prog_14_method_49_code 85 = .ok (.getfield 49, 3) := by decide +kernel
theorem d_Md_match_88 : decode prog_14_method_49_code 88 = .ok (.iload_n 3, 1) := by decide +kernel
theorem d_Md_match_89 : decode prog_14_method_49_code 89 = .ok (.iaload, 1) := by decide +kernel
theorem d_Md_match_90 : decode prog_14_method_49_code 90 = .ok (.iand, 1) := by decide +kernel
theorem d_Md_match_91 : decode prog_14_method_49_code 91 = .ok (.aload_n 0, 1) := by decide +kernel
theorem d_Md_match_92 : decode prog_14_method_49_code 92 = .ok (.getfield 49, 3) := by decide +kernel
theorem d_Md_match_95 : decode prog_14_method_49_code 95 = .ok (.iload_n 3, 1) := by decide +kernel
theorem d_Md_match_96 : decode prog_14_method_49_code 96 = .ok (.iaload, 1) := by decide +kernel
theorem d_Md_match_97 : decode prog_14_method_49_code 97 = .ok (.if_icmp .ne 7, 3) := by decide +kernel
theorem d_Md_match_100 : decode prog_14_method_49_code 100 = .ok (.iconst 1, 1) := by decide +kernel
theorem d_Md_match_101 : decode prog_14_method_49_code 101 = .ok (.goto 4, 3) := by decide +kernel
theorem d_Md_match_104 : decode prog_14_method_49_code 104 = .ok (.iconst 0, 1) := by decide +kernel
theorem d_Md_match_105 : decode prog_14_method_49_code 105 = .ok (.istore 6, 2) := by decide +kernel
theorem d_Md_match_107 : decode prog_14_method_49_code 107 = .ok (.iload_n 2, 1) := by decide +kernel
theorem d_Md_match_108 : decode prog_14_method_49_code 108 = .ok (.iconst 1, 1) := by decide +kernel
theorem d_Md_match_109 : decode prog_14_method_49_code 109 = .ok (.if_icmp .ne 7, 3) := by decide +kernel
theorem d_Md_match_112 : decode prog_14_method_49_code 112 = .ok (.iconst 1, 1) := by decide +kernel
theorem d_Md_match_113 : decode prog_14_method_49_code 113 = .ok (.goto 4, 3) := by decide +kernel
theorem d_Md_match_116 : decode prog_14_method_49_code 116 = .ok (.iconst 0, 1) := by decide +kernel
theorem d_Md_match_117 : decode prog_14_method_49_code 117 = .ok (.istore 7, 2) := by decide +kernel
theorem d_Md_match_119 : decode prog_14_method_49_code 119 = .ok (.aload_n 0, 1) := by decide +kernel
theorem d_Md_match_120 : decode prog_14_method_49_code 120 = .ok (.getfield 74, 3) := by decide +kernel
theorem d_Md_match_123 : decode prog_14_method_49_code 123 = .ok (.iload 4, 2) := by decide +kernel
theorem d_Md_match_125 : decode prog_14_method_49_code 125 = .ok (.iaload, 1) := by decide +kernel
theorem d_Md_match_126 : decode prog_14_method_49_code 126 = .ok (.istore 8, 2) := by decide +kernel
theorem d_Md_match_128 : decode prog_14_method_49_code 128 = .ok (.iconst 0, 1) := by decide +kernel
theorem d_Md_match_129 : decode prog_14_method_49_code 129 = .ok (.istore 9, 2) := by decide +kernel
theorem d_Md_match_131 : decode prog_14_method_49_code 131 = .ok (.iload 9, 2) := by decide +kernel
theorem d_Md_match_133 : decode prog_14_method_49_code 133 = .ok (.bipush 40, 2) := by decide +kernel
theorem d_Md_match_135 : decode prog_14_method_49_code 135 = .ok (.if_icmp .ge 71, 3) := by decide +kernel
theorem d_Md_match_138 : decode prog_14_method_49_code 138 = .ok (.iload 8, 2) := by decide +kernel
theorem d_Md_match_140 : decode prog_14_method_49_code 140 = .ok (.ifCond .lt 66, 3) := by decide +kernel
theorem d_Md_match_143 : decode prog_14_method_49_code 143 = .ok (.iload_n 2, 1) := by decide +kernel
theorem d_Md_match_144 : decode prog_14_method_49_code 144 = .ok (.iconst 1, 1) := by decide +kernel
theorem d_Md_match_145 : decode prog_14_method_49_code 145 = .ok (.if_icmp .le 61, 3) := by decide +kernel
theorem d_Md_match_148 : decode prog_14_method_49_code 148 = .ok (.iload 7, 2) := by decide +kernel
theorem d_Md_match_150 : decode prog_14_method_49_code 150 = .ok (.ifCond .ne 34, 3) := by decide +kernel
theorem d_Md_match_153 : decode prog_14_method_49_code 153 = .ok (.aload_n 0, 1) := by decide +kernel
theorem d_Md_match_154 : decode prog_14_method_49_code 154 = .ok (.getfield 77, 3) := by decide +kernel
theorem d_Md_match_157 : decode prog_14_method_49_code 157 = .ok (.bipush 40, 2) := by decide +kernel
theorem d_Md_match_159 : decode prog_14_method_49_code 159 = .ok (.iload_n 2, 1) := by decide +kernel
theorem d_Md_match_160 : decode prog_14_method_49_code 160 = .ok (.iconst 1, 1) := by decide +kernel
theorem d_Md_match_161 : decode prog_14_method_49_code 161 = .ok (.isub, 1) := by decide +kernel
theorem d_Md_match_162 : decode prog_14_method_49_code 162 = .ok (.imul, 1) := by decide +kernel
theorem d_Md_match_163 : decode prog_14_method_49_code 163 = .ok (.iload 8, 2) := by decide +kernel
theorem d_Md_match_165 : decode prog_14_method_49_code 165 = .ok (.iadd, 1) := by decide +kernel
theorem d_Md_match_166 : decode prog_14_method_49_code 166 = .ok (.baload, 1) := by decide +kernel
theorem d_Md_match_167 : decode prog_14_method_49_code 167 = .ok (.ifCond .eq 21, 3) := by decide +kernel
theorem d_Md_match_170 : decode prog_14_method_49_code 170 = .ok (.iload 9, 2) := by decide +kernel
theorem d_Md_match_172 : decode prog_14_method_49_code 172 = .ok (.ifCond .eq 12, 3) := by decide +kernel
theorem d_Md_match_175 : decode prog_14_method_49_code 175 = .ok (.aload_n 0, 1) := by decide +kernel
theorem d_Md_match_176 : decode prog_14_method_49_code 176 = .ok (.getfield 52, 3) := by decide +kernel
theorem d_Md_match_179 : decode prog_14_method_49_code 179 = .ok (.iload_n 3, 1) := by decide +kernel
theorem d_Md_match_180 : decode prog_14_method_49_code 180 = .ok (.baload, 1) := by decide +kernel
theorem d_Md_match_181 : decode prog_14_method_49_code 181 = .ok (.ifCond .ne 7, 3) := by decide +kernel
theorem d_Md_match_184 : decode prog_14_method_49_code 184 = .ok (.iconst 1, 1) := by decide +kernel
theorem d_Md_match_185 : decode prog_14_method_49_code 185 = .ok (.goto 4, 3) := by decide +kernel
theorem d_Md_match_188 : decode prog_14_method_49_code 188 = .ok (.iconst 0, 1) := by decide +kernel
theorem d_Md_match_189 : decode prog_14_method_49_code 189 = .ok (.istore 7, 2) := by decide +kernel
theorem d_Md_match_191 : decode prog_14_method_49_code 191 = .ok (.aload_n 0, 1) := by decide +kernel
theorem d_Md_match_192 : decode prog_14_method_49_code 192 = .ok (.getfield 74, 3) := by decide +kernel
theorem d_Md_match_195 : decode prog_14_method_49_code 195 = .ok (.iload 8, 2) := by decide +kernel
theorem d_Md_match_197 : decode prog_14_method_49_code 197 = .ok (.iaload, 1) := by decide +kernel
theorem d_Md_match_198 : decode prog_14_method_49_code 198 = .ok (.istore 8, 2) := by decide +kernel
theorem d_Md_match_200 : decode prog_14_method_49_code 200 = .ok (.iinc 9 1, 3) := by decide +kernel
theorem d_Md_match_203 : decode prog_14_method_49_code 203 = .ok (.goto (-72), 3) := by decide +kernel
theorem d_Md_match_206 : decode prog_14_method_49_code 206 = .ok (.aload_n 0, 1) := by decide +kernel
theorem d_Md_match_207 : decode prog_14_method_49_code 207 = .ok (.getfield 77, 3) := by decide +kernel
theorem d_Md_match_210 : decode prog_14_method_49_code 210 = .ok (.bipush 40, 2) := by decide +kernel
theorem d_Md_match_212 : decode prog_14_method_49_code 212 = .ok (.iload_n 2, 1) := by decide +kernel
theorem d_Md_match_213 : decode prog_14_method_49_code 213 = .ok (.imul, 1) := by decide +kernel
theorem d_Md_match_214 : decode prog_14_method_49_code 214 = .ok (.iload 4, 2) := by decide +kernel
theorem d_Md_match_216 : decode prog_14_method_49_code 216 = .ok (.iadd, 1) := by decide +kernel
theorem d_Md_match_217 : decode prog_14_method_49_code 217 = .ok (.iload 6, 2) := by decide +kernel
theorem d_Md_match_219 : decode prog_14_method_49_code 219 = .ok (.ifCond .eq 12, 3) := by decide +kernel
theorem d_Md_match_222 : decode prog_14_method_49_code 222 = .ok (.iload 7, 2) := by decide +kernel
theorem d_Md_match_224 : decode prog_14_method_49_code 224 = .ok (.ifCond .eq 7, 3) := by decide +kernel
theorem d_Md_match_227 : decode prog_14_method_49_code 227 = .ok (.iconst 1, 1) := by decide +kernel
theorem d_Md_match_228 : decode prog_14_method_49_code 228 = .ok (.goto 4, 3) := by decide +kernel
theorem d_Md_match_231 : decode prog_14_method_49_code 231 = .ok (.iconst 0, 1) := by decide +kernel
theorem d_Md_match_232 : decode prog_14_method_49_code 232 = .ok (.bastore, 1) := by decide +kernel
theorem d_Md_match_233 : decode prog_14_method_49_code 233 = .ok (.iinc 4 1, 3) := by decide +kernel
theorem d_Md_match_236 : decode prog_14_method_49_code 236 = .ok (.goto (-213), 3) := by decide +kernel
theorem d_Md_match_239 : decode prog_14_method_49_code 239 = .ok (.iinc 2 1, 3) := by decide +kernel
theorem d_Md_match_242 : decode prog_14_method_49_code 242 = .ok (.goto (-240), 3) := by decide +kernel
theorem d_Md_match_245 : decode prog_14_method_49_code 245 = .ok (.return_, 1) := by decide +kernel
def f_Md_match_131 (x1 : Int32) (M7 : qM) (a1 : Int32) : Nat → (Int32 → Option qM) → Int32 → Int32 → Int32 → Option qM
  | 0, _, _, _, _ => none
  | n + 1, K18, x15, x16, x17 => if 40 ≤ x17 then (K18 x15) else (if x16 < 0 then (K18 x15) else (if x1 ≤ 1 then (K18 x15) else (q_lt (fun (x22 : Int32) => q_ix x16 40 <| q_lt (M7.1 22 x16.toNatClampNeg) fun x24 => f_Md_match_131 x1 M7 a1 n K18 x22 x24 (x17 + 1)) fun (j25 : Int32 → Option qM) => q_lt (j25 1) fun (j26 : Option qM) => if x15 = 0 then (q_ix ((40 * (x1 - 1)) + x16) 200 <| if (M7.1 23 ((40 * (x1 - 1)) + x16).toNatClampNeg) = 0 then (j25 0) else (if x17 = 0 then (j26) else (q_ix (((4 * a1) + x1) - 1) 48 <| if (M7.1 15 (((4 * a1) + x1) - 1).toNatClampNeg) = 0 then (j26) else (j25 0)))) else (j26))))
def f_Md_match_23 (x1 : Int32) (a1 : Int32) : Nat → (qM → Option qM) → Int32 → qM → Option qM
  | 0, _, _, _ => none
  | n + 1, K8, x6, M7 => if (M7.1 0 5) ≤ x6 then (K8 M7) else (q_ix x6 40 <| q_ix (M7.1 3 x6.toNatClampNeg) 40 <| q_lt (fun (x12 : Int32) => q_lt (fun (x13 : Int32) => q_ix x6 40 <| f_Md_match_131 x1 M7 a1 1000 (fun (x33 : Int32) => q_lt (fun (x34 : Int32) => q_ix ((40 * x1) + x6) 200 <| q_zk x34 <| q_lt (qsI M7 23 ((40 * x1) + x6).toNatClampNeg x34) fun M37 => f_Md_match_23 x1 a1 n K8 (x6 + 1) M37) fun (j38 : Int32 → Option qM) => q_lt (j38 0) fun (j39 : Option qM) => if x12 = 0 then (j39) else (if x33 = 0 then (j39) else (j38 1))) x13 (M7.1 22 x6.toNatClampNeg) 0) fun (j42 : Int32 → Option qM) => if x1 = 1 then (j42 1) else (j42 0)) fun (j44 : Int32 → Option qM) => q_lt (j44 0) fun (j45 : Option qM) => if (M7.1 4 (M7.1 3 x6.toNatClampNeg).toNatClampNeg) ≤ 1 then (j45) else (q_ix (((4 * a1) + x1) - 1) 48 <| q_lt (q_ix (M7.1 3 x6.toNatClampNeg) 40 <| q_ix (((4 * a1) + x1) - 1) 48 <| q_ix (((4 * a1) + x1) - 1) 48 <| if ((M7.1 5 (M7.1 3 x6.toNatClampNeg).toNatClampNeg) &&& (M7.1 14 (((4 * a1) + x1) - 1).toNatClampNeg)) = (M7.1 14 (((4 * a1) + x1) - 1).toNatClampNeg) then (j44 1) else (j45)) fun (j52 : Option qM) => if (M7.1 13 (((4 * a1) + x1) - 1).toNatClampNeg) = 0 then (j52) else (q_ix (((4 * a1) + x1) - 1) 48 <| q_ix (M7.1 3 x6.toNatClampNeg) 40 <| if (M7.1 13 (((4 * a1) + x1) - 1).toNatClampNeg) = (M7.1 4 (M7.1 3 x6.toNatClampNeg).toNatClampNeg) then (j52) else (j45))))
def f_Md_match_2 (a1 : Int32) : Nat → (qM → Option qM) → Int32 → qM → Option qM
  | 0, _, _, _ => none
  | n + 1, K3, x1, M2 => q_ix a1 12 <| if (M2.1 16 a1.toNatClampNeg) < x1 then (K3 M2) else (f_Md_match_23 x1 a1 1000 (fun (M57 : qM) => f_Md_match_2 a1 n K3 (x1 + 1) M57) 0 M2)
def f_Md_match (a1 : Int32) (M : qM) : Option qM := f_Md_match_2 a1 1000 (fun (M58 : qM) => some M58) 1 M
abbrev rm_Md_match : Room := { frames := 0, cells := 0, slots := 0, locals := 0 }
set_option maxRecDepth 100000 in
set_option maxHeartbeats 4000000 in
theorem c_Md_match {l : Launch} {D : va_G} {dA : Nat → ClassId} {b : Nat} (a1 : Int32)  (M : qM) (out : qM) (hf : f_Md_match a1 M = some out) : CTv l y_Md_match w_Md_match rm_Md_match D (tysX dA) (enM dA b) 38 b (fun _ => True) [qr (some 0), qi a1] M out := by
  refine qm_v (cc := prog_14_method_49_code) (nL := 10) (by decide) rfl (Nat.le_of_ble_eq_true rfl) ?_
  intro p e s m args below meth c Q hx hb hts0 hown hml hK hs hret
  have hts : ∀ w ∈ lw_g, w.before args s = true := fun w h => hts0 w (List.mem_cons_of_mem _ h)
  show QJ p l e rm_Md_match s m args below meth c (qA 38 b) b 10 0 0 Q (qWd D (enM dA b) 38 b) M 0 [(0, qr (some 0)), (1, qi a1)] []
  unfold f_Md_match at hf
  refine qj_iconst (v := 1) hx hb d_Md_match_0 (by decide) ?_
  refine qj_istore_n hx hb d_Md_match_1 rfl (by decide) rfl ?_
  have hL2 : ∀ (n : Nat) (K3 : qM → Option qM), (∀ (M58 : qM), K3 M58 = some out → QJ p l e rm_Md_match s m args below meth c (qA 38 b) b 10 0 0 Q (qWd D (enM dA b) 38 b) M58 245 [] []) → ∀ (x1 : Int32) (M2 : qM), f_Md_match_2 a1 n K3 x1 M2 = some out → QJ p l e rm_Md_match s m args below meth c (qA 38 b) b 10 0 0 Q (qWd D (enM dA b) 38 b) M2 2 [(0, qr (some 0)), (1, qi a1), (2, qi x1)] [] := by
    clear hf
    intro n
    induction n with
    | zero =>
      intro K3 hK3 x1 M2 hf
      exact absurd hf (by simp [f_Md_match_2])
    | succ n ih2 =>
      intro K3 hK3 x1 M2 hf
      rw [f_Md_match_2] at hf
      have ih2 := ih2 K3 hK3
      refine qj_iload_n hx hb d_Md_match_2 rfl 2 rfl ?_
      refine qj_aload_n hx hb d_Md_match_3 rfl 0 rfl ?_
      refine qj_get hx hb hts hin_12 hown hK (by decide) rfl rfl 26 (by decide) (hts _ tw_615) (fun _ h => h) (qr (some 16)) rfl d_Md_match_4 ?_
      refine qj_iload_n hx hb d_Md_match_7 rfl 1 rfl ?_
      have hf9 := q_ix_s hf; clear hf; obtain ⟨hi4, hf⟩ := hf9
      refine qj_iald (t0 := 0) hx hb hK (by decide) (fun _ _ => rfl) rfl hi4 d_Md_match_8 ?_
      refine qj_icmp_gt (tgt := 245) hx hb d_Md_match_9 (by decide) (fun hc5 => ?_) (fun hc5 => ?_)
      · replace hf := q_if_t hc5 hf
        refine qj_sub [] rfl ?_
        exact hK3 M2 hf
      · replace hf := q_if_f hc5 hf
        refine qj_iconst (v := 4) hx hb d_Md_match_12 (by decide) ?_
        refine qj_iload_n hx hb d_Md_match_13 rfl 1 rfl ?_
        refine qj_imul hx hb d_Md_match_14 ?_
        refine qj_iload_n hx hb d_Md_match_15 rfl 2 rfl ?_
        refine qj_iadd hx hb d_Md_match_16 ?_
        refine qj_iconst (v := 1) hx hb d_Md_match_17 (by decide) ?_
        refine qj_isub hx hb d_Md_match_18 ?_
        refine qj_istore_n hx hb d_Md_match_19 rfl (by decide) rfl ?_
        refine qj_iconst (v := 0) hx hb d_Md_match_20 (by decide) ?_
        refine qj_istore hx hb d_Md_match_21 (by decide) rfl ?_
        have hL23 : ∀ (n : Nat) (K8 : qM → Option qM), (∀ (M57 : qM), K8 M57 = some out → QJ p l e rm_Md_match s m args below meth c (qA 38 b) b 10 0 0 Q (qWd D (enM dA b) 38 b) M57 239 [(0, qr (some 0)), (1, qi a1), (2, qi x1)] []) → ∀ (x6 : Int32) (M7 : qM), f_Md_match_23 x1 a1 n K8 x6 M7 = some out → QJ p l e rm_Md_match s m args below meth c (qA 38 b) b 10 0 0 Q (qWd D (enM dA b) 38 b) M7 23 [(0, qr (some 0)), (1, qi a1), (2, qi x1), (3, qi (((4 * a1) + x1) - 1)), (4, qi x6)] [] := by
          clear hf
          intro n
          induction n with
          | zero =>
            intro K8 hK8 x6 M7 hf
            exact absurd hf (by simp [f_Md_match_23])
          | succ n ih23 =>
            intro K8 hK8 x6 M7 hf
            rw [f_Md_match_23] at hf
            have ih23 := ih23 K8 hK8
            refine qj_iload hx hb d_Md_match_23 4 rfl ?_
            refine qj_aload_n hx hb d_Md_match_25 rfl 0 rfl ?_
            refine qj_get hx hb hts hin_12 hown hK (by decide) rfl rfl 5 (by decide) (hts _ tw_447) (fun _ h => h) (qi (M7.1 0 5)) rfl d_Md_match_26 ?_
            refine qj_icmp_ge (tgt := 239) hx hb d_Md_match_29 (by decide) (fun hc9 => ?_) (fun hc9 => ?_)
            · replace hf := q_if_t hc9 hf
              refine qj_sub [0, 1, 2] rfl ?_
              exact hK8 M7 hf
            · replace hf := q_if_f hc9 hf
              refine qj_aload_n hx hb d_Md_match_32 rfl 0 rfl ?_
              refine qj_get hx hb hts hin_12 hown hK (by decide) rfl rfl 6 (by decide) (hts _ tw_448) (fun _ h => h) (qr (some 3)) rfl d_Md_match_33 ?_
              refine qj_iload hx hb d_Md_match_36 4 rfl ?_
              have hf9 := q_ix_s hf; clear hf; obtain ⟨hi10, hf⟩ := hf9
              refine qj_iald (t0 := 0) hx hb hK (by decide) (fun _ _ => rfl) rfl hi10 d_Md_match_38 ?_
              refine qj_istore hx hb d_Md_match_39 (by decide) rfl ?_
              refine qj_aload_n hx hb d_Md_match_41 rfl 1 rfl ?_
              refine qj_get hx hb hts hin_12 hown hK (by decide) rfl rfl 8 (by decide) (hts _ tw_450) (fun _ h => h) (qr (some 4)) rfl d_Md_match_42 ?_
              refine qj_iload hx hb d_Md_match_45 0 rfl ?_
              have hf9 := q_ix_s hf; clear hf; obtain ⟨hi11, hf⟩ := hf9
              refine qj_iald (t0 := 0) hx hb hK (by decide) (fun _ _ => rfl) rfl hi11 d_Md_match_47 ?_
              refine qj_iconst (v := 1) hx hb d_Md_match_48 (by decide) ?_
              have hf9 := q_lt_s hf; clear hf; obtain ⟨j44, ej44, hf⟩ := hf9
              have hj44 : ∀ (x12 : Int32), j44 x12 = some out → QJ p l e rm_Md_match s m args below meth c (qA 38 b) b 10 0 0 Q (qWd D (enM dA b) 38 b) M7 105 [(0, qr (some 0)), (1, qi a1), (2, qi x1), (3, qi (((4 * a1) + x1) - 1)), (4, qi x6)] [qi x12] := by
                clear hf
                intro x12 hf
                rw [ej44] at hf
                refine qj_istore hx hb d_Md_match_105 (by decide) rfl ?_
                refine qj_iload_n hx hb d_Md_match_107 rfl 3 rfl ?_
                refine qj_iconst (v := 1) hx hb d_Md_match_108 (by decide) ?_
                have hf9 := q_lt_s hf; clear hf; obtain ⟨j42, ej42, hf⟩ := hf9
                have hj42 : ∀ (x13 : Int32), j42 x13 = some out → QJ p l e rm_Md_match s m args below meth c (qA 38 b) b 10 0 0 Q (qWd D (enM dA b) 38 b) M7 117 [(0, qr (some 0)), (1, qi a1), (2, qi x1), (3, qi (((4 * a1) + x1) - 1)), (4, qi x6), (6, qi x12)] [qi x13] := by
                  clear hf
                  intro x13 hf
                  rw [ej42] at hf
                  refine qj_istore hx hb d_Md_match_117 (by decide) rfl ?_
                  refine qj_aload_n hx hb d_Md_match_119 rfl 1 rfl ?_
                  refine qj_get hx hb hts hin_12 hown hK (by decide) rfl rfl 33 (by decide) (hts _ tw_630) (fun _ h => h) (qr (some 22)) rfl d_Md_match_120 ?_
                  refine qj_iload hx hb d_Md_match_123 5 rfl ?_
                  have hf9 := q_ix_s hf; clear hf; obtain ⟨hi14, hf⟩ := hf9
                  refine qj_iald (t0 := 0) hx hb hK (by decide) (fun _ _ => rfl) rfl hi14 d_Md_match_125 ?_
                  refine qj_istore hx hb d_Md_match_126 (by decide) rfl ?_
                  refine qj_iconst (v := 0) hx hb d_Md_match_128 (by decide) ?_
                  refine qj_istore hx hb d_Md_match_129 (by decide) rfl ?_
                  have hL131 : ∀ (n : Nat) (K18 : Int32 → Option qM), (∀ (x33 : Int32), K18 x33 = some out → QJ p l e rm_Md_match s m args below meth c (qA 38 b) b 10 0 0 Q (qWd D (enM dA b) 38 b) M7 206 [(0, qr (some 0)), (1, qi a1), (2, qi x1), (3, qi (((4 * a1) + x1) - 1)), (4, qi x6), (6, qi x12), (7, qi x33)] []) → ∀ (x15 : Int32) (x16 : Int32) (x17 : Int32), f_Md_match_131 x1 M7 a1 n K18 x15 x16 x17 = some out → QJ p l e rm_Md_match s m args below meth c (qA 38 b) b 10 0 0 Q (qWd D (enM dA b) 38 b) M7 131 [(0, qr (some 0)), (1, qi a1), (2, qi x1), (3, qi (((4 * a1) + x1) - 1)), (4, qi x6), (6, qi x12), (7, qi x15), (8, qi x16), (9, qi x17)] [] := by
                    clear hf
                    intro n
                    induction n with
                    | zero =>
                      intro K18 hK18 x15 x16 x17 hf
                      exact absurd hf (by simp [f_Md_match_131])
                    | succ n ih131 =>
                      intro K18 hK18 x15 x16 x17 hf
                      rw [f_Md_match_131] at hf
                      have ih131 := ih131 K18 hK18
                      refine qj_iload hx hb d_Md_match_131 8 rfl ?_
                      refine qj_bipush (v := 40) hx hb d_Md_match_133 (by decide) ?_
                      refine qj_icmp_ge (tgt := 206) hx hb d_Md_match_135 (by decide) (fun hc19 => ?_) (fun hc19 => ?_)
                      · replace hf := q_if_t hc19 hf
                        refine qj_sub [0, 1, 2, 3, 4, 5, 6] rfl ?_
                        exact hK18 x15 hf
                      · replace hf := q_if_f hc19 hf
                        refine qj_iload hx hb d_Md_match_138 7 rfl ?_
                        refine qj_if_lt (tgt := 206) hx hb d_Md_match_140 (by decide) (fun hc20 => ?_) (fun hc20 => ?_)
                        · replace hf := q_if_t hc20 hf
                          refine qj_sub [0, 1, 2, 3, 4, 5, 6] rfl ?_
                          exact hK18 x15 hf
                        · replace hf := q_if_f hc20 hf
                          refine qj_iload_n hx hb d_Md_match_143 rfl 2 rfl ?_
                          refine qj_iconst (v := 1) hx hb d_Md_match_144 (by decide) ?_
                          refine qj_icmp_le (tgt := 206) hx hb d_Md_match_145 (by decide) (fun hc21 => ?_) (fun hc21 => ?_)
                          · replace hf := q_if_t hc21 hf
                            refine qj_sub [0, 1, 2, 3, 4, 5, 6] rfl ?_
                            exact hK18 x15 hf
                          · replace hf := q_if_f hc21 hf
                            refine qj_iload hx hb d_Md_match_148 6 rfl ?_
                            have hf9 := q_lt_s hf; clear hf; obtain ⟨j25, ej25, hf⟩ := hf9
                            have hj25 : ∀ (x22 : Int32), j25 x22 = some out → QJ p l e rm_Md_match s m args below meth c (qA 38 b) b 10 0 0 Q (qWd D (enM dA b) 38 b) M7 189 [(0, qr (some 0)), (1, qi a1), (2, qi x1), (3, qi (((4 * a1) + x1) - 1)), (4, qi x6), (6, qi x12), (8, qi x16), (9, qi x17)] [qi x22] := by
                              clear hf
                              intro x22 hf
                              rw [ej25] at hf
                              refine qj_istore hx hb d_Md_match_189 (by decide) rfl ?_
                              refine qj_aload_n hx hb d_Md_match_191 rfl 1 rfl ?_
                              refine qj_get hx hb hts hin_12 hown hK (by decide) rfl rfl 33 (by decide) (hts _ tw_630) (fun _ h => h) (qr (some 22)) rfl d_Md_match_192 ?_
                              refine qj_iload hx hb d_Md_match_195 7 rfl ?_
                              have hf9 := q_ix_s hf; clear hf; obtain ⟨hi23, hf⟩ := hf9
                              refine qj_iald (t0 := 0) hx hb hK (by decide) (fun _ _ => rfl) rfl hi23 d_Md_match_197 ?_
                              have hf9 := q_lt_s hf; clear hf; obtain ⟨x24, ex24, hf⟩ := hf9
                              rw [← ex24]
                              refine qj_istore hx hb d_Md_match_198 (by decide) rfl ?_
                              refine qj_iinc (j := 8) (v := x17 + 1) hx hb d_Md_match_200 rfl rfl (by decide) rfl ?_
                              refine qj_goto (tgt := 131) hx hb d_Md_match_203 (by decide) ?_
                              refine qj_sub [3, 4, 5, 6, 7, 8, 2, 1, 0] rfl ?_
                              exact ih131 x22 x24 (x17 + 1) hf
                            have hf9 := q_lt_s hf; clear hf; obtain ⟨j26, ej26, hf⟩ := hf9
                            have hj26 : j26 = some out → QJ p l e rm_Md_match s m args below meth c (qA 38 b) b 10 0 0 Q (qWd D (enM dA b) 38 b) M7 184 [(0, qr (some 0)), (1, qi a1), (2, qi x1), (3, qi (((4 * a1) + x1) - 1)), (4, qi x6), (6, qi x12), (8, qi x16), (9, qi x17)] [] := by
                              clear hf
                              intro hf
                              rw [ej26] at hf
                              refine qj_iconst (v := 1) hx hb d_Md_match_184 (by decide) ?_
                              refine qj_goto (tgt := 189) hx hb d_Md_match_185 (by decide) ?_
                              exact hj25 1 hf
                            refine qj_if_ne (tgt := 184) hx hb d_Md_match_150 (by decide) (fun hc27 => ?_) (fun hc27 => ?_)
                            · replace hf := q_if_f hc27 hf
                              refine qj_sub [0, 1, 2, 3, 4, 5, 7, 8] rfl ?_
                              exact hj26  hf
                            · replace hf := q_if_t hc27 hf
                              refine qj_aload_n hx hb d_Md_match_153 rfl 0 rfl ?_
                              refine qj_get hx hb hts hin_12 hown hK (by decide) rfl rfl 34 (by decide) (hts _ tw_631) (fun _ h => h) (qr (some 23)) rfl d_Md_match_154 ?_
                              refine qj_bipush (v := 40) hx hb d_Md_match_157 (by decide) ?_
                              refine qj_iload_n hx hb d_Md_match_159 rfl 2 rfl ?_
                              refine qj_iconst (v := 1) hx hb d_Md_match_160 (by decide) ?_
                              refine qj_isub hx hb d_Md_match_161 ?_
                              refine qj_imul hx hb d_Md_match_162 ?_
                              refine qj_iload hx hb d_Md_match_163 7 rfl ?_
                              refine qj_iadd hx hb d_Md_match_165 ?_
                              have hf9 := q_ix_s hf; clear hf; obtain ⟨hi28, hf⟩ := hf9
                              refine qj_zald (t0 := 2) hx hb hK (by decide) (fun _ _ => rfl) rfl hi28 d_Md_match_166 ?_
                              refine qj_if_eq (tgt := 188) hx hb d_Md_match_167 (by decide) (fun hc29 => ?_) (fun hc29 => ?_)
                              · replace hf := q_if_t hc29 hf
                                refine qj_iconst (v := 0) hx hb d_Md_match_188 (by decide) ?_
                                refine qj_sub [0, 1, 2, 3, 4, 5, 7, 8] rfl ?_
                                exact hj25 0 hf
                              · replace hf := q_if_f hc29 hf
                                refine qj_iload hx hb d_Md_match_170 8 rfl ?_
                                refine qj_if_eq (tgt := 184) hx hb d_Md_match_172 (by decide) (fun hc30 => ?_) (fun hc30 => ?_)
                                · replace hf := q_if_t hc30 hf
                                  refine qj_sub [0, 1, 2, 3, 4, 5, 7, 8] rfl ?_
                                  exact hj26  hf
                                · replace hf := q_if_f hc30 hf
                                  refine qj_aload_n hx hb d_Md_match_175 rfl 0 rfl ?_
                                  refine qj_get hx hb hts hin_12 hown hK (by decide) rfl rfl 25 (by decide) (hts _ tw_614) (fun _ h => h) (qr (some 15)) rfl d_Md_match_176 ?_
                                  refine qj_iload_n hx hb d_Md_match_179 rfl 3 rfl ?_
                                  have hf9 := q_ix_s hf; clear hf; obtain ⟨hi31, hf⟩ := hf9
                                  refine qj_zald (t0 := 2) hx hb hK (by decide) (fun _ _ => rfl) rfl hi31 d_Md_match_180 ?_
                                  refine qj_if_ne (tgt := 188) hx hb d_Md_match_181 (by decide) (fun hc32 => ?_) (fun hc32 => ?_)
                                  · replace hf := q_if_f hc32 hf
                                    refine qj_iconst (v := 0) hx hb d_Md_match_188 (by decide) ?_
                                    refine qj_sub [0, 1, 2, 3, 4, 5, 7, 8] rfl ?_
                                    exact hj25 0 hf
                                  · replace hf := q_if_t hc32 hf
                                    refine qj_sub [0, 1, 2, 3, 4, 5, 7, 8] rfl ?_
                                    exact hj26  hf
                  refine qj_sub [3, 4, 5, 6, 7, 8, 2, 1, 0] rfl ?_
                  refine hL131 _ _ (fun x33 hf9 => ?_) x13 (M7.1 22 x6.toNatClampNeg) 0 hf
                  clear hf; have hf := hf9; clear hf9
                  refine qj_aload_n hx hb d_Md_match_206 rfl 0 rfl ?_
                  refine qj_get hx hb hts hin_12 hown hK (by decide) rfl rfl 34 (by decide) (hts _ tw_631) (fun _ h => h) (qr (some 23)) rfl d_Md_match_207 ?_
                  refine qj_bipush (v := 40) hx hb d_Md_match_210 (by decide) ?_
                  refine qj_iload_n hx hb d_Md_match_212 rfl 2 rfl ?_
                  refine qj_imul hx hb d_Md_match_213 ?_
                  refine qj_iload hx hb d_Md_match_214 4 rfl ?_
                  refine qj_iadd hx hb d_Md_match_216 ?_
                  refine qj_iload hx hb d_Md_match_217 5 rfl ?_
                  have hf9 := q_lt_s hf; clear hf; obtain ⟨j38, ej38, hf⟩ := hf9
                  have hj38 : ∀ (x34 : Int32), j38 x34 = some out → QJ p l e rm_Md_match s m args below meth c (qA 38 b) b 10 0 0 Q (qWd D (enM dA b) 38 b) M7 232 [(0, qr (some 0)), (1, qi a1), (2, qi x1), (3, qi (((4 * a1) + x1) - 1)), (4, qi x6)] [qi x34, qi ((40 * x1) + x6), qr (some 23)] := by
                    clear hf
                    intro x34 hf
                    rw [ej38] at hf
                    have hf9 := q_ix_s hf; clear hf; obtain ⟨hi35, hf⟩ := hf9
                    have hf9 := q_zk_s hf; clear hf; obtain ⟨hz36, hf⟩ := hf9
                    have hf9 := q_lt_s hf; clear hf; obtain ⟨M37, eM37, hf⟩ := hf9
                    refine qj_zast (t0 := 2) hx hb hK (by decide) (fun _ _ => rfl) rfl hi35 hz36 eM37 d_Md_match_232 ?_
                    refine qj_iinc (j := 4) (v := x6 + 1) hx hb d_Md_match_233 rfl rfl (by decide) rfl ?_
                    refine qj_goto (tgt := 23) hx hb d_Md_match_236 (by decide) ?_
                    refine qj_sub [1, 2, 3, 4, 0] rfl ?_
                    exact ih23 (x6 + 1) M37 hf
                  have hf9 := q_lt_s hf; clear hf; obtain ⟨j39, ej39, hf⟩ := hf9
                  have hj39 : j39 = some out → QJ p l e rm_Md_match s m args below meth c (qA 38 b) b 10 0 0 Q (qWd D (enM dA b) 38 b) M7 231 [(0, qr (some 0)), (1, qi a1), (2, qi x1), (3, qi (((4 * a1) + x1) - 1)), (4, qi x6)] [qi ((40 * x1) + x6), qr (some 23)] := by
                    clear hf
                    intro hf
                    rw [ej39] at hf
                    refine qj_iconst (v := 0) hx hb d_Md_match_231 (by decide) ?_
                    exact hj38 0 hf
                  refine qj_if_eq (tgt := 231) hx hb d_Md_match_219 (by decide) (fun hc40 => ?_) (fun hc40 => ?_)
                  · replace hf := q_if_t hc40 hf
                    refine qj_sub [0, 1, 2, 3, 4] rfl ?_
                    exact hj39  hf
                  · replace hf := q_if_f hc40 hf
                    refine qj_iload hx hb d_Md_match_222 6 rfl ?_
                    refine qj_if_eq (tgt := 231) hx hb d_Md_match_224 (by decide) (fun hc41 => ?_) (fun hc41 => ?_)
                    · replace hf := q_if_t hc41 hf
                      refine qj_sub [0, 1, 2, 3, 4] rfl ?_
                      exact hj39  hf
                    · replace hf := q_if_f hc41 hf
                      refine qj_iconst (v := 1) hx hb d_Md_match_227 (by decide) ?_
                      refine qj_goto (tgt := 232) hx hb d_Md_match_228 (by decide) ?_
                      refine qj_sub [0, 1, 2, 3, 4] rfl ?_
                      exact hj38 1 hf
                refine qj_icmp_ne (tgt := 116) hx hb d_Md_match_109 (by decide) (fun hc43 => ?_) (fun hc43 => ?_)
                · replace hf := q_if_f hc43 hf
                  refine qj_iconst (v := 0) hx hb d_Md_match_116 (by decide) ?_
                  refine qj_sub [1, 2, 3, 4, 5, 0] rfl ?_
                  exact hj42 0 hf
                · replace hf := q_if_t hc43 hf
                  refine qj_iconst (v := 1) hx hb d_Md_match_112 (by decide) ?_
                  refine qj_goto (tgt := 117) hx hb d_Md_match_113 (by decide) ?_
                  refine qj_sub [1, 2, 3, 4, 5, 0] rfl ?_
                  exact hj42 1 hf
              have hf9 := q_lt_s hf; clear hf; obtain ⟨j45, ej45, hf⟩ := hf9
              have hj45 : j45 = some out → QJ p l e rm_Md_match s m args below meth c (qA 38 b) b 10 0 0 Q (qWd D (enM dA b) 38 b) M7 104 [(0, qr (some 0)), (1, qi a1), (2, qi x1), (3, qi (((4 * a1) + x1) - 1)), (4, qi x6)] [] := by
                clear hf
                intro hf
                rw [ej45] at hf
                refine qj_iconst (v := 0) hx hb d_Md_match_104 (by decide) ?_
                exact hj44 0 hf
              refine qj_icmp_le (tgt := 104) hx hb d_Md_match_49 (by decide) (fun hc46 => ?_) (fun hc46 => ?_)
              · replace hf := q_if_t hc46 hf
                refine qj_sub [1, 2, 3, 4, 5] rfl ?_
                exact hj45  hf
              · replace hf := q_if_f hc46 hf
                refine qj_aload_n hx hb d_Md_match_52 rfl 1 rfl ?_
                refine qj_get hx hb hts hin_12 hown hK (by decide) rfl rfl 23 (by decide) (hts _ tw_612) (fun _ h => h) (qr (some 13)) rfl d_Md_match_53 ?_
                refine qj_iload_n hx hb d_Md_match_56 rfl 4 rfl ?_
                have hf9 := q_ix_s hf; clear hf; obtain ⟨hi47, hf⟩ := hf9
                refine qj_iald (t0 := 0) hx hb hK (by decide) (fun _ _ => rfl) rfl hi47 d_Md_match_57 ?_
                have hf9 := q_lt_s hf; clear hf; obtain ⟨j52, ej52, hf⟩ := hf9
                have hj52 : j52 = some out → QJ p l e rm_Md_match s m args below meth c (qA 38 b) b 10 0 0 Q (qWd D (enM dA b) 38 b) M7 77 [(0, qr (some 0)), (1, qi a1), (2, qi x1), (3, qi (((4 * a1) + x1) - 1)), (4, qi x6), (5, qi (M7.1 3 x6.toNatClampNeg))] [] := by
                  clear hf
                  intro hf
                  rw [ej52] at hf
                  refine qj_aload_n hx hb d_Md_match_77 rfl 0 rfl ?_
                  refine qj_get hx hb hts hin_12 hown hK (by decide) rfl rfl 9 (by decide) (hts _ tw_451) (fun _ h => h) (qr (some 5)) rfl d_Md_match_78 ?_
                  refine qj_iload hx hb d_Md_match_81 5 rfl ?_
                  have hf9 := q_ix_s hf; clear hf; obtain ⟨hi48, hf⟩ := hf9
                  refine qj_iald (t0 := 0) hx hb hK (by decide) (fun _ _ => rfl) rfl hi48 d_Md_match_83 ?_
                  refine qj_aload_n hx hb d_Md_match_84 rfl 0 rfl ?_
                  refine qj_get hx hb hts hin_12 hown hK (by decide) rfl rfl 24 (by decide) (hts _ tw_613) (fun _ h => h) (qr (some 14)) rfl d_Md_match_85 ?_
                  refine qj_iload_n hx hb d_Md_match_88 rfl 3 rfl ?_
                  have hf9 := q_ix_s hf; clear hf; obtain ⟨hi49, hf⟩ := hf9
                  refine qj_iald (t0 := 0) hx hb hK (by decide) (fun _ _ => rfl) rfl hi49 d_Md_match_89 ?_
                  refine qj_iand hx hb d_Md_match_90 ?_
                  refine qj_aload_n hx hb d_Md_match_91 rfl 0 rfl ?_
                  refine qj_get hx hb hts hin_12 hown hK (by decide) rfl rfl 24 (by decide) (hts _ tw_613) (fun _ h => h) (qr (some 14)) rfl d_Md_match_92 ?_
                  refine qj_iload_n hx hb d_Md_match_95 rfl 3 rfl ?_
                  have hf9 := q_ix_s hf; clear hf; obtain ⟨hi50, hf⟩ := hf9
                  refine qj_iald (t0 := 0) hx hb hK (by decide) (fun _ _ => rfl) rfl hi50 d_Md_match_96 ?_
                  refine qj_icmp_ne (tgt := 104) hx hb d_Md_match_97 (by decide) (fun hc51 => ?_) (fun hc51 => ?_)
                  · replace hf := q_if_f hc51 hf
                    refine qj_sub [0, 1, 2, 3, 4] rfl ?_
                    exact hj45  hf
                  · replace hf := q_if_t hc51 hf
                    refine qj_iconst (v := 1) hx hb d_Md_match_100 (by decide) ?_
                    refine qj_goto (tgt := 105) hx hb d_Md_match_101 (by decide) ?_
                    refine qj_sub [0, 1, 2, 3, 4] rfl ?_
                    exact hj44 1 hf
                refine qj_if_eq (tgt := 77) hx hb d_Md_match_58 (by decide) (fun hc53 => ?_) (fun hc53 => ?_)
                · replace hf := q_if_t hc53 hf
                  refine qj_sub [1, 2, 3, 4, 5, 0] rfl ?_
                  exact hj52  hf
                · replace hf := q_if_f hc53 hf
                  refine qj_aload_n hx hb d_Md_match_61 rfl 1 rfl ?_
                  refine qj_get hx hb hts hin_12 hown hK (by decide) rfl rfl 23 (by decide) (hts _ tw_612) (fun _ h => h) (qr (some 13)) rfl d_Md_match_62 ?_
                  refine qj_iload_n hx hb d_Md_match_65 rfl 4 rfl ?_
                  have hf9 := q_ix_s hf; clear hf; obtain ⟨hi54, hf⟩ := hf9
                  refine qj_iald (t0 := 0) hx hb hK (by decide) (fun _ _ => rfl) rfl hi54 d_Md_match_66 ?_
                  refine qj_aload_n hx hb d_Md_match_67 rfl 1 rfl ?_
                  refine qj_get hx hb hts hin_12 hown hK (by decide) rfl rfl 8 (by decide) (hts _ tw_450) (fun _ h => h) (qr (some 4)) rfl d_Md_match_68 ?_
                  refine qj_iload hx hb d_Md_match_71 0 rfl ?_
                  have hf9 := q_ix_s hf; clear hf; obtain ⟨hi55, hf⟩ := hf9
                  refine qj_iald (t0 := 0) hx hb hK (by decide) (fun _ _ => rfl) rfl hi55 d_Md_match_73 ?_
                  refine qj_icmp_ne (tgt := 104) hx hb d_Md_match_74 (by decide) (fun hc56 => ?_) (fun hc56 => ?_)
                  · replace hf := q_if_f hc56 hf
                    refine qj_sub [1, 2, 3, 4, 5] rfl ?_
                    exact hj45  hf
                  · replace hf := q_if_t hc56 hf
                    refine qj_sub [1, 2, 3, 4, 5, 0] rfl ?_
                    exact hj52  hf
        refine qj_sub [2, 3, 4, 1, 0] rfl ?_
        refine hL23 _ _ (fun M57 hf9 => ?_) 0 M2 hf
        clear hf; have hf := hf9; clear hf9
        refine qj_iinc (j := 2) (v := x1 + 1) hx hb d_Md_match_239 rfl rfl (by decide) rfl ?_
        refine qj_goto (tgt := 2) hx hb d_Md_match_242 (by decide) ?_
        refine qj_sub [1, 2, 0] rfl ?_
        exact ih2 (x1 + 1) M57 hf
  refine qj_sub [1, 2, 0] rfl ?_
  refine hL2 _ _ (fun M58 hf9 => ?_) 1 M hf
  clear hf; have hf := hf9; clear hf9
  exact hret _ _ _ d_Md_match_245 (Option.some.inj hf)
theorem d_Md_propertyIndex_0 : decode prog_14_method_50_code 0 = .ok (.iload_n 0, 1) := by decide +kernel
theorem d_Md_propertyIndex_1 : decode prog_14_method_50_code 1 = .ok (.bipush 99, 2) := by decide +kernel
theorem d_Md_propertyIndex_3 : decode prog_14_method_50_code 3 = .ok (.if_icmp .ne 7, 3) := by decide +kernel
theorem d_Md_propertyIndex_6 : decode prog_14_method_50_code 6 = .ok (.iconst 0, 1) := by decide +kernel
theorem d_Md_propertyIndex_7 : decode prog_14_method_50_code 7 = .ok (.goto 65, 3) := by decide +kernel
theorem d_Md_propertyIndex_10 : decode prog_14_method_50_code 10 = .ok (.iload_n 0, 1) := by decide +kernel
theorem d_Md_propertyIndex_11 : decode prog_14_method_50_code 11 = .ok (.bipush 98, 2) := by decide +kernel
theorem d_Md_propertyIndex_13 : decode prog_14_method_50_code 13 = .ok (.if_icmp .ne 7, 3) := by decide +kernel
theorem d_Md_propertyIndex_16 : decode prog_14_method_50_code 16 = .ok (.iconst 1, 1) := by decide +kernel
theorem d_Md_propertyIndex_17 : decode prog_14_method_50_code 17 = .ok (.goto 55, 3) := by decide +kernel
theorem d_Md_propertyIndex_20 : decode prog_14_method_50_code 20 = .ok (.iload_n 0, 1) := by decide +kernel
theorem d_Md_propertyIndex_21 : decode prog_14_method_50_code 21 = .ok (.bipush 115, 2) := by decide +kernel
theorem d_Md_propertyIndex_23 : decode prog_14_method_50_code 23 = .ok (.if_icmp .ne 7, 3) := by decide +kernel
theorem d_Md_propertyIndex_26 : decode prog_14_method_50_code 26 = .ok (.iconst 2, 1) := by decide +kernel
theorem d_Md_propertyIndex_27 : decode prog_14_method_50_code 27 = .ok (.goto 45, 3) := by decide +kernel
theorem d_Md_propertyIndex_30 : decode prog_14_method_50_code 30 = .ok (.iload_n 0, 1) := by decide +kernel
theorem d_Md_propertyIndex_31 : decode prog_14_method_50_code 31 = .ok (.bipush 100, 2) := by decide +kernel
theorem d_Md_propertyIndex_33 : decode prog_14_method_50_code 33 = .ok (.if_icmp .ne 7, 3) := by decide +kernel
theorem d_Md_propertyIndex_36 : decode prog_14_method_50_code 36 = .ok (.iconst 3, 1) := by decide +kernel
theorem d_Md_propertyIndex_37 : decode prog_14_method_50_code 37 = .ok (.goto 35, 3) := by decide +kernel
theorem d_Md_propertyIndex_40 : decode prog_14_method_50_code 40 = .ok (.iload_n 0, 1) := by decide +kernel
theorem d_Md_propertyIndex_41 : decode prog_14_method_50_code 41 = .ok (.bipush 109, 2) := by decide +kernel
theorem d_Md_propertyIndex_43 : decode prog_14_method_50_code 43 = .ok (.if_icmp .ne 7, 3) := by decide +kernel
theorem d_Md_propertyIndex_46 : decode prog_14_method_50_code 46 = .ok (.iconst 4, 1) := by decide +kernel
theorem d_Md_propertyIndex_47 : decode prog_14_method_50_code 47 = .ok (.goto 25, 3) := by decide +kernel
theorem d_Md_propertyIndex_50 : decode prog_14_method_50_code 50 = .ok (.iload_n 0, 1) := by decide +kernel
theorem d_Md_propertyIndex_51 : decode prog_14_method_50_code 51 = .ok (.bipush 112, 2) := by decide +kernel
theorem d_Md_propertyIndex_53 : decode prog_14_method_50_code 53 = .ok (.if_icmp .ne 7, 3) := by decide +kernel
theorem d_Md_propertyIndex_56 : decode prog_14_method_50_code 56 = .ok (.iconst 5, 1) := by decide +kernel
theorem d_Md_propertyIndex_57 : decode prog_14_method_50_code 57 = .ok (.goto 15, 3) := by decide +kernel
theorem d_Md_propertyIndex_60 : decode prog_14_method_50_code 60 = .ok (.iload_n 0, 1) := by decide +kernel
theorem d_Md_propertyIndex_61 : decode prog_14_method_50_code 61 = .ok (.bipush 119, 2) := by decide +kernel
theorem d_Md_propertyIndex_63 : decode prog_14_method_50_code 63 = .ok (.if_icmp .ne 8, 3) := by decide +kernel
theorem d_Md_propertyIndex_66 : decode prog_14_method_50_code 66 = .ok (.bipush 6, 2) := by decide +kernel
theorem d_Md_propertyIndex_68 : decode prog_14_method_50_code 68 = .ok (.goto 4, 3) := by decide +kernel
theorem d_Md_propertyIndex_71 : decode prog_14_method_50_code 71 = .ok (.iconst (-1), 1) := by decide +kernel
theorem d_Md_propertyIndex_72 : decode prog_14_method_50_code 72 = .ok (.ireturn, 1) := by decide +kernel
def f_Md_propertyIndex (a0 : Int32) (M : qM) : Option Int32 := if a0 = 99 then (some 0) else (if a0 = 98 then (some 1) else (if a0 = 115 then (some 2) else (if a0 = 100 then (some 3) else (if a0 = 109 then (some 4) else (if a0 = 112 then (some 5) else (if a0 = 119 then (some 6) else (some (-1))))))))
abbrev rm_Md_propertyIndex : Room := { frames := 0, cells := 0, slots := 0, locals := 0 }
set_option maxRecDepth 100000 in
set_option maxHeartbeats 4000000 in
theorem c_Md_propertyIndex {l : Launch} {D : va_G} {dA : Nat → ClassId} {b : Nat} (a0 : Int32)  (M : qM) (out : Int32) (hf : f_Md_propertyIndex a0 M = some out) : CTi l y_Md_propertyIndex w_Md_propertyIndex rm_Md_propertyIndex D (tysX dA) (enM dA b) 38 b (fun _ => True) [qi a0] M (out, M) := by
  refine qm_i (cc := prog_14_method_50_code) (nL := 1) (by decide) rfl (Nat.le_of_ble_eq_true rfl) ?_
  intro p e s m args below meth c Q hx hb hts0 hown hml hK hs hret
  have hts : ∀ w ∈ lw_g, w.before args s = true := fun w h => hts0 w (List.mem_cons_of_mem _ h)
  show QJ p l e rm_Md_propertyIndex s m args below meth c (qA 38 b) b 1 0 0 Q (qWd D (enM dA b) 38 b) M 0 [(0, qi a0)] []
  unfold f_Md_propertyIndex at hf
  refine qj_iload_n hx hb d_Md_propertyIndex_0 rfl 0 rfl ?_
  refine qj_bipush (v := 99) hx hb d_Md_propertyIndex_1 (by decide) ?_
  refine qj_icmp_ne (tgt := 10) hx hb d_Md_propertyIndex_3 (by decide) (fun hc1 => ?_) (fun hc1 => ?_)
  · replace hf := q_if_f hc1 hf
    refine qj_iload_n hx hb d_Md_propertyIndex_10 rfl 0 rfl ?_
    refine qj_bipush (v := 98) hx hb d_Md_propertyIndex_11 (by decide) ?_
    refine qj_icmp_ne (tgt := 20) hx hb d_Md_propertyIndex_13 (by decide) (fun hc2 => ?_) (fun hc2 => ?_)
    · replace hf := q_if_f hc2 hf
      refine qj_iload_n hx hb d_Md_propertyIndex_20 rfl 0 rfl ?_
      refine qj_bipush (v := 115) hx hb d_Md_propertyIndex_21 (by decide) ?_
      refine qj_icmp_ne (tgt := 30) hx hb d_Md_propertyIndex_23 (by decide) (fun hc3 => ?_) (fun hc3 => ?_)
      · replace hf := q_if_f hc3 hf
        refine qj_iload_n hx hb d_Md_propertyIndex_30 rfl 0 rfl ?_
        refine qj_bipush (v := 100) hx hb d_Md_propertyIndex_31 (by decide) ?_
        refine qj_icmp_ne (tgt := 40) hx hb d_Md_propertyIndex_33 (by decide) (fun hc4 => ?_) (fun hc4 => ?_)
        · replace hf := q_if_f hc4 hf
          refine qj_iload_n hx hb d_Md_propertyIndex_40 rfl 0 rfl ?_
          refine qj_bipush (v := 109) hx hb d_Md_propertyIndex_41 (by decide) ?_
          refine qj_icmp_ne (tgt := 50) hx hb d_Md_propertyIndex_43 (by decide) (fun hc5 => ?_) (fun hc5 => ?_)
          · replace hf := q_if_f hc5 hf
            refine qj_iload_n hx hb d_Md_propertyIndex_50 rfl 0 rfl ?_
            refine qj_bipush (v := 112) hx hb d_Md_propertyIndex_51 (by decide) ?_
            refine qj_icmp_ne (tgt := 60) hx hb d_Md_propertyIndex_53 (by decide) (fun hc6 => ?_) (fun hc6 => ?_)
            · replace hf := q_if_f hc6 hf
              refine qj_iload_n hx hb d_Md_propertyIndex_60 rfl 0 rfl ?_
              refine qj_bipush (v := 119) hx hb d_Md_propertyIndex_61 (by decide) ?_
              refine qj_icmp_ne (tgt := 71) hx hb d_Md_propertyIndex_63 (by decide) (fun hc7 => ?_) (fun hc7 => ?_)
              · replace hf := q_if_f hc7 hf
                refine qj_iconst (v := (-1)) hx hb d_Md_propertyIndex_71 (by decide) ?_
                exact hret _ _ _ _ d_Md_propertyIndex_72 (congrArg (fun z => (z, M)) (Option.some.inj hf))
              · replace hf := q_if_t hc7 hf
                refine qj_bipush (v := 6) hx hb d_Md_propertyIndex_66 (by decide) ?_
                refine qj_goto (tgt := 72) hx hb d_Md_propertyIndex_68 (by decide) ?_
                exact hret _ _ _ _ d_Md_propertyIndex_72 (congrArg (fun z => (z, M)) (Option.some.inj hf))
            · replace hf := q_if_t hc6 hf
              refine qj_iconst (v := 5) hx hb d_Md_propertyIndex_56 (by decide) ?_
              refine qj_goto (tgt := 72) hx hb d_Md_propertyIndex_57 (by decide) ?_
              exact hret _ _ _ _ d_Md_propertyIndex_72 (congrArg (fun z => (z, M)) (Option.some.inj hf))
          · replace hf := q_if_t hc5 hf
            refine qj_iconst (v := 4) hx hb d_Md_propertyIndex_46 (by decide) ?_
            refine qj_goto (tgt := 72) hx hb d_Md_propertyIndex_47 (by decide) ?_
            exact hret _ _ _ _ d_Md_propertyIndex_72 (congrArg (fun z => (z, M)) (Option.some.inj hf))
        · replace hf := q_if_t hc4 hf
          refine qj_iconst (v := 3) hx hb d_Md_propertyIndex_36 (by decide) ?_
          refine qj_goto (tgt := 72) hx hb d_Md_propertyIndex_37 (by decide) ?_
          exact hret _ _ _ _ d_Md_propertyIndex_72 (congrArg (fun z => (z, M)) (Option.some.inj hf))
      · replace hf := q_if_t hc3 hf
        refine qj_iconst (v := 2) hx hb d_Md_propertyIndex_26 (by decide) ?_
        refine qj_goto (tgt := 72) hx hb d_Md_propertyIndex_27 (by decide) ?_
        exact hret _ _ _ _ d_Md_propertyIndex_72 (congrArg (fun z => (z, M)) (Option.some.inj hf))
    · replace hf := q_if_t hc2 hf
      refine qj_iconst (v := 1) hx hb d_Md_propertyIndex_16 (by decide) ?_
      refine qj_goto (tgt := 72) hx hb d_Md_propertyIndex_17 (by decide) ?_
      exact hret _ _ _ _ d_Md_propertyIndex_72 (congrArg (fun z => (z, M)) (Option.some.inj hf))
  · replace hf := q_if_t hc1 hf
    refine qj_iconst (v := 0) hx hb d_Md_propertyIndex_6 (by decide) ?_
    refine qj_goto (tgt := 72) hx hb d_Md_propertyIndex_7 (by decide) ?_
    exact hret _ _ _ _ d_Md_propertyIndex_72 (congrArg (fun z => (z, M)) (Option.some.inj hf))
theorem d_Md_digit_0 : decode prog_14_method_51_code 0 = .ok (.iload_n 0, 1) := by decide +kernel
theorem d_Md_digit_1 : decode prog_14_method_51_code 1 = .ok (.bipush 48, 2) := by decide +kernel
theorem d_Md_digit_3 : decode prog_14_method_51_code 3 = .ok (.if_icmp .lt 13, 3) := by decide +kernel
theorem d_Md_digit_6 : decode prog_14_method_51_code 6 = .ok (.iload_n 0, 1) := by decide +kernel
theorem d_Md_digit_7 : decode prog_14_method_51_code 7 = .ok (.bipush 57, 2) := by decide +kernel
theorem d_Md_digit_9 : decode prog_14_method_51_code 9 = .ok (.if_icmp .gt 7, 3) := by decide +kernel
theorem d_Md_digit_12 : decode prog_14_method_51_code 12 = .ok (.iconst 1, 1) := by decide +kernel
theorem d_Md_digit_13 : decode prog_14_method_51_code 13 = .ok (.goto 4, 3) := by decide +kernel
theorem d_Md_digit_16 : decode prog_14_method_51_code 16 = .ok (.iconst 0, 1) := by decide +kernel
theorem d_Md_digit_17 : decode prog_14_method_51_code 17 = .ok (.ireturn, 1) := by decide +kernel
def f_Md_digit (a0 : Int32) (M : qM) : Option Int32 := if a0 < 48 then (some 0) else (if 57 < a0 then (some 0) else (some 1))
abbrev rm_Md_digit : Room := { frames := 0, cells := 0, slots := 0, locals := 0 }
set_option maxRecDepth 100000 in
set_option maxHeartbeats 4000000 in
theorem c_Md_digit {l : Launch} {D : va_G} {dA : Nat → ClassId} {b : Nat} (a0 : Int32)  (M : qM) (out : Int32) (hf : f_Md_digit a0 M = some out) : CTi l y_Md_digit w_Md_digit rm_Md_digit D (tysX dA) (enM dA b) 38 b (fun _ => True) [qi a0] M (out, M) := by
  refine qm_z (cc := prog_14_method_51_code) (nL := 1) (by decide) rfl (Nat.le_of_ble_eq_true rfl) ?_
  intro p e s m args below meth c Q hx hb hts0 hown hml hK hs hret
  have hts : ∀ w ∈ lw_g, w.before args s = true := fun w h => hts0 w (List.mem_cons_of_mem _ h)
  show QJ p l e rm_Md_digit s m args below meth c (qA 38 b) b 1 0 0 Q (qWd D (enM dA b) 38 b) M 0 [(0, qi a0)] []
  unfold f_Md_digit at hf
  refine qj_iload_n hx hb d_Md_digit_0 rfl 0 rfl ?_
  refine qj_bipush (v := 48) hx hb d_Md_digit_1 (by decide) ?_
  refine qj_icmp_lt (tgt := 16) hx hb d_Md_digit_3 (by decide) (fun hc1 => ?_) (fun hc1 => ?_)
  · replace hf := q_if_t hc1 hf
    refine qj_iconst (v := 0) hx hb d_Md_digit_16 (by decide) ?_
    exact hret _ _ _ _ (Or.inl rfl) d_Md_digit_17 (congrArg (fun z => (z, M)) (Option.some.inj hf))
  · replace hf := q_if_f hc1 hf
    refine qj_iload_n hx hb d_Md_digit_6 rfl 0 rfl ?_
    refine qj_bipush (v := 57) hx hb d_Md_digit_7 (by decide) ?_
    refine qj_icmp_gt (tgt := 16) hx hb d_Md_digit_9 (by decide) (fun hc2 => ?_) (fun hc2 => ?_)
    · replace hf := q_if_t hc2 hf
      refine qj_iconst (v := 0) hx hb d_Md_digit_16 (by decide) ?_
      exact hret _ _ _ _ (Or.inl rfl) d_Md_digit_17 (congrArg (fun z => (z, M)) (Option.some.inj hf))
    · replace hf := q_if_f hc2 hf
      refine qj_iconst (v := 1) hx hb d_Md_digit_12 (by decide) ?_
      refine qj_goto (tgt := 17) hx hb d_Md_digit_13 (by decide) ?_
      exact hret _ _ _ _ (Or.inr rfl) d_Md_digit_17 (congrArg (fun z => (z, M)) (Option.some.inj hf))
