set_option maxRecDepth 10000 in
theorem tm_19 : Cond.methodLink "PlainPageModel" 1 Lib.objectInit ∈ lw_g := q_g (q_t5 (List.mem_of_getElem? (i := 35) rfl)) rfl
theorem d_Md_init_0 : decode prog_14_method_1_code 0 = .ok (.aload_n 0, 1) := by decide +kernel
theorem d_Md_init_1 : decode prog_14_method_1_code 1 = .ok (.invokespecial 1, 3) := by decide +kernel
theorem d_Md_init_4 : decode prog_14_method_1_code 4 = .ok (.aload_n 0, 1) := by decide +kernel
theorem d_Md_init_5 : decode prog_14_method_1_code 5 = .ok (.sipush 160, 3) := by decide +kernel
theorem d_Md_init_8 : decode prog_14_method_1_code 8 = .ok (.newarray .int, 2) := by decide +kernel
theorem d_Md_init_10 : decode prog_14_method_1_code 10 = .ok (.putfield 7, 3) := by decide +kernel
theorem d_Md_init_13 : decode prog_14_method_1_code 13 = .ok (.aload_n 0, 1) := by decide +kernel
theorem d_Md_init_14 : decode prog_14_method_1_code 14 = .ok (.bipush 120, 2) := by decide +kernel
theorem d_Md_init_16 : decode prog_14_method_1_code 16 = .ok (.newarray .int, 2) := by decide +kernel
theorem d_Md_init_18 : decode prog_14_method_1_code 18 = .ok (.putfield 13, 3) := by decide +kernel
theorem d_Md_init_21 : decode prog_14_method_1_code 21 = .ok (.aload_n 0, 1) := by decide +kernel
theorem d_Md_init_22 : decode prog_14_method_1_code 22 = .ok (.bipush 40, 2) := by decide +kernel
theorem d_Md_init_24 : decode prog_14_method_1_code 24 = .ok (.newarray .int, 2) := by decide +kernel
theorem d_Md_init_26 : decode prog_14_method_1_code 26 = .ok (.putfield 16, 3) := by decide +kernel
theorem d_Md_init_29 : decode prog_14_method_1_code 29 = .ok (.aload_n 0, 1) := by decide +kernel
theorem d_Md_init_30 : decode prog_14_method_1_code 30 = .ok (.bipush 40, 2) := by decide +kernel
theorem d_Md_init_32 : decode prog_14_method_1_code 32 = .ok (.newarray .int, 2) := by decide +kernel
theorem d_Md_init_34 : decode prog_14_method_1_code 34 = .ok (.putfield 19, 3) := by decide +kernel
theorem d_Md_init_37 : decode prog_14_method_1_code 37 = .ok (.aload_n 0, 1) := by decide +kernel
theorem d_Md_init_38 : decode prog_14_method_1_code 38 = .ok (.bipush 40, 2) := by decide +kernel
theorem d_Md_init_40 : decode prog_14_method_1_code 40 = .ok (.newarray .int, 2) := by decide +kernel
theorem d_Md_init_42 : decode prog_14_method_1_code 42 = .ok (.putfield 22, 3) := by decide +kernel
theorem d_Md_init_45 : decode prog_14_method_1_code 45 = .ok (.aload_n 0, 1) := by decide +kernel
theorem d_Md_init_46 : decode prog_14_method_1_code 46 = .ok (.bipush 40, 2) := by decide +kernel
theorem d_Md_init_48 : decode prog_14_method_1_code 48 = .ok (.newarray .int, 2) := by decide +kernel
theorem d_Md_init_50 : decode prog_14_method_1_code 50 = .ok (.putfield 25, 3) := by decide +kernel
theorem d_Md_init_53 : decode prog_14_method_1_code 53 = .ok (.aload_n 0, 1) := by decide +kernel
theorem d_Md_init_54 : decode prog_14_method_1_code 54 = .ok (.bipush 40, 2) := by decide +kernel
theorem d_Md_init_56 : decode prog_14_method_1_code 56 = .ok (.newarray .int, 2) := by decide +kernel
theorem d_Md_init_58 : decode prog_14_method_1_code 58 = .ok (.putfield 28, 3) := by decide +kernel
theorem d_Md_init_61 : decode prog_14_method_1_code 61 = .ok (.aload_n 0, 1) := by decide +kernel
theorem d_Md_init_62 : decode prog_14_method_1_code 62 = .ok (.bipush 40, 2) := by decide +kernel
theorem d_Md_init_64 : decode prog_14_method_1_code 64 = .ok (.newarray .int, 2) := by decide +kernel
theorem d_Md_init_66 : decode prog_14_method_1_code 66 = .ok (.putfield 31, 3) := by decide +kernel
theorem d_Md_init_69 : decode prog_14_method_1_code 69 = .ok (.aload_n 0, 1) := by decide +kernel
theorem d_Md_init_70 : decode prog_14_method_1_code 70 = .ok (.bipush 40, 2) := by decide +kernel
theorem d_Md_init_72 : decode prog_14_method_1_code 72 = .ok (.newarray .int, 2) := by decide +kernel
theorem d_Md_init_74 : decode prog_14_method_1_code 74 = .ok (.putfield 34, 3) := by decide +kernel
theorem d_Md_init_77 : decode prog_14_method_1_code 77 = .ok (.aload_n 0, 1) := by decide +kernel
theorem d_Md_init_78 : decode prog_14_method_1_code 78 = .ok (.bipush 40, 2) := by decide +kernel
theorem d_Md_init_80 : decode prog_14_method_1_code 80 = .ok (.newarray .int, 2) := by decide +kernel
theorem d_Md_init_82 : decode prog_14_method_1_code 82 = .ok (.putfield 37, 3) := by decide +kernel
theorem d_Md_init_85 : decode prog_14_method_1_code 85 = .ok (.aload_n 0, 1) := by decide +kernel
theorem d_Md_init_86 : decode prog_14_method_1_code 86 = .ok (.sipush 160, 3) := by decide +kernel
theorem d_Md_init_89 : decode prog_14_method_1_code 89 = .ok (.newarray .int, 2) := by decide +kernel
theorem d_Md_init_91 : decode prog_14_method_1_code 91 = .ok (.putfield 40, 3) := by decide +kernel
theorem d_Md_init_94 : decode prog_14_method_1_code 94 = .ok (.aload_n 0, 1) := by decide +kernel
theorem d_Md_init_95 : decode prog_14_method_1_code 95 = .ok (.sipush 160, 3) := by decide +kernel
theorem d_Md_init_98 : decode prog_14_method_1_code 98 = .ok (.newarray .int, 2) := by decide +kernel
theorem d_Md_init_100 : decode prog_14_method_1_code 100 = .ok (.putfield 43, 3) := by decide +kernel
theorem d_Md_init_103 : decode prog_14_method_1_code 103 = .ok (.aload_n 0, 1) := by decide +kernel
theorem d_Md_init_104 : decode prog_14_method_1_code 104 = .ok (.bipush 48, 2) := by decide +kernel
theorem d_Md_init_106 : decode prog_14_method_1_code 106 = .ok (.newarray .int, 2) := by decide +kernel
theorem d_Md_init_108 : decode prog_14_method_1_code 108 = .ok (.putfield 46, 3) := by decide +kernel
theorem d_Md_init_111 : decode prog_14_method_1_code 111 = .ok (.aload_n 0, 1) := by decide +kernel
theorem d_Md_init_112 : decode prog_14_method_1_code 112 = .ok (.bipush 48, 2) := by decide +kernel
theorem d_Md_init_114 : decode prog_14_method_1_code 114 = .ok (.newarray .int, 2) := by decide +kernel
theorem d_Md_init_116 : decode prog_14_method_1_code 116 = .ok (.putfield 49, 3) := by decide +kernel
theorem d_Md_init_119 : decode prog_14_method_1_code 119 = .ok (.aload_n 0, 1) := by decide +kernel
theorem d_Md_init_120 : decode prog_14_method_1_code 120 = .ok (.bipush 48, 2) := by decide +kernel
theorem d_Md_init_122 : decode prog_14_method_1_code 122 = .ok (.newarray .boolean, 2) := by decide +kernel
theorem d_Md_init_124 : decode prog_14_method_1_code 124 = .ok (.putfield 52, 3) := by decide +kernel
theorem d_Md_init_127 : decode prog_14_method_1_code 127 = .ok (.aload_n 0, 1) := by decide +kernel
theorem d_Md_init_128 : decode prog_14_method_1_code 128 = .ok (.bipush 12, 2) := by decide +kernel
theorem d_Md_init_130 : decode prog_14_method_1_code 130 = .ok (.newarray .int, 2) := by decide +kernel
theorem d_Md_init_132 : decode prog_14_method_1_code 132 = .ok (.putfield 56, 3) := by decide +kernel
theorem d_Md_init_135 : decode prog_14_method_1_code 135 = .ok (.aload_n 0, 1) := by decide +kernel
theorem d_Md_init_136 : decode prog_14_method_1_code 136 = .ok (.bipush 12, 2) := by decide +kernel
theorem d_Md_init_138 : decode prog_14_method_1_code 138 = .ok (.newarray .int, 2) := by decide +kernel
theorem d_Md_init_140 : decode prog_14_method_1_code 140 = .ok (.putfield 59, 3) := by decide +kernel
theorem d_Md_init_143 : decode prog_14_method_1_code 143 = .ok (.aload_n 0, 1) := by decide +kernel
theorem d_Md_init_144 : decode prog_14_method_1_code 144 = .ok (.bipush 12, 2) := by decide +kernel
theorem d_Md_init_146 : decode prog_14_method_1_code 146 = .ok (.newarray .int, 2) := by decide +kernel
theorem d_Md_init_148 : decode prog_14_method_1_code 148 = .ok (.putfield 62, 3) := by decide +kernel
theorem d_Md_init_151 : decode prog_14_method_1_code 151 = .ok (.aload_n 0, 1) := by decide +kernel
theorem d_Md_init_152 : decode prog_14_method_1_code 152 = .ok (.bipush 12, 2) := by decide +kernel
theorem d_Md_init_154 : decode prog_14_method_1_code 154 = .ok (.newarray .int, 2) := by decide +kernel
theorem d_Md_init_156 : decode prog_14_method_1_code 156 = .ok (.putfield 65, 3) := by decide +kernel
theorem d_Md_init_159 : decode prog_14_method_1_code 159 = .ok (.aload_n 0, 1) := by decide +kernel
theorem d_Md_init_160 : decode prog_14_method_1_code 160 = .ok (.bipush 12, 2) := by decide +kernel
theorem d_Md_init_162 : decode prog_14_method_1_code 162 = .ok (.newarray .int, 2) := by decide +kernel
theorem d_Md_init_164 : decode prog_14_method_1_code 164 = .ok (.putfield 68, 3) := by decide +kernel
theorem d_Md_init_167 : decode prog_14_method_1_code 167 = .ok (.aload_n 0, 1) := by decide +kernel
theorem d_Md_init_168 : decode prog_14_method_1_code 168 = .ok (.bipush 120, 2) := by decide +kernel
theorem d_Md_init_170 : decode prog_14_method_1_code 170 = .ok (.newarray .int, 2) := by decide +kernel
theorem d_Md_init_172 : decode prog_14_method_1_code 172 = .ok (.putfield 71, 3) := by decide +kernel
theorem d_Md_init_175 : decode prog_14_method_1_code 175 = .ok (.aload_n 0, 1) := by decide +kernel
theorem d_Md_init_176 : decode prog_14_method_1_code 176 = .ok (.bipush 40, 2) := by decide +kernel
theorem d_Md_init_178 : decode prog_14_method_1_code 178 = .ok (.newarray .int, 2) := by decide +kernel
theorem d_Md_init_180 : decode prog_14_method_1_code 180 = .ok (.putfield 74, 3) := by decide +kernel
theorem d_Md_init_183 : decode prog_14_method_1_code 183 = .ok (.aload_n 0, 1) := by decide +kernel
theorem d_Md_init_184 : decode prog_14_method_1_code 184 = .ok (.sipush 200, 3) := by decide +kernel
theorem d_Md_init_187 : decode prog_14_method_1_code 187 = .ok (.newarray .boolean, 2) := by decide +kernel
theorem d_Md_init_189 : decode prog_14_method_1_code 189 = .ok (.putfield 77, 3) := by decide +kernel
theorem d_Md_init_192 : decode prog_14_method_1_code 192 = .ok (.aload_n 0, 1) := by decide +kernel
theorem d_Md_init_193 : decode prog_14_method_1_code 193 = .ok (.sipush 280, 3) := by decide +kernel
theorem d_Md_init_196 : decode prog_14_method_1_code 196 = .ok (.newarray .int, 2) := by decide +kernel
theorem d_Md_init_198 : decode prog_14_method_1_code 198 = .ok (.putfield 80, 3) := by decide +kernel
theorem d_Md_init_201 : decode prog_14_method_1_code 201 = .ok (.aload_n 0, 1) := by decide +kernel
theorem d_Md_init_202 : decode prog_14_method_1_code 202 = .ok (.sipush 280, 3) := by decide +kernel
theorem d_Md_init_205 : decode prog_14_method_1_code 205 = .ok (.newarray .int, 2) := by decide +kernel
theorem d_Md_init_207 : decode prog_14_method_1_code 207 = .ok (.putfield 83, 3) := by decide +kernel
theorem d_Md_init_210 : decode prog_14_method_1_code 210 = .ok (.aload_n 0, 1) := by decide +kernel
theorem d_Md_init_211 : decode prog_14_method_1_code 211 = .ok (.bipush 40, 2) := by decide +kernel
theorem d_Md_init_213 : decode prog_14_method_1_code 213 = .ok (.newarray .boolean, 2) := by decide +kernel
theorem d_Md_init_215 : decode prog_14_method_1_code 215 = .ok (.putfield 86, 3) := by decide +kernel
theorem d_Md_init_218 : decode prog_14_method_1_code 218 = .ok (.aload_n 0, 1) := by decide +kernel
theorem d_Md_init_219 : decode prog_14_method_1_code 219 = .ok (.bipush 40, 2) := by decide +kernel
theorem d_Md_init_221 : decode prog_14_method_1_code 221 = .ok (.newarray .boolean, 2) := by decide +kernel
theorem d_Md_init_223 : decode prog_14_method_1_code 223 = .ok (.putfield 89, 3) := by decide +kernel
theorem d_Md_init_226 : decode prog_14_method_1_code 226 = .ok (.aload_n 0, 1) := by decide +kernel
theorem d_Md_init_227 : decode prog_14_method_1_code 227 = .ok (.bipush 40, 2) := by decide +kernel
theorem d_Md_init_229 : decode prog_14_method_1_code 229 = .ok (.newarray .int, 2) := by decide +kernel
theorem d_Md_init_231 : decode prog_14_method_1_code 231 = .ok (.putfield 92, 3) := by decide +kernel
theorem d_Md_init_234 : decode prog_14_method_1_code 234 = .ok (.aload_n 0, 1) := by decide +kernel
theorem d_Md_init_235 : decode prog_14_method_1_code 235 = .ok (.bipush 40, 2) := by decide +kernel
theorem d_Md_init_237 : decode prog_14_method_1_code 237 = .ok (.newarray .int, 2) := by decide +kernel
theorem d_Md_init_239 : decode prog_14_method_1_code 239 = .ok (.putfield 95, 3) := by decide +kernel
theorem d_Md_init_242 : decode prog_14_method_1_code 242 = .ok (.aload_n 0, 1) := by decide +kernel
theorem d_Md_init_243 : decode prog_14_method_1_code 243 = .ok (.bipush 40, 2) := by decide +kernel
theorem d_Md_init_245 : decode prog_14_method_1_code 245 = .ok (.newarray .int, 2) := by decide +kernel
theorem d_Md_init_247 : decode prog_14_method_1_code 247 = .ok (.putfield 98, 3) := by decide +kernel
theorem d_Md_init_250 : decode prog_14_method_1_code 250 = .ok (.aload_n 0, 1) := by decide +kernel
theorem d_Md_init_251 : decode prog_14_method_1_code 251 = .ok (.bipush 40, 2) := by decide +kernel
theorem d_Md_init_253 : decode prog_14_method_1_code 253 = .ok (.newarray .int, 2) := by decide +kernel
theorem d_Md_init_255 : decode prog_14_method_1_code 255 = .ok (.putfield 101, 3) := by decide +kernel
theorem d_Md_init_258 : decode prog_14_method_1_code 258 = .ok (.aload_n 0, 1) := by decide +kernel
theorem d_Md_init_259 : decode prog_14_method_1_code 259 = .ok (.bipush 40, 2) := by decide +kernel
theorem d_Md_init_261 : decode prog_14_method_1_code 261 = .ok (.newarray .int, 2) := by decide +kernel
theorem d_Md_init_263 : decode prog_14_method_1_code 263 = .ok (.putfield 104, 3) := by decide +kernel
theorem d_Md_init_266 : decode prog_14_method_1_code 266 = .ok (.aload_n 0, 1) := by decide +kernel
theorem d_Md_init_267 : decode prog_14_method_1_code 267 = .ok (.sipush 160, 3) := by decide +kernel
theorem d_Md_init_270 : decode prog_14_method_1_code 270 = .ok (.newarray .boolean, 2) := by decide +kernel
theorem d_Md_init_272 : decode prog_14_method_1_code 272 = .ok (.putfield 107, 3) := by decide +kernel
theorem d_Md_init_275 : decode prog_14_method_1_code 275 = .ok (.aload_n 0, 1) := by decide +kernel
theorem d_Md_init_276 : decode prog_14_method_1_code 276 = .ok (.sipush 160, 3) := by decide +kernel
theorem d_Md_init_279 : decode prog_14_method_1_code 279 = .ok (.newarray .int, 2) := by decide +kernel
theorem d_Md_init_281 : decode prog_14_method_1_code 281 = .ok (.putfield 110, 3) := by decide +kernel
theorem d_Md_init_284 : decode prog_14_method_1_code 284 = .ok (.aload_n 0, 1) := by decide +kernel
theorem d_Md_init_285 : decode prog_14_method_1_code 285 = .ok (.sipush 160, 3) := by decide +kernel
theorem d_Md_init_288 : decode prog_14_method_1_code 288 = .ok (.newarray .int, 2) := by decide +kernel
theorem d_Md_init_290 : decode prog_14_method_1_code 290 = .ok (.putfield 113, 3) := by decide +kernel
theorem d_Md_init_293 : decode prog_14_method_1_code 293 = .ok (.aload_n 0, 1) := by decide +kernel
theorem d_Md_init_294 : decode prog_14_method_1_code 294 = .ok (.sipush 160, 3) := by decide +kernel
theorem d_Md_init_297 : decode prog_14_method_1_code 297 = .ok (.newarray .int, 2) := by decide +kernel
theorem d_Md_init_299 : decode prog_14_method_1_code 299 = .ok (.putfield 116, 3) := by decide +kernel
theorem d_Md_init_302 : decode prog_14_method_1_code 302 = .ok (.aload_n 0, 1) := by decide +kernel
theorem d_Md_init_303 : decode prog_14_method_1_code 303 = .ok (.sipush 200, 3) := by decide +kernel
theorem d_Md_init_306 : decode prog_14_method_1_code 306 = .ok (.newarray .int, 2) := by decide +kernel
theorem d_Md_init_308 : decode prog_14_method_1_code 308 = .ok (.putfield 119, 3) := by decide +kernel
theorem d_Md_init_311 : decode prog_14_method_1_code 311 = .ok (.aload_n 0, 1) := by decide +kernel
theorem d_Md_init_312 : decode prog_14_method_1_code 312 = .ok (.invokevirtual 122, 3) := by decide +kernel
theorem d_Md_init_315 : decode prog_14_method_1_code 315 = .ok (.return_, 1) := by decide +kernel
abbrev rm_Md_init : Room := { frames := 2, cells := 37, slots := 3164, locals := 60 }
set_option maxRecDepth 100000 in
set_option maxHeartbeats 4000000 in
theorem k_Md_init {l : Launch} {D : va_G} {dA : Nat → ClassId} {b : Nat} (M1 : qM) (hf : f_Md_reset qM0 = some M1) : CTp l y_Md_init w_Md_init rm_Md_init D (tysX dA) (enM dA b) 38 b (fun _ => True) 37 3164 (.inr (12, [.int 0, .null, .int 0, .null, .int 0, .int 0, .null, .int 0, .null, .null, .null, .null, .null, .int 0, .null, .null, .int 0, .int 0, .null, .null, .int 0, .int 0, .int 0, .null, .null, .null, .null, .null, .null, .null, .null, .null, .int 0, .null, .null, .null, .null, .int 0, .int 0, .int 0, .null, .null, .null, .null, .null, .null, .null, .null, .null, .null, .null, .null, .int 0, .int 0, .int 0, .int 0, .int 0, .int 0])) M1 := by
  refine qm_p (cc := prog_14_method_1_code) (nL := 1) (by decide) rfl rfl (by decide) ?_
  intro p e s m args below meth c Q hx hb hts0 hown hml hin2 hK hs0 hsz hret
  have hts : ∀ w ∈ lw_g, w.before args s = true := fun w h => hts0 w (List.mem_cons_of_mem _ h)
  refine qj_aload_n hx hb d_Md_init_0 rfl 0 rfl ?_
  refine qk_obj hx hb hml hown (hts _ tm_19) (hts _ tk_1) (hts _ tk_2) d_Md_init_1 (by decide) (Nat.le_of_ble_eq_true rfl) ?_
  refine qj_aload_n hx hb d_Md_init_4 rfl 0 rfl ?_
  refine qj_sipush (v := 160) hx hb d_Md_init_5 (by decide) ?_
  refine qk_newa (atype := .int) (ty := .int) (N' := 160) (cA := dA 0) hx hb (List.forall_mem_cons.mpr ⟨(by show 0 < 1; omega), fun _ h => absurd h List.not_mem_nil⟩) (hts _ tk_12) rfl (hK.2 0 _ rfl).2 rfl rfl (by decide) rfl (by decide) (by decide) (by decide) (by omega) d_Md_init_8 ?_
  refine qk_put (j := 0) (ty := .array (.int)) (v := qr (some (1))) hx hb hts hin_12 ty_12 tyok_12 nm_12 hown hK (by omega) rfl q_s1 rfl 1 (by decide) (hts _ tw_458) (fun _ h => h) hin2 rfl (by decide +kernel) rfl rfl (Nat.le_of_ble_eq_true rfl) d_Md_init_10 ?_
  refine qj_ex (ex1 := [(0, .inr (12, [.int 0, .ref (b + 1), .int 0, .null, .int 0, .int 0, .null, .int 0, .null, .null, .null, .null, .null, .int 0, .null, .null, .int 0, .int 0, .null, .null, .int 0, .int 0, .int 0, .null, .null, .null, .null, .null, .null, .null, .null, .null, .int 0, .null, .null, .null, .null, .int 0, .int 0, .int 0, .null, .null, .null, .null, .null, .null, .null, .null, .null, .null, .null, .null, .int 0, .int 0, .int 0, .int 0, .int 0, .int 0]))]) (n1 := 2) (cs1 := 1) (sl1 := 160) rfl rfl rfl rfl ?_
  refine qj_aload_n hx hb d_Md_init_13 rfl 0 rfl ?_
  refine qj_bipush (v := 120) hx hb d_Md_init_14 (by decide) ?_
  refine qk_newa (atype := .int) (ty := .int) (N' := 120) (cA := dA 0) hx hb (List.forall_mem_cons.mpr ⟨(by show 0 < 2; omega), fun _ h => absurd h List.not_mem_nil⟩) (hts _ tk_12) rfl (hK.2 0 _ rfl).2 rfl rfl (by decide) rfl (by decide) (by decide) (by decide) (by omega) d_Md_init_16 ?_
  refine qk_put (j := 0) (ty := .array (.int)) (v := qr (some (2))) hx hb hts hin_12 ty_12 tyok_12 nm_12 hown hK (by omega) rfl q_s1 rfl 3 (by decide) (hts _ tw_592) (fun _ h => h) hin2 rfl (by decide +kernel) rfl rfl (Nat.le_of_ble_eq_true rfl) d_Md_init_18 ?_
  refine qj_ex (ex1 := [(0, .inr (12, [.int 0, .ref (b + 1), .int 0, .ref (b + 2), .int 0, .int 0, .null, .int 0, .null, .null, .null, .null, .null, .int 0, .null, .null, .int 0, .int 0, .null, .null, .int 0, .int 0, .int 0, .null, .null, .null, .null, .null, .null, .null, .null, .null, .int 0, .null, .null, .null, .null, .int 0, .int 0, .int 0, .null, .null, .null, .null, .null, .null, .null, .null, .null, .null, .null, .null, .int 0, .int 0, .int 0, .int 0, .int 0, .int 0]))]) (n1 := 3) (cs1 := 2) (sl1 := 280) rfl rfl rfl rfl ?_
  refine qj_aload_n hx hb d_Md_init_21 rfl 0 rfl ?_
  refine qj_bipush (v := 40) hx hb d_Md_init_22 (by decide) ?_
  refine qk_newa (atype := .int) (ty := .int) (N' := 40) (cA := dA 0) hx hb (List.forall_mem_cons.mpr ⟨(by show 0 < 3; omega), fun _ h => absurd h List.not_mem_nil⟩) (hts _ tk_12) rfl (hK.2 0 _ rfl).2 rfl rfl (by decide) rfl (by decide) (by decide) (by decide) (by omega) d_Md_init_24 ?_
  refine qk_put (j := 0) (ty := .array (.int)) (v := qr (some (3))) hx hb hts hin_12 ty_12 tyok_12 nm_12 hown hK (by omega) rfl q_s1 rfl 6 (by decide) (hts _ tw_448) (fun _ h => h) hin2 rfl (by decide +kernel) rfl rfl (Nat.le_of_ble_eq_true rfl) d_Md_init_26 ?_
  refine qj_ex (ex1 := [(0, .inr (12, [.int 0, .ref (b + 1), .int 0, .ref (b + 2), .int 0, .int 0, .ref (b + 3), .int 0, .null, .null, .null, .null, .null, .int 0, .null, .null, .int 0, .int 0, .null, .null, .int 0, .int 0, .int 0, .null, .null, .null, .null, .null, .null, .null, .null, .null, .int 0, .null, .null, .null, .null, .int 0, .int 0, .int 0, .null, .null, .null, .null, .null, .null, .null, .null, .null, .null, .null, .null, .int 0, .int 0, .int 0, .int 0, .int 0, .int 0]))]) (n1 := 4) (cs1 := 3) (sl1 := 320) rfl rfl rfl rfl ?_
  refine qj_aload_n hx hb d_Md_init_29 rfl 0 rfl ?_
  refine qj_bipush (v := 40) hx hb d_Md_init_30 (by decide) ?_
  refine qk_newa (atype := .int) (ty := .int) (N' := 40) (cA := dA 0) hx hb (List.forall_mem_cons.mpr ⟨(by show 0 < 4; omega), fun _ h => absurd h List.not_mem_nil⟩) (hts _ tk_12) rfl (hK.2 0 _ rfl).2 rfl rfl (by decide) rfl (by decide) (by decide) (by decide) (by omega) d_Md_init_32 ?_
  refine qk_put (j := 0) (ty := .array (.int)) (v := qr (some (4))) hx hb hts hin_12 ty_12 tyok_12 nm_12 hown hK (by omega) rfl q_s1 rfl 8 (by decide) (hts _ tw_450) (fun _ h => h) hin2 rfl (by decide +kernel) rfl rfl (Nat.le_of_ble_eq_true rfl) d_Md_init_34 ?_
  refine qj_ex (ex1 := [(0, .inr (12, [.int 0, .ref (b + 1), .int 0, .ref (b + 2), .int 0, .int 0, .ref (b + 3), .int 0, .ref (b + 4), .null, .null, .null, .null, .int 0, .null, .null, .int 0, .int 0, .null, .null, .int 0, .int 0, .int 0, .null, .null, .null, .null, .null, .null, .null, .null, .null, .int 0, .null, .null, .null, .null, .int 0, .int 0, .int 0, .null, .null, .null, .null, .null, .null, .null, .null, .null, .null, .null, .null, .int 0, .int 0, .int 0, .int 0, .int 0, .int 0]))]) (n1 := 5) (cs1 := 4) (sl1 := 360) rfl rfl rfl rfl ?_
  refine qj_aload_n hx hb d_Md_init_37 rfl 0 rfl ?_
  refine qj_bipush (v := 40) hx hb d_Md_init_38 (by decide) ?_
  refine qk_newa (atype := .int) (ty := .int) (N' := 40) (cA := dA 0) hx hb (List.forall_mem_cons.mpr ⟨(by show 0 < 5; omega), fun _ h => absurd h List.not_mem_nil⟩) (hts _ tk_12) rfl (hK.2 0 _ rfl).2 rfl rfl (by decide) rfl (by decide) (by decide) (by decide) (by omega) d_Md_init_40 ?_
  refine qk_put (j := 0) (ty := .array (.int)) (v := qr (some (5))) hx hb hts hin_12 ty_12 tyok_12 nm_12 hown hK (by omega) rfl q_s1 rfl 9 (by decide) (hts _ tw_451) (fun _ h => h) hin2 rfl (by decide +kernel) rfl rfl (Nat.le_of_ble_eq_true rfl) d_Md_init_42 ?_
  refine qj_ex (ex1 := [(0, .inr (12, [.int 0, .ref (b + 1), .int 0, .ref (b + 2), .int 0, .int 0, .ref (b + 3), .int 0, .ref (b + 4), .ref (b + 5), .null, .null, .null, .int 0, .null, .null, .int 0, .int 0, .null, .null, .int 0, .int 0, .int 0, .null, .null, .null, .null, .null, .null, .null, .null, .null, .int 0, .null, .null, .null, .null, .int 0, .int 0, .int 0, .null, .null, .null, .null, .null, .null, .null, .null, .null, .null, .null, .null, .int 0, .int 0, .int 0, .int 0, .int 0, .int 0]))]) (n1 := 6) (cs1 := 5) (sl1 := 400) rfl rfl rfl rfl ?_
  refine qj_aload_n hx hb d_Md_init_45 rfl 0 rfl ?_
  refine qj_bipush (v := 40) hx hb d_Md_init_46 (by decide) ?_
  refine qk_newa (atype := .int) (ty := .int) (N' := 40) (cA := dA 0) hx hb (List.forall_mem_cons.mpr ⟨(by show 0 < 6; omega), fun _ h => absurd h List.not_mem_nil⟩) (hts _ tk_12) rfl (hK.2 0 _ rfl).2 rfl rfl (by decide) rfl (by decide) (by decide) (by decide) (by omega) d_Md_init_48 ?_
  refine qk_put (j := 0) (ty := .array (.int)) (v := qr (some (6))) hx hb hts hin_12 ty_12 tyok_12 nm_12 hown hK (by omega) rfl q_s1 rfl 10 (by decide) (hts _ tw_452) (fun _ h => h) hin2 rfl (by decide +kernel) rfl rfl (Nat.le_of_ble_eq_true rfl) d_Md_init_50 ?_
  refine qj_ex (ex1 := [(0, .inr (12, [.int 0, .ref (b + 1), .int 0, .ref (b + 2), .int 0, .int 0, .ref (b + 3), .int 0, .ref (b + 4), .ref (b + 5), .ref (b + 6), .null, .null, .int 0, .null, .null, .int 0, .int 0, .null, .null, .int 0, .int 0, .int 0, .null, .null, .null, .null, .null, .null, .null, .null, .null, .int 0, .null, .null, .null, .null, .int 0, .int 0, .int 0, .null, .null, .null, .null, .null, .null, .null, .null, .null, .null, .null, .null, .int 0, .int 0, .int 0, .int 0, .int 0, .int 0]))]) (n1 := 7) (cs1 := 6) (sl1 := 440) rfl rfl rfl rfl ?_
  refine qj_aload_n hx hb d_Md_init_53 rfl 0 rfl ?_
  refine qj_bipush (v := 40) hx hb d_Md_init_54 (by decide) ?_
  refine qk_newa (atype := .int) (ty := .int) (N' := 40) (cA := dA 0) hx hb (List.forall_mem_cons.mpr ⟨(by show 0 < 7; omega), fun _ h => absurd h List.not_mem_nil⟩) (hts _ tk_12) rfl (hK.2 0 _ rfl).2 rfl rfl (by decide) rfl (by decide) (by decide) (by decide) (by omega) d_Md_init_56 ?_
  refine qk_put (j := 0) (ty := .array (.int)) (v := qr (some (7))) hx hb hts hin_12 ty_12 tyok_12 nm_12 hown hK (by omega) rfl q_s1 rfl 11 (by decide) (hts _ tw_539) (fun _ h => h) hin2 rfl (by decide +kernel) rfl rfl (Nat.le_of_ble_eq_true rfl) d_Md_init_58 ?_
  refine qj_ex (ex1 := [(0, .inr (12, [.int 0, .ref (b + 1), .int 0, .ref (b + 2), .int 0, .int 0, .ref (b + 3), .int 0, .ref (b + 4), .ref (b + 5), .ref (b + 6), .ref (b + 7), .null, .int 0, .null, .null, .int 0, .int 0, .null, .null, .int 0, .int 0, .int 0, .null, .null, .null, .null, .null, .null, .null, .null, .null, .int 0, .null, .null, .null, .null, .int 0, .int 0, .int 0, .null, .null, .null, .null, .null, .null, .null, .null, .null, .null, .null, .null, .int 0, .int 0, .int 0, .int 0, .int 0, .int 0]))]) (n1 := 8) (cs1 := 7) (sl1 := 480) rfl rfl rfl rfl ?_
  refine qj_aload_n hx hb d_Md_init_61 rfl 0 rfl ?_
  refine qj_bipush (v := 40) hx hb d_Md_init_62 (by decide) ?_
  refine qk_newa (atype := .int) (ty := .int) (N' := 40) (cA := dA 0) hx hb (List.forall_mem_cons.mpr ⟨(by show 0 < 8; omega), fun _ h => absurd h List.not_mem_nil⟩) (hts _ tk_12) rfl (hK.2 0 _ rfl).2 rfl rfl (by decide) rfl (by decide) (by decide) (by decide) (by omega) d_Md_init_64 ?_
  refine qk_put (j := 0) (ty := .array (.int)) (v := qr (some (8))) hx hb hts hin_12 ty_12 tyok_12 nm_12 hown hK (by omega) rfl q_s1 rfl 12 (by decide) (hts _ tw_453) (fun _ h => h) hin2 rfl (by decide +kernel) rfl rfl (Nat.le_of_ble_eq_true rfl) d_Md_init_66 ?_
  refine qj_ex (ex1 := [(0, .inr (12, [.int 0, .ref (b + 1), .int 0, .ref (b + 2), .int 0, .int 0, .ref (b + 3), .int 0, .ref (b + 4), .ref (b + 5), .ref (b + 6), .ref (b + 7), .ref (b + 8), .int 0, .null, .null, .int 0, .int 0, .null, .null, .int 0, .int 0, .int 0, .null, .null, .null, .null, .null, .null, .null, .null, .null, .int 0, .null, .null, .null, .null, .int 0, .int 0, .int 0, .null, .null, .null, .null, .null, .null, .null, .null, .null, .null, .null, .null, .int 0, .int 0, .int 0, .int 0, .int 0, .int 0]))]) (n1 := 9) (cs1 := 8) (sl1 := 520) rfl rfl rfl rfl ?_
  refine qj_aload_n hx hb d_Md_init_69 rfl 0 rfl ?_
  refine qj_bipush (v := 40) hx hb d_Md_init_70 (by decide) ?_
  refine qk_newa (atype := .int) (ty := .int) (N' := 40) (cA := dA 0) hx hb (List.forall_mem_cons.mpr ⟨(by show 0 < 9; omega), fun _ h => absurd h List.not_mem_nil⟩) (hts _ tk_12) rfl (hK.2 0 _ rfl).2 rfl rfl (by decide) rfl (by decide) (by decide) (by decide) (by omega) d_Md_init_72 ?_
  refine qk_put (j := 0) (ty := .array (.int)) (v := qr (some (9))) hx hb hts hin_12 ty_12 tyok_12 nm_12 hown hK (by omega) rfl q_s1 rfl 14 (by decide) (hts _ tw_499) (fun _ h => h) hin2 rfl (by decide +kernel) rfl rfl (Nat.le_of_ble_eq_true rfl) d_Md_init_74 ?_
  refine qj_ex (ex1 := [(0, .inr (12, [.int 0, .ref (b + 1), .int 0, .ref (b + 2), .int 0, .int 0, .ref (b + 3), .int 0, .ref (b + 4), .ref (b + 5), .ref (b + 6), .ref (b + 7), .ref (b + 8), .int 0, .ref (b + 9), .null, .int 0, .int 0, .null, .null, .int 0, .int 0, .int 0, .null, .null, .null, .null, .null, .null, .null, .null, .null, .int 0, .null, .null, .null, .null, .int 0, .int 0, .int 0, .null, .null, .null, .null, .null, .null, .null, .null, .null, .null, .null, .null, .int 0, .int 0, .int 0, .int 0, .int 0, .int 0]))]) (n1 := 10) (cs1 := 9) (sl1 := 560) rfl rfl rfl rfl ?_
  refine qj_aload_n hx hb d_Md_init_77 rfl 0 rfl ?_
  refine qj_bipush (v := 40) hx hb d_Md_init_78 (by decide) ?_
  refine qk_newa (atype := .int) (ty := .int) (N' := 40) (cA := dA 0) hx hb (List.forall_mem_cons.mpr ⟨(by show 0 < 10; omega), fun _ h => absurd h List.not_mem_nil⟩) (hts _ tk_12) rfl (hK.2 0 _ rfl).2 rfl rfl (by decide) rfl (by decide) (by decide) (by decide) (by omega) d_Md_init_80 ?_
  refine qk_put (j := 0) (ty := .array (.int)) (v := qr (some (10))) hx hb hts hin_12 ty_12 tyok_12 nm_12 hown hK (by omega) rfl q_s1 rfl 15 (by decide) (hts _ tw_498) (fun _ h => h) hin2 rfl (by decide +kernel) rfl rfl (Nat.le_of_ble_eq_true rfl) d_Md_init_82 ?_
  refine qj_ex (ex1 := [(0, .inr (12, [.int 0, .ref (b + 1), .int 0, .ref (b + 2), .int 0, .int 0, .ref (b + 3), .int 0, .ref (b + 4), .ref (b + 5), .ref (b + 6), .ref (b + 7), .ref (b + 8), .int 0, .ref (b + 9), .ref (b + 10), .int 0, .int 0, .null, .null, .int 0, .int 0, .int 0, .null, .null, .null, .null, .null, .null, .null, .null, .null, .int 0, .null, .null, .null, .null, .int 0, .int 0, .int 0, .null, .null, .null, .null, .null, .null, .null, .null, .null, .null, .null, .null, .int 0, .int 0, .int 0, .int 0, .int 0, .int 0]))]) (n1 := 11) (cs1 := 10) (sl1 := 600) rfl rfl rfl rfl ?_
  refine qj_aload_n hx hb d_Md_init_85 rfl 0 rfl ?_
  refine qj_sipush (v := 160) hx hb d_Md_init_86 (by decide) ?_
  refine qk_newa (atype := .int) (ty := .int) (N' := 160) (cA := dA 0) hx hb (List.forall_mem_cons.mpr ⟨(by show 0 < 11; omega), fun _ h => absurd h List.not_mem_nil⟩) (hts _ tk_12) rfl (hK.2 0 _ rfl).2 rfl rfl (by decide) rfl (by decide) (by decide) (by decide) (by omega) d_Md_init_89 ?_
  refine qk_put (j := 0) (ty := .array (.int)) (v := qr (some (11))) hx hb hts hin_12 ty_12 tyok_12 nm_12 hown hK (by omega) rfl q_s1 rfl 18 (by decide) (hts _ tw_568) (fun _ h => h) hin2 rfl (by decide +kernel) rfl rfl (Nat.le_of_ble_eq_true rfl) d_Md_init_91 ?_
  refine qj_ex (ex1 := [(0, .inr (12, [.int 0, .ref (b + 1), .int 0, .ref (b + 2), .int 0, .int 0, .ref (b + 3), .int 0, .ref (b + 4), .ref (b + 5), .ref (b + 6), .ref (b + 7), .ref (b + 8), .int 0, .ref (b + 9), .ref (b + 10), .int 0, .int 0, .ref (b + 11), .null, .int 0, .int 0, .int 0, .null, .null, .null, .null, .null, .null, .null, .null, .null, .int 0, .null, .null, .null, .null, .int 0, .int 0, .int 0, .null, .null, .null, .null, .null, .null, .null, .null, .null, .null, .null, .null, .int 0, .int 0, .int 0, .int 0, .int 0, .int 0]))]) (n1 := 12) (cs1 := 11) (sl1 := 760) rfl rfl rfl rfl ?_
  refine qj_aload_n hx hb d_Md_init_94 rfl 0 rfl ?_
  refine qj_sipush (v := 160) hx hb d_Md_init_95 (by decide) ?_
  refine qk_newa (atype := .int) (ty := .int) (N' := 160) (cA := dA 0) hx hb (List.forall_mem_cons.mpr ⟨(by show 0 < 12; omega), fun _ h => absurd h List.not_mem_nil⟩) (hts _ tk_12) rfl (hK.2 0 _ rfl).2 rfl rfl (by decide) rfl (by decide) (by decide) (by decide) (by omega) d_Md_init_98 ?_
  refine qk_put (j := 0) (ty := .array (.int)) (v := qr (some (12))) hx hb hts hin_12 ty_12 tyok_12 nm_12 hown hK (by omega) rfl q_s1 rfl 19 (by decide) (hts _ tw_569) (fun _ h => h) hin2 rfl (by decide +kernel) rfl rfl (Nat.le_of_ble_eq_true rfl) d_Md_init_100 ?_
  refine qj_ex (ex1 := [(0, .inr (12, [.int 0, .ref (b + 1), .int 0, .ref (b + 2), .int 0, .int 0, .ref (b + 3), .int 0, .ref (b + 4), .ref (b + 5), .ref (b + 6), .ref (b + 7), .ref (b + 8), .int 0, .ref (b + 9), .ref (b + 10), .int 0, .int 0, .ref (b + 11), .ref (b + 12), .int 0, .int 0, .int 0, .null, .null, .null, .null, .null, .null, .null, .null, .null, .int 0, .null, .null, .null, .null, .int 0, .int 0, .int 0, .null, .null, .null, .null, .null, .null, .null, .null, .null, .null, .null, .null, .int 0, .int 0, .int 0, .int 0, .int 0, .int 0]))]) (n1 := 13) (cs1 := 12) (sl1 := 920) rfl rfl rfl rfl ?_
  refine qj_aload_n hx hb d_Md_init_103 rfl 0 rfl ?_
  refine qj_bipush (v := 48) hx hb d_Md_init_104 (by decide) ?_
  refine qk_newa (atype := .int) (ty := .int) (N' := 48) (cA := dA 0) hx hb (List.forall_mem_cons.mpr ⟨(by show 0 < 13; omega), fun _ h => absurd h List.not_mem_nil⟩) (hts _ tk_12) rfl (hK.2 0 _ rfl).2 rfl rfl (by decide) rfl (by decide) (by decide) (by decide) (by omega) d_Md_init_106 ?_
  refine qk_put (j := 0) (ty := .array (.int)) (v := qr (some (13))) hx hb hts hin_12 ty_12 tyok_12 nm_12 hown hK (by omega) rfl q_s1 rfl 23 (by decide) (hts _ tw_612) (fun _ h => h) hin2 rfl (by decide +kernel) rfl rfl (Nat.le_of_ble_eq_true rfl) d_Md_init_108 ?_
  refine qj_ex (ex1 := [(0, .inr (12, [.int 0, .ref (b + 1), .int 0, .ref (b + 2), .int 0, .int 0, .ref (b + 3), .int 0, .ref (b + 4), .ref (b + 5), .ref (b + 6), .ref (b + 7), .ref (b + 8), .int 0, .ref (b + 9), .ref (b + 10), .int 0, .int 0, .ref (b + 11), .ref (b + 12), .int 0, .int 0, .int 0, .ref (b + 13), .null, .null, .null, .null, .null, .null, .null, .null, .int 0, .null, .null, .null, .null, .int 0, .int 0, .int 0, .null, .null, .null, .null, .null, .null, .null, .null, .null, .null, .null, .null, .int 0, .int 0, .int 0, .int 0, .int 0, .int 0]))]) (n1 := 14) (cs1 := 13) (sl1 := 968) rfl rfl rfl rfl ?_
  refine qj_aload_n hx hb d_Md_init_111 rfl 0 rfl ?_
  refine qj_bipush (v := 48) hx hb d_Md_init_112 (by decide) ?_
  refine qk_newa (atype := .int) (ty := .int) (N' := 48) (cA := dA 0) hx hb (List.forall_mem_cons.mpr ⟨(by show 0 < 14; omega), fun _ h => absurd h List.not_mem_nil⟩) (hts _ tk_12) rfl (hK.2 0 _ rfl).2 rfl rfl (by decide) rfl (by decide) (by decide) (by decide) (by omega) d_Md_init_114 ?_
  refine qk_put (j := 0) (ty := .array (.int)) (v := qr (some (14))) hx hb hts hin_12 ty_12 tyok_12 nm_12 hown hK (by omega) rfl q_s1 rfl 24 (by decide) (hts _ tw_613) (fun _ h => h) hin2 rfl (by decide +kernel) rfl rfl (Nat.le_of_ble_eq_true rfl) d_Md_init_116 ?_
  refine qj_ex (ex1 := [(0, .inr (12, [.int 0, .ref (b + 1), .int 0, .ref (b + 2), .int 0, .int 0, .ref (b + 3), .int 0, .ref (b + 4), .ref (b + 5), .ref (b + 6), .ref (b + 7), .ref (b + 8), .int 0, .ref (b + 9), .ref (b + 10), .int 0, .int 0, .ref (b + 11), .ref (b + 12), .int 0, .int 0, .int 0, .ref (b + 13), .ref (b + 14), .null, .null, .null, .null, .null, .null, .null, .int 0, .null, .null, .null, .null, .int 0, .int 0, .int 0, .null, .null, .null, .null, .null, .null, .null, .null, .null, .null, .null, .null, .int 0, .int 0, .int 0, .int 0, .int 0, .int 0]))]) (n1 := 15) (cs1 := 14) (sl1 := 1016) rfl rfl rfl rfl ?_
  refine qj_aload_n hx hb d_Md_init_119 rfl 0 rfl ?_
  refine qj_bipush (v := 48) hx hb d_Md_init_120 (by decide) ?_
  refine qk_newa (atype := .boolean) (ty := .boolean) (N' := 48) (cA := dA 2) hx hb (List.forall_mem_cons.mpr ⟨(by show 0 < 15; omega), fun _ h => absurd h List.not_mem_nil⟩) (hts _ tk_31) rfl (hK.2 2 _ rfl).2 rfl rfl (by decide) rfl (by decide) (by decide) (by decide) (by omega) d_Md_init_122 ?_
  refine qk_put (j := 0) (ty := .array (.boolean)) (v := qr (some (15))) hx hb hts hin_12 ty_12 tyok_12 nm_12 hown hK (by omega) rfl q_s1 rfl 25 (by decide) (hts _ tw_614) (fun _ h => h) hin2 rfl (by decide +kernel) rfl rfl (Nat.le_of_ble_eq_true rfl) d_Md_init_124 ?_
  refine qj_ex (ex1 := [(0, .inr (12, [.int 0, .ref (b + 1), .int 0, .ref (b + 2), .int 0, .int 0, .ref (b + 3), .int 0, .ref (b + 4), .ref (b + 5), .ref (b + 6), .ref (b + 7), .ref (b + 8), .int 0, .ref (b + 9), .ref (b + 10), .int 0, .int 0, .ref (b + 11), .ref (b + 12), .int 0, .int 0, .int 0, .ref (b + 13), .ref (b + 14), .ref (b + 15), .null, .null, .null, .null, .null, .null, .int 0, .null, .null, .null, .null, .int 0, .int 0, .int 0, .null, .null, .null, .null, .null, .null, .null, .null, .null, .null, .null, .null, .int 0, .int 0, .int 0, .int 0, .int 0, .int 0]))]) (n1 := 16) (cs1 := 15) (sl1 := 1064) rfl rfl rfl rfl ?_
  refine qj_aload_n hx hb d_Md_init_127 rfl 0 rfl ?_
  refine qj_bipush (v := 12) hx hb d_Md_init_128 (by decide) ?_
  refine qk_newa (atype := .int) (ty := .int) (N' := 12) (cA := dA 0) hx hb (List.forall_mem_cons.mpr ⟨(by show 0 < 16; omega), fun _ h => absurd h List.not_mem_nil⟩) (hts _ tk_12) rfl (hK.2 0 _ rfl).2 rfl rfl (by decide) rfl (by decide) (by decide) (by decide) (by omega) d_Md_init_130 ?_
  refine qk_put (j := 0) (ty := .array (.int)) (v := qr (some (16))) hx hb hts hin_12 ty_12 tyok_12 nm_12 hown hK (by omega) rfl q_s1 rfl 26 (by decide) (hts _ tw_615) (fun _ h => h) hin2 rfl (by decide +kernel) rfl rfl (Nat.le_of_ble_eq_true rfl) d_Md_init_132 ?_
  refine qj_ex (ex1 := [(0, .inr (12, [.int 0, .ref (b + 1), .int 0, .ref (b + 2), .int 0, .int 0, .ref (b + 3), .int 0, .ref (b + 4), .ref (b + 5), .ref (b + 6), .ref (b + 7), .ref (b + 8), .int 0, .ref (b + 9), .ref (b + 10), .int 0, .int 0, .ref (b + 11), .ref (b + 12), .int 0, .int 0, .int 0, .ref (b + 13), .ref (b + 14), .ref (b + 15), .ref (b + 16), .null, .null, .null, .null, .null, .int 0, .null, .null, .null, .null, .int 0, .int 0, .int 0, .null, .null, .null, .null, .null, .null, .null, .null, .null, .null, .null, .null, .int 0, .int 0, .int 0, .int 0, .int 0, .int 0]))]) (n1 := 17) (cs1 := 16) (sl1 := 1076) rfl rfl rfl rfl ?_
  refine qj_aload_n hx hb d_Md_init_135 rfl 0 rfl ?_
  refine qj_bipush (v := 12) hx hb d_Md_init_136 (by decide) ?_
  refine qk_newa (atype := .int) (ty := .int) (N' := 12) (cA := dA 0) hx hb (List.forall_mem_cons.mpr ⟨(by show 0 < 17; omega), fun _ h => absurd h List.not_mem_nil⟩) (hts _ tk_12) rfl (hK.2 0 _ rfl).2 rfl rfl (by decide) rfl (by decide) (by decide) (by decide) (by omega) d_Md_init_138 ?_
  refine qk_put (j := 0) (ty := .array (.int)) (v := qr (some (17))) hx hb hts hin_12 ty_12 tyok_12 nm_12 hown hK (by omega) rfl q_s1 rfl 27 (by decide) (hts _ tw_606) (fun _ h => h) hin2 rfl (by decide +kernel) rfl rfl (Nat.le_of_ble_eq_true rfl) d_Md_init_140 ?_
  refine qj_ex (ex1 := [(0, .inr (12, [.int 0, .ref (b + 1), .int 0, .ref (b + 2), .int 0, .int 0, .ref (b + 3), .int 0, .ref (b + 4), .ref (b + 5), .ref (b + 6), .ref (b + 7), .ref (b + 8), .int 0, .ref (b + 9), .ref (b + 10), .int 0, .int 0, .ref (b + 11), .ref (b + 12), .int 0, .int 0, .int 0, .ref (b + 13), .ref (b + 14), .ref (b + 15), .ref (b + 16), .ref (b + 17), .null, .null, .null, .null, .int 0, .null, .null, .null, .null, .int 0, .int 0, .int 0, .null, .null, .null, .null, .null, .null, .null, .null, .null, .null, .null, .null, .int 0, .int 0, .int 0, .int 0, .int 0, .int 0]))]) (n1 := 18) (cs1 := 17) (sl1 := 1088) rfl rfl rfl rfl ?_
  refine qj_aload_n hx hb d_Md_init_143 rfl 0 rfl ?_
  refine qj_bipush (v := 12) hx hb d_Md_init_144 (by decide) ?_
  refine qk_newa (atype := .int) (ty := .int) (N' := 12) (cA := dA 0) hx hb (List.forall_mem_cons.mpr ⟨(by show 0 < 18; omega), fun _ h => absurd h List.not_mem_nil⟩) (hts _ tk_12) rfl (hK.2 0 _ rfl).2 rfl rfl (by decide) rfl (by decide) (by decide) (by decide) (by omega) d_Md_init_146 ?_
  refine qk_put (j := 0) (ty := .array (.int)) (v := qr (some (18))) hx hb hts hin_12 ty_12 tyok_12 nm_12 hown hK (by omega) rfl q_s1 rfl 28 (by decide) (hts _ tw_607) (fun _ h => h) hin2 rfl (by decide +kernel) rfl rfl (Nat.le_of_ble_eq_true rfl) d_Md_init_148 ?_
  refine qj_ex (ex1 := [(0, .inr (12, [.int 0, .ref (b + 1), .int 0, .ref (b + 2), .int 0, .int 0, .ref (b + 3), .int 0, .ref (b + 4), .ref (b + 5), .ref (b + 6), .ref (b + 7), .ref (b + 8), .int 0, .ref (b + 9), .ref (b + 10), .int 0, .int 0, .ref (b + 11), .ref (b + 12), .int 0, .int 0, .int 0, .ref (b + 13), .ref (b + 14), .ref (b + 15), .ref (b + 16), .ref (b + 17), .ref (b + 18), .null, .null, .null, .int 0, .null, .null, .null, .null, .int 0, .int 0, .int 0, .null, .null, .null, .null, .null, .null, .null, .null, .null, .null, .null, .null, .int 0, .int 0, .int 0, .int 0, .int 0, .int 0]))]) (n1 := 19) (cs1 := 18) (sl1 := 1100) rfl rfl rfl rfl ?_
  refine qj_aload_n hx hb d_Md_init_151 rfl 0 rfl ?_
  refine qj_bipush (v := 12) hx hb d_Md_init_152 (by decide) ?_
  refine qk_newa (atype := .int) (ty := .int) (N' := 12) (cA := dA 0) hx hb (List.forall_mem_cons.mpr ⟨(by show 0 < 19; omega), fun _ h => absurd h List.not_mem_nil⟩) (hts _ tk_12) rfl (hK.2 0 _ rfl).2 rfl rfl (by decide) rfl (by decide) (by decide) (by decide) (by omega) d_Md_init_154 ?_
  refine qk_put (j := 0) (ty := .array (.int)) (v := qr (some (19))) hx hb hts hin_12 ty_12 tyok_12 nm_12 hown hK (by omega) rfl q_s1 rfl 29 (by decide) (hts _ tw_624) (fun _ h => h) hin2 rfl (by decide +kernel) rfl rfl (Nat.le_of_ble_eq_true rfl) d_Md_init_156 ?_
  refine qj_ex (ex1 := [(0, .inr (12, [.int 0, .ref (b + 1), .int 0, .ref (b + 2), .int 0, .int 0, .ref (b + 3), .int 0, .ref (b + 4), .ref (b + 5), .ref (b + 6), .ref (b + 7), .ref (b + 8), .int 0, .ref (b + 9), .ref (b + 10), .int 0, .int 0, .ref (b + 11), .ref (b + 12), .int 0, .int 0, .int 0, .ref (b + 13), .ref (b + 14), .ref (b + 15), .ref (b + 16), .ref (b + 17), .ref (b + 18), .ref (b + 19), .null, .null, .int 0, .null, .null, .null, .null, .int 0, .int 0, .int 0, .null, .null, .null, .null, .null, .null, .null, .null, .null, .null, .null, .null, .int 0, .int 0, .int 0, .int 0, .int 0, .int 0]))]) (n1 := 20) (cs1 := 19) (sl1 := 1112) rfl rfl rfl rfl ?_
  refine qj_aload_n hx hb d_Md_init_159 rfl 0 rfl ?_
  refine qj_bipush (v := 12) hx hb d_Md_init_160 (by decide) ?_
  refine qk_newa (atype := .int) (ty := .int) (N' := 12) (cA := dA 0) hx hb (List.forall_mem_cons.mpr ⟨(by show 0 < 20; omega), fun _ h => absurd h List.not_mem_nil⟩) (hts _ tk_12) rfl (hK.2 0 _ rfl).2 rfl rfl (by decide) rfl (by decide) (by decide) (by decide) (by omega) d_Md_init_162 ?_
  refine qk_put (j := 0) (ty := .array (.int)) (v := qr (some (20))) hx hb hts hin_12 ty_12 tyok_12 nm_12 hown hK (by omega) rfl q_s1 rfl 30 (by decide) (hts _ tw_625) (fun _ h => h) hin2 rfl (by decide +kernel) rfl rfl (Nat.le_of_ble_eq_true rfl) d_Md_init_164 ?_
  refine qj_ex (ex1 := [(0, .inr (12, [.int 0, .ref (b + 1), .int 0, .ref (b + 2), .int 0, .int 0, .ref (b + 3), .int 0, .ref (b + 4), .ref (b + 5), .ref (b + 6), .ref (b + 7), .ref (b + 8), .int 0, .ref (b + 9), .ref (b + 10), .int 0, .int 0, .ref (b + 11), .ref (b + 12), .int 0, .int 0, .int 0, .ref (b + 13), .ref (b + 14), .ref (b + 15), .ref (b + 16), .ref (b + 17), .ref (b + 18), .ref (b + 19), .ref (b + 20), .null, .int 0, .null, .null, .null, .null, .int 0, .int 0, .int 0, .null, .null, .null, .null, .null, .null, .null, .null, .null, .null, .null, .null, .int 0, .int 0, .int 0, .int 0, .int 0, .int 0]))]) (n1 := 21) (cs1 := 20) (sl1 := 1124) rfl rfl rfl rfl ?_
  refine qj_aload_n hx hb d_Md_init_167 rfl 0 rfl ?_
  refine qj_bipush (v := 120) hx hb d_Md_init_168 (by decide) ?_
  refine qk_newa (atype := .int) (ty := .int) (N' := 120) (cA := dA 0) hx hb (List.forall_mem_cons.mpr ⟨(by show 0 < 21; omega), fun _ h => absurd h List.not_mem_nil⟩) (hts _ tk_12) rfl (hK.2 0 _ rfl).2 rfl rfl (by decide) rfl (by decide) (by decide) (by decide) (by omega) d_Md_init_170 ?_
  refine qk_put (j := 0) (ty := .array (.int)) (v := qr (some (21))) hx hb hts hin_12 ty_12 tyok_12 nm_12 hown hK (by omega) rfl q_s1 rfl 31 (by decide) (hts _ tw_632) (fun _ h => h) hin2 rfl (by decide +kernel) rfl rfl (Nat.le_of_ble_eq_true rfl) d_Md_init_172 ?_
  refine qj_ex (ex1 := [(0, .inr (12, [.int 0, .ref (b + 1), .int 0, .ref (b + 2), .int 0, .int 0, .ref (b + 3), .int 0, .ref (b + 4), .ref (b + 5), .ref (b + 6), .ref (b + 7), .ref (b + 8), .int 0, .ref (b + 9), .ref (b + 10), .int 0, .int 0, .ref (b + 11), .ref (b + 12), .int 0, .int 0, .int 0, .ref (b + 13), .ref (b + 14), .ref (b + 15), .ref (b + 16), .ref (b + 17), .ref (b + 18), .ref (b + 19), .ref (b + 20), .ref (b + 21), .int 0, .null, .null, .null, .null, .int 0, .int 0, .int 0, .null, .null, .null, .null, .null, .null, .null, .null, .null, .null, .null, .null, .int 0, .int 0, .int 0, .int 0, .int 0, .int 0]))]) (n1 := 22) (cs1 := 21) (sl1 := 1244) rfl rfl rfl rfl ?_
  refine qj_aload_n hx hb d_Md_init_175 rfl 0 rfl ?_
  refine qj_bipush (v := 40) hx hb d_Md_init_176 (by decide) ?_
  refine qk_newa (atype := .int) (ty := .int) (N' := 40) (cA := dA 0) hx hb (List.forall_mem_cons.mpr ⟨(by show 0 < 22; omega), fun _ h => absurd h List.not_mem_nil⟩) (hts _ tk_12) rfl (hK.2 0 _ rfl).2 rfl rfl (by decide) rfl (by decide) (by decide) (by decide) (by omega) d_Md_init_178 ?_
  refine qk_put (j := 0) (ty := .array (.int)) (v := qr (some (22))) hx hb hts hin_12 ty_12 tyok_12 nm_12 hown hK (by omega) rfl q_s1 rfl 33 (by decide) (hts _ tw_630) (fun _ h => h) hin2 rfl (by decide +kernel) rfl rfl (Nat.le_of_ble_eq_true rfl) d_Md_init_180 ?_
  refine qj_ex (ex1 := [(0, .inr (12, [.int 0, .ref (b + 1), .int 0, .ref (b + 2), .int 0, .int 0, .ref (b + 3), .int 0, .ref (b + 4), .ref (b + 5), .ref (b + 6), .ref (b + 7), .ref (b + 8), .int 0, .ref (b + 9), .ref (b + 10), .int 0, .int 0, .ref (b + 11), .ref (b + 12), .int 0, .int 0, .int 0, .ref (b + 13), .ref (b + 14), .ref (b + 15), .ref (b + 16), .ref (b + 17), .ref (b + 18), .ref (b + 19), .ref (b + 20), .ref (b + 21), .int 0, .ref (b + 22), .null, .null, .null, .int 0, .int 0, .int 0, .null, .null, .null, .null, .null, .null, .null, .null, .null, .null, .null, .null, .int 0, .int 0, .int 0, .int 0, .int 0, .int 0]))]) (n1 := 23) (cs1 := 22) (sl1 := 1284) rfl rfl rfl rfl ?_
  refine qj_aload_n hx hb d_Md_init_183 rfl 0 rfl ?_
  refine qj_sipush (v := 200) hx hb d_Md_init_184 (by decide) ?_
  refine qk_newa (atype := .boolean) (ty := .boolean) (N' := 200) (cA := dA 2) hx hb (List.forall_mem_cons.mpr ⟨(by show 0 < 23; omega), fun _ h => absurd h List.not_mem_nil⟩) (hts _ tk_31) rfl (hK.2 2 _ rfl).2 rfl rfl (by decide) rfl (by decide) (by decide) (by decide) (by omega) d_Md_init_187 ?_
  refine qk_put (j := 0) (ty := .array (.boolean)) (v := qr (some (23))) hx hb hts hin_12 ty_12 tyok_12 nm_12 hown hK (by omega) rfl q_s1 rfl 34 (by decide) (hts _ tw_631) (fun _ h => h) hin2 rfl (by decide +kernel) rfl rfl (Nat.le_of_ble_eq_true rfl) d_Md_init_189 ?_
  refine qj_ex (ex1 := [(0, .inr (12, [.int 0, .ref (b + 1), .int 0, .ref (b + 2), .int 0, .int 0, .ref (b + 3), .int 0, .ref (b + 4), .ref (b + 5), .ref (b + 6), .ref (b + 7), .ref (b + 8), .int 0, .ref (b + 9), .ref (b + 10), .int 0, .int 0, .ref (b + 11), .ref (b + 12), .int 0, .int 0, .int 0, .ref (b + 13), .ref (b + 14), .ref (b + 15), .ref (b + 16), .ref (b + 17), .ref (b + 18), .ref (b + 19), .ref (b + 20), .ref (b + 21), .int 0, .ref (b + 22), .ref (b + 23), .null, .null, .int 0, .int 0, .int 0, .null, .null, .null, .null, .null, .null, .null, .null, .null, .null, .null, .null, .int 0, .int 0, .int 0, .int 0, .int 0, .int 0]))]) (n1 := 24) (cs1 := 23) (sl1 := 1484) rfl rfl rfl rfl ?_
  refine qj_aload_n hx hb d_Md_init_192 rfl 0 rfl ?_
  refine qj_sipush (v := 280) hx hb d_Md_init_193 (by decide) ?_
  refine qk_newa (atype := .int) (ty := .int) (N' := 280) (cA := dA 0) hx hb (List.forall_mem_cons.mpr ⟨(by show 0 < 24; omega), fun _ h => absurd h List.not_mem_nil⟩) (hts _ tk_12) rfl (hK.2 0 _ rfl).2 rfl rfl (by decide) rfl (by decide) (by decide) (by decide) (by omega) d_Md_init_196 ?_
  refine qk_put (j := 0) (ty := .array (.int)) (v := qr (some (24))) hx hb hts hin_12 ty_12 tyok_12 nm_12 hown hK (by omega) rfl q_s1 rfl 35 (by decide) (hts _ tw_641) (fun _ h => h) hin2 rfl (by decide +kernel) rfl rfl (Nat.le_of_ble_eq_true rfl) d_Md_init_198 ?_
  refine qj_ex (ex1 := [(0, .inr (12, [.int 0, .ref (b + 1), .int 0, .ref (b + 2), .int 0, .int 0, .ref (b + 3), .int 0, .ref (b + 4), .ref (b + 5), .ref (b + 6), .ref (b + 7), .ref (b + 8), .int 0, .ref (b + 9), .ref (b + 10), .int 0, .int 0, .ref (b + 11), .ref (b + 12), .int 0, .int 0, .int 0, .ref (b + 13), .ref (b + 14), .ref (b + 15), .ref (b + 16), .ref (b + 17), .ref (b + 18), .ref (b + 19), .ref (b + 20), .ref (b + 21), .int 0, .ref (b + 22), .ref (b + 23), .ref (b + 24), .null, .int 0, .int 0, .int 0, .null, .null, .null, .null, .null, .null, .null, .null, .null, .null, .null, .null, .int 0, .int 0, .int 0, .int 0, .int 0, .int 0]))]) (n1 := 25) (cs1 := 24) (sl1 := 1764) rfl rfl rfl rfl ?_
  refine qj_aload_n hx hb d_Md_init_201 rfl 0 rfl ?_
  refine qj_sipush (v := 280) hx hb d_Md_init_202 (by decide) ?_
  refine qk_newa (atype := .int) (ty := .int) (N' := 280) (cA := dA 0) hx hb (List.forall_mem_cons.mpr ⟨(by show 0 < 25; omega), fun _ h => absurd h List.not_mem_nil⟩) (hts _ tk_12) rfl (hK.2 0 _ rfl).2 rfl rfl (by decide) rfl (by decide) (by decide) (by decide) (by omega) d_Md_init_205 ?_
  refine qk_put (j := 0) (ty := .array (.int)) (v := qr (some (25))) hx hb hts hin_12 ty_12 tyok_12 nm_12 hown hK (by omega) rfl q_s1 rfl 36 (by decide) (hts _ tw_642) (fun _ h => h) hin2 rfl (by decide +kernel) rfl rfl (Nat.le_of_ble_eq_true rfl) d_Md_init_207 ?_
  refine qj_ex (ex1 := [(0, .inr (12, [.int 0, .ref (b + 1), .int 0, .ref (b + 2), .int 0, .int 0, .ref (b + 3), .int 0, .ref (b + 4), .ref (b + 5), .ref (b + 6), .ref (b + 7), .ref (b + 8), .int 0, .ref (b + 9), .ref (b + 10), .int 0, .int 0, .ref (b + 11), .ref (b + 12), .int 0, .int 0, .int 0, .ref (b + 13), .ref (b + 14), .ref (b + 15), .ref (b + 16), .ref (b + 17), .ref (b + 18), .ref (b + 19), .ref (b + 20), .ref (b + 21), .int 0, .ref (b + 22), .ref (b + 23), .ref (b + 24), .ref (b + 25), .int 0, .int 0, .int 0, .null, .null, .null, .null, .null, .null, .null, .null, .null, .null, .null, .null, .int 0, .int 0, .int 0, .int 0, .int 0, .int 0]))]) (n1 := 26) (cs1 := 25) (sl1 := 2044) rfl rfl rfl rfl ?_
  refine qj_aload_n hx hb d_Md_init_210 rfl 0 rfl ?_
  refine qj_bipush (v := 40) hx hb d_Md_init_211 (by decide) ?_
  refine qk_newa (atype := .boolean) (ty := .boolean) (N' := 40) (cA := dA 2) hx hb (List.forall_mem_cons.mpr ⟨(by show 0 < 26; omega), fun _ h => absurd h List.not_mem_nil⟩) (hts _ tk_31) rfl (hK.2 2 _ rfl).2 rfl rfl (by decide) rfl (by decide) (by decide) (by decide) (by omega) d_Md_init_213 ?_
  refine qk_put (j := 0) (ty := .array (.boolean)) (v := qr (some (26))) hx hb hts hin_12 ty_12 tyok_12 nm_12 hown hK (by omega) rfl q_s1 rfl 40 (by decide) (hts _ tw_664) (fun _ h => h) hin2 rfl (by decide +kernel) rfl rfl (Nat.le_of_ble_eq_true rfl) d_Md_init_215 ?_
  refine qj_ex (ex1 := [(0, .inr (12, [.int 0, .ref (b + 1), .int 0, .ref (b + 2), .int 0, .int 0, .ref (b + 3), .int 0, .ref (b + 4), .ref (b + 5), .ref (b + 6), .ref (b + 7), .ref (b + 8), .int 0, .ref (b + 9), .ref (b + 10), .int 0, .int 0, .ref (b + 11), .ref (b + 12), .int 0, .int 0, .int 0, .ref (b + 13), .ref (b + 14), .ref (b + 15), .ref (b + 16), .ref (b + 17), .ref (b + 18), .ref (b + 19), .ref (b + 20), .ref (b + 21), .int 0, .ref (b + 22), .ref (b + 23), .ref (b + 24), .ref (b + 25), .int 0, .int 0, .int 0, .ref (b + 26), .null, .null, .null, .null, .null, .null, .null, .null, .null, .null, .null, .int 0, .int 0, .int 0, .int 0, .int 0, .int 0]))]) (n1 := 27) (cs1 := 26) (sl1 := 2084) rfl rfl rfl rfl ?_
  refine qj_aload_n hx hb d_Md_init_218 rfl 0 rfl ?_
  refine qj_bipush (v := 40) hx hb d_Md_init_219 (by decide) ?_
  refine qk_newa (atype := .boolean) (ty := .boolean) (N' := 40) (cA := dA 2) hx hb (List.forall_mem_cons.mpr ⟨(by show 0 < 27; omega), fun _ h => absurd h List.not_mem_nil⟩) (hts _ tk_31) rfl (hK.2 2 _ rfl).2 rfl rfl (by decide) rfl (by decide) (by decide) (by decide) (by omega) d_Md_init_221 ?_
  refine qk_put (j := 0) (ty := .array (.boolean)) (v := qr (some (27))) hx hb hts hin_12 ty_12 tyok_12 nm_12 hown hK (by omega) rfl q_s1 rfl 41 (by decide) (hts _ tw_665) (fun _ h => h) hin2 rfl (by decide +kernel) rfl rfl (Nat.le_of_ble_eq_true rfl) d_Md_init_223 ?_
  refine qj_ex (ex1 := [(0, .inr (12, [.int 0, .ref (b + 1), .int 0, .ref (b + 2), .int 0, .int 0, .ref (b + 3), .int 0, .ref (b + 4), .ref (b + 5), .ref (b + 6), .ref (b + 7), .ref (b + 8), .int 0, .ref (b + 9), .ref (b + 10), .int 0, .int 0, .ref (b + 11), .ref (b + 12), .int 0, .int 0, .int 0, .ref (b + 13), .ref (b + 14), .ref (b + 15), .ref (b + 16), .ref (b + 17), .ref (b + 18), .ref (b + 19), .ref (b + 20), .ref (b + 21), .int 0, .ref (b + 22), .ref (b + 23), .ref (b + 24), .ref (b + 25), .int 0, .int 0, .int 0, .ref (b + 26), .ref (b + 27), .null, .null, .null, .null, .null, .null, .null, .null, .null, .null, .int 0, .int 0, .int 0, .int 0, .int 0, .int 0]))]) (n1 := 28) (cs1 := 27) (sl1 := 2124) rfl rfl rfl rfl ?_
  refine qj_aload_n hx hb d_Md_init_226 rfl 0 rfl ?_
  refine qj_bipush (v := 40) hx hb d_Md_init_227 (by decide) ?_
  refine qk_newa (atype := .int) (ty := .int) (N' := 40) (cA := dA 0) hx hb (List.forall_mem_cons.mpr ⟨(by show 0 < 28; omega), fun _ h => absurd h List.not_mem_nil⟩) (hts _ tk_12) rfl (hK.2 0 _ rfl).2 rfl rfl (by decide) rfl (by decide) (by decide) (by decide) (by omega) d_Md_init_229 ?_
  refine qk_put (j := 0) (ty := .array (.int)) (v := qr (some (28))) hx hb hts hin_12 ty_12 tyok_12 nm_12 hown hK (by omega) rfl q_s1 rfl 42 (by decide) (hts _ tw_666) (fun _ h => h) hin2 rfl (by decide +kernel) rfl rfl (Nat.le_of_ble_eq_true rfl) d_Md_init_231 ?_
  refine qj_ex (ex1 := [(0, .inr (12, [.int 0, .ref (b + 1), .int 0, .ref (b + 2), .int 0, .int 0, .ref (b + 3), .int 0, .ref (b + 4), .ref (b + 5), .ref (b + 6), .ref (b + 7), .ref (b + 8), .int 0, .ref (b + 9), .ref (b + 10), .int 0, .int 0, .ref (b + 11), .ref (b + 12), .int 0, .int 0, .int 0, .ref (b + 13), .ref (b + 14), .ref (b + 15), .ref (b + 16), .ref (b + 17), .ref (b + 18), .ref (b + 19), .ref (b + 20), .ref (b + 21), .int 0, .ref (b + 22), .ref (b + 23), .ref (b + 24), .ref (b + 25), .int 0, .int 0, .int 0, .ref (b + 26), .ref (b + 27), .ref (b + 28), .null, .null, .null, .null, .null, .null, .null, .null, .null, .int 0, .int 0, .int 0, .int 0, .int 0, .int 0]))]) (n1 := 29) (cs1 := 28) (sl1 := 2164) rfl rfl rfl rfl ?_
  refine qj_aload_n hx hb d_Md_init_234 rfl 0 rfl ?_
  refine qj_bipush (v := 40) hx hb d_Md_init_235 (by decide) ?_
  refine qk_newa (atype := .int) (ty := .int) (N' := 40) (cA := dA 0) hx hb (List.forall_mem_cons.mpr ⟨(by show 0 < 29; omega), fun _ h => absurd h List.not_mem_nil⟩) (hts _ tk_12) rfl (hK.2 0 _ rfl).2 rfl rfl (by decide) rfl (by decide) (by decide) (by decide) (by omega) d_Md_init_237 ?_
  refine qk_put (j := 0) (ty := .array (.int)) (v := qr (some (29))) hx hb hts hin_12 ty_12 tyok_12 nm_12 hown hK (by omega) rfl q_s1 rfl 43 (by decide) (hts _ tw_667) (fun _ h => h) hin2 rfl (by decide +kernel) rfl rfl (Nat.le_of_ble_eq_true rfl) d_Md_init_239 ?_
  refine qj_ex (ex1 := [(0, .inr (12, [.int 0, .ref (b + 1), .int 0, .ref (b + 2), .int 0, .int 0, .ref (b + 3), .int 0, .ref (b + 4), .ref (b + 5), .ref (b + 6), .ref (b + 7), .ref (b + 8), .int 0, .ref (b + 9), .ref (b + 10), .int 0, .int 0, .ref (b + 11), .ref (b + 12), .int 0, .int 0, .int 0, .ref (b + 13), .ref (b + 14), .ref (b + 15), .ref (b + 16), .ref (b + 17), .ref (b + 18), .ref (b + 19), .ref (b + 20), .ref (b + 21), .int 0, .ref (b + 22), .ref (b + 23), .ref (b + 24), .ref (b + 25), .int 0, .int 0, .int 0, .ref (b + 26), .ref (b + 27), .ref (b + 28), .ref (b + 29), .null, .null, .null, .null, .null, .null, .null, .null, .int 0, .int 0, .int 0, .int 0, .int 0, .int 0]))]) (n1 := 30) (cs1 := 29) (sl1 := 2204) rfl rfl rfl rfl ?_
  refine qj_aload_n hx hb d_Md_init_242 rfl 0 rfl ?_
  refine qj_bipush (v := 40) hx hb d_Md_init_243 (by decide) ?_
  refine qk_newa (atype := .int) (ty := .int) (N' := 40) (cA := dA 0) hx hb (List.forall_mem_cons.mpr ⟨(by show 0 < 30; omega), fun _ h => absurd h List.not_mem_nil⟩) (hts _ tk_12) rfl (hK.2 0 _ rfl).2 rfl rfl (by decide) rfl (by decide) (by decide) (by decide) (by omega) d_Md_init_245 ?_
  refine qk_put (j := 0) (ty := .array (.int)) (v := qr (some (30))) hx hb hts hin_12 ty_12 tyok_12 nm_12 hown hK (by omega) rfl q_s1 rfl 44 (by decide) (hts _ tw_672) (fun _ h => h) hin2 rfl (by decide +kernel) rfl rfl (Nat.le_of_ble_eq_true rfl) d_Md_init_247 ?_
  refine qj_ex (ex1 := [(0, .inr (12, [.int 0, .ref (b + 1), .int 0, .ref (b + 2), .int 0, .int 0, .ref (b + 3), .int 0, .ref (b + 4), .ref (b + 5), .ref (b + 6), .ref (b + 7), .ref (b + 8), .int 0, .ref (b + 9), .ref (b + 10), .int 0, .int 0, .ref (b + 11), .ref (b + 12), .int 0, .int 0, .int 0, .ref (b + 13), .ref (b + 14), .ref (b + 15), .ref (b + 16), .ref (b + 17), .ref (b + 18), .ref (b + 19), .ref (b + 20), .ref (b + 21), .int 0, .ref (b + 22), .ref (b + 23), .ref (b + 24), .ref (b + 25), .int 0, .int 0, .int 0, .ref (b + 26), .ref (b + 27), .ref (b + 28), .ref (b + 29), .ref (b + 30), .null, .null, .null, .null, .null, .null, .null, .int 0, .int 0, .int 0, .int 0, .int 0, .int 0]))]) (n1 := 31) (cs1 := 30) (sl1 := 2244) rfl rfl rfl rfl ?_
  refine qj_aload_n hx hb d_Md_init_250 rfl 0 rfl ?_
  refine qj_bipush (v := 40) hx hb d_Md_init_251 (by decide) ?_
  refine qk_newa (atype := .int) (ty := .int) (N' := 40) (cA := dA 0) hx hb (List.forall_mem_cons.mpr ⟨(by show 0 < 31; omega), fun _ h => absurd h List.not_mem_nil⟩) (hts _ tk_12) rfl (hK.2 0 _ rfl).2 rfl rfl (by decide) rfl (by decide) (by decide) (by decide) (by omega) d_Md_init_253 ?_
  refine qk_put (j := 0) (ty := .array (.int)) (v := qr (some (31))) hx hb hts hin_12 ty_12 tyok_12 nm_12 hown hK (by omega) rfl q_s1 rfl 45 (by decide) (hts _ tw_714) (fun _ h => h) hin2 rfl (by decide +kernel) rfl rfl (Nat.le_of_ble_eq_true rfl) d_Md_init_255 ?_
  refine qj_ex (ex1 := [(0, .inr (12, [.int 0, .ref (b + 1), .int 0, .ref (b + 2), .int 0, .int 0, .ref (b + 3), .int 0, .ref (b + 4), .ref (b + 5), .ref (b + 6), .ref (b + 7), .ref (b + 8), .int 0, .ref (b + 9), .ref (b + 10), .int 0, .int 0, .ref (b + 11), .ref (b + 12), .int 0, .int 0, .int 0, .ref (b + 13), .ref (b + 14), .ref (b + 15), .ref (b + 16), .ref (b + 17), .ref (b + 18), .ref (b + 19), .ref (b + 20), .ref (b + 21), .int 0, .ref (b + 22), .ref (b + 23), .ref (b + 24), .ref (b + 25), .int 0, .int 0, .int 0, .ref (b + 26), .ref (b + 27), .ref (b + 28), .ref (b + 29), .ref (b + 30), .ref (b + 31), .null, .null, .null, .null, .null, .null, .int 0, .int 0, .int 0, .int 0, .int 0, .int 0]))]) (n1 := 32) (cs1 := 31) (sl1 := 2284) rfl rfl rfl rfl ?_
  refine qj_aload_n hx hb d_Md_init_258 rfl 0 rfl ?_
  refine qj_bipush (v := 40) hx hb d_Md_init_259 (by decide) ?_
  refine qk_newa (atype := .int) (ty := .int) (N' := 40) (cA := dA 0) hx hb (List.forall_mem_cons.mpr ⟨(by show 0 < 32; omega), fun _ h => absurd h List.not_mem_nil⟩) (hts _ tk_12) rfl (hK.2 0 _ rfl).2 rfl rfl (by decide) rfl (by decide) (by decide) (by decide) (by omega) d_Md_init_261 ?_
  refine qk_put (j := 0) (ty := .array (.int)) (v := qr (some (32))) hx hb hts hin_12 ty_12 tyok_12 nm_12 hown hK (by omega) rfl q_s1 rfl 46 (by decide) (hts _ tw_713) (fun _ h => h) hin2 rfl (by decide +kernel) rfl rfl (Nat.le_of_ble_eq_true rfl) d_Md_init_263 ?_
  refine qj_ex (ex1 := [(0, .inr (12, [.int 0, .ref (b + 1), .int 0, .ref (b + 2), .int 0, .int 0, .ref (b + 3), .int 0, .ref (b + 4), .ref (b + 5), .ref (b + 6), .ref (b + 7), .ref (b + 8), .int 0, .ref (b + 9), .ref (b + 10), .int 0, .int 0, .ref (b + 11), .ref (b + 12), .int 0, .int 0, .int 0, .ref (b + 13), .ref (b + 14), .ref (b + 15), .ref (b + 16), .ref (b + 17), .ref (b + 18), .ref (b + 19), .ref (b + 20), .ref (b + 21), .int 0, .ref (b + 22), .ref (b + 23), .ref (b + 24), .ref (b + 25), .int 0, .int 0, .int 0, .ref (b + 26), .ref (b + 27), .ref (b + 28), .ref (b + 29), .ref (b + 30), .ref (b + 31), .ref (b + 32), .null, .null, .null, .null, .null, .int 0, .int 0, .int 0, .int 0, .int 0, .int 0]))]) (n1 := 33) (cs1 := 32) (sl1 := 2324) rfl rfl rfl rfl ?_
  refine qj_aload_n hx hb d_Md_init_266 rfl 0 rfl ?_
  refine qj_sipush (v := 160) hx hb d_Md_init_267 (by decide) ?_
  refine qk_newa (atype := .boolean) (ty := .boolean) (N' := 160) (cA := dA 2) hx hb (List.forall_mem_cons.mpr ⟨(by show 0 < 33; omega), fun _ h => absurd h List.not_mem_nil⟩) (hts _ tk_31) rfl (hK.2 2 _ rfl).2 rfl rfl (by decide) rfl (by decide) (by decide) (by decide) (by omega) d_Md_init_270 ?_
  refine qk_put (j := 0) (ty := .array (.boolean)) (v := qr (some (33))) hx hb hts hin_12 ty_12 tyok_12 nm_12 hown hK (by omega) rfl q_s1 rfl 47 (by decide) (hts _ tw_694) (fun _ h => h) hin2 rfl (by decide +kernel) rfl rfl (Nat.le_of_ble_eq_true rfl) d_Md_init_272 ?_
  refine qj_ex (ex1 := [(0, .inr (12, [.int 0, .ref (b + 1), .int 0, .ref (b + 2), .int 0, .int 0, .ref (b + 3), .int 0, .ref (b + 4), .ref (b + 5), .ref (b + 6), .ref (b + 7), .ref (b + 8), .int 0, .ref (b + 9), .ref (b + 10), .int 0, .int 0, .ref (b + 11), .ref (b + 12), .int 0, .int 0, .int 0, .ref (b + 13), .ref (b + 14), .ref (b + 15), .ref (b + 16), .ref (b + 17), .ref (b + 18), .ref (b + 19), .ref (b + 20), .ref (b + 21), .int 0, .ref (b + 22), .ref (b + 23), .ref (b + 24), .ref (b + 25), .int 0, .int 0, .int 0, .ref (b + 26), .ref (b + 27), .ref (b + 28), .ref (b + 29), .ref (b + 30), .ref (b + 31), .ref (b + 32), .ref (b + 33), .null, .null, .null, .null, .int 0, .int 0, .int 0, .int 0, .int 0, .int 0]))]) (n1 := 34) (cs1 := 33) (sl1 := 2484) rfl rfl rfl rfl ?_
  refine qj_aload_n hx hb d_Md_init_275 rfl 0 rfl ?_
  refine qj_sipush (v := 160) hx hb d_Md_init_276 (by decide) ?_
  refine qk_newa (atype := .int) (ty := .int) (N' := 160) (cA := dA 0) hx hb (List.forall_mem_cons.mpr ⟨(by show 0 < 34; omega), fun _ h => absurd h List.not_mem_nil⟩) (hts _ tk_12) rfl (hK.2 0 _ rfl).2 rfl rfl (by decide) rfl (by decide) (by decide) (by decide) (by omega) d_Md_init_279 ?_
  refine qk_put (j := 0) (ty := .array (.int)) (v := qr (some (34))) hx hb hts hin_12 ty_12 tyok_12 nm_12 hown hK (by omega) rfl q_s1 rfl 48 (by decide) (hts _ tw_696) (fun _ h => h) hin2 rfl (by decide +kernel) rfl rfl (Nat.le_of_ble_eq_true rfl) d_Md_init_281 ?_
  refine qj_ex (ex1 := [(0, .inr (12, [.int 0, .ref (b + 1), .int 0, .ref (b + 2), .int 0, .int 0, .ref (b + 3), .int 0, .ref (b + 4), .ref (b + 5), .ref (b + 6), .ref (b + 7), .ref (b + 8), .int 0, .ref (b + 9), .ref (b + 10), .int 0, .int 0, .ref (b + 11), .ref (b + 12), .int 0, .int 0, .int 0, .ref (b + 13), .ref (b + 14), .ref (b + 15), .ref (b + 16), .ref (b + 17), .ref (b + 18), .ref (b + 19), .ref (b + 20), .ref (b + 21), .int 0, .ref (b + 22), .ref (b + 23), .ref (b + 24), .ref (b + 25), .int 0, .int 0, .int 0, .ref (b + 26), .ref (b + 27), .ref (b + 28), .ref (b + 29), .ref (b + 30), .ref (b + 31), .ref (b + 32), .ref (b + 33), .ref (b + 34), .null, .null, .null, .int 0, .int 0, .int 0, .int 0, .int 0, .int 0]))]) (n1 := 35) (cs1 := 34) (sl1 := 2644) rfl rfl rfl rfl ?_
  refine qj_aload_n hx hb d_Md_init_284 rfl 0 rfl ?_
  refine qj_sipush (v := 160) hx hb d_Md_init_285 (by decide) ?_
  refine qk_newa (atype := .int) (ty := .int) (N' := 160) (cA := dA 0) hx hb (List.forall_mem_cons.mpr ⟨(by show 0 < 35; omega), fun _ h => absurd h List.not_mem_nil⟩) (hts _ tk_12) rfl (hK.2 0 _ rfl).2 rfl rfl (by decide) rfl (by decide) (by decide) (by decide) (by omega) d_Md_init_288 ?_
  refine qk_put (j := 0) (ty := .array (.int)) (v := qr (some (35))) hx hb hts hin_12 ty_12 tyok_12 nm_12 hown hK (by omega) rfl q_s1 rfl 49 (by decide) (hts _ tw_683) (fun _ h => h) hin2 rfl (by decide +kernel) rfl rfl (Nat.le_of_ble_eq_true rfl) d_Md_init_290 ?_
  refine qj_ex (ex1 := [(0, .inr (12, [.int 0, .ref (b + 1), .int 0, .ref (b + 2), .int 0, .int 0, .ref (b + 3), .int 0, .ref (b + 4), .ref (b + 5), .ref (b + 6), .ref (b + 7), .ref (b + 8), .int 0, .ref (b + 9), .ref (b + 10), .int 0, .int 0, .ref (b + 11), .ref (b + 12), .int 0, .int 0, .int 0, .ref (b + 13), .ref (b + 14), .ref (b + 15), .ref (b + 16), .ref (b + 17), .ref (b + 18), .ref (b + 19), .ref (b + 20), .ref (b + 21), .int 0, .ref (b + 22), .ref (b + 23), .ref (b + 24), .ref (b + 25), .int 0, .int 0, .int 0, .ref (b + 26), .ref (b + 27), .ref (b + 28), .ref (b + 29), .ref (b + 30), .ref (b + 31), .ref (b + 32), .ref (b + 33), .ref (b + 34), .ref (b + 35), .null, .null, .int 0, .int 0, .int 0, .int 0, .int 0, .int 0]))]) (n1 := 36) (cs1 := 35) (sl1 := 2804) rfl rfl rfl rfl ?_
  refine qj_aload_n hx hb d_Md_init_293 rfl 0 rfl ?_
  refine qj_sipush (v := 160) hx hb d_Md_init_294 (by decide) ?_
  refine qk_newa (atype := .int) (ty := .int) (N' := 160) (cA := dA 0) hx hb (List.forall_mem_cons.mpr ⟨(by show 0 < 36; omega), fun _ h => absurd h List.not_mem_nil⟩) (hts _ tk_12) rfl (hK.2 0 _ rfl).2 rfl rfl (by decide) rfl (by decide) (by decide) (by decide) (by omega) d_Md_init_297 ?_
  refine qk_put (j := 0) (ty := .array (.int)) (v := qr (some (36))) hx hb hts hin_12 ty_12 tyok_12 nm_12 hown hK (by omega) rfl q_s1 rfl 50 (by decide) (hts _ tw_695) (fun _ h => h) hin2 rfl (by decide +kernel) rfl rfl (Nat.le_of_ble_eq_true rfl) d_Md_init_299 ?_
  refine qj_ex (ex1 := [(0, .inr (12, [.int 0, .ref (b + 1), .int 0, .ref (b + 2), .int 0, .int 0, .ref (b + 3), .int 0, .ref (b + 4), .ref (b + 5), .ref (b + 6), .ref (b + 7), .ref (b + 8), .int 0, .ref (b + 9), .ref (b + 10), .int 0, .int 0, .ref (b + 11), .ref (b + 12), .int 0, .int 0, .int 0, .ref (b + 13), .ref (b + 14), .ref (b + 15), .ref (b + 16), .ref (b + 17), .ref (b + 18), .ref (b + 19), .ref (b + 20), .ref (b + 21), .int 0, .ref (b + 22), .ref (b + 23), .ref (b + 24), .ref (b + 25), .int 0, .int 0, .int 0, .ref (b + 26), .ref (b + 27), .ref (b + 28), .ref (b + 29), .ref (b + 30), .ref (b + 31), .ref (b + 32), .ref (b + 33), .ref (b + 34), .ref (b + 35), .ref (b + 36), .null, .int 0, .int 0, .int 0, .int 0, .int 0, .int 0]))]) (n1 := 37) (cs1 := 36) (sl1 := 2964) rfl rfl rfl rfl ?_
  refine qj_aload_n hx hb d_Md_init_302 rfl 0 rfl ?_
  refine qj_sipush (v := 200) hx hb d_Md_init_303 (by decide) ?_
  refine qk_newa (atype := .int) (ty := .int) (N' := 200) (cA := dA 0) hx hb (List.forall_mem_cons.mpr ⟨(by show 0 < 37; omega), fun _ h => absurd h List.not_mem_nil⟩) (hts _ tk_12) rfl (hK.2 0 _ rfl).2 rfl rfl (by decide) rfl (by decide) (by decide) (by decide) (by omega) d_Md_init_306 ?_
  refine qk_put (j := 0) (ty := .array (.int)) (v := qr (some (37))) hx hb hts hin_12 ty_12 tyok_12 nm_12 hown hK (by omega) rfl q_s1 rfl 51 (by decide) (hts _ tw_678) (fun _ h => h) hin2 rfl (by decide +kernel) rfl rfl (Nat.le_of_ble_eq_true rfl) d_Md_init_308 ?_
  refine qj_ex (ex1 := [(0, .inr (12, [.int 0, .ref (b + 1), .int 0, .ref (b + 2), .int 0, .int 0, .ref (b + 3), .int 0, .ref (b + 4), .ref (b + 5), .ref (b + 6), .ref (b + 7), .ref (b + 8), .int 0, .ref (b + 9), .ref (b + 10), .int 0, .int 0, .ref (b + 11), .ref (b + 12), .int 0, .int 0, .int 0, .ref (b + 13), .ref (b + 14), .ref (b + 15), .ref (b + 16), .ref (b + 17), .ref (b + 18), .ref (b + 19), .ref (b + 20), .ref (b + 21), .int 0, .ref (b + 22), .ref (b + 23), .ref (b + 24), .ref (b + 25), .int 0, .int 0, .int 0, .ref (b + 26), .ref (b + 27), .ref (b + 28), .ref (b + 29), .ref (b + 30), .ref (b + 31), .ref (b + 32), .ref (b + 33), .ref (b + 34), .ref (b + 35), .ref (b + 36), .ref (b + 37), .int 0, .int 0, .int 0, .int 0, .int 0, .int 0]))]) (n1 := 38) (cs1 := 37) (sl1 := 3164) rfl rfl rfl rfl ?_
  refine qj_aload_n hx hb d_Md_init_311 rfl 0 rfl ?_
  refine qk_callV (X := fun _ => True) hx hb hml hown hts hK qT_ok trivial hsz (by decide) (c_Md_reset qM0 M1 hf) ⟨(callB_of 0 hts (q_good tw_574) rfl rfl rfl (hts _ tw_459) (hts _ tw_575) (by decide +kernel) ⟨by decide, by decide⟩), (hts _ tw_576), (hts _ tw_577)⟩ rfl rfl (fun H h => qk_wd (qk_done h rfl)) (by decide) (by decide) d_Md_init_312 ?_
  exact hret _ _ _ _ d_Md_init_315 (fun H h => h)
