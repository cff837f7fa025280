theorem d_Layout_layBox_0 : decode prog_4_method_3_code 0 = .ok (.iload 5, 2) := by decide +kernel
theorem d_Layout_layBox_2 : decode prog_4_method_3_code 2 = .ok (.bipush 24, 2) := by decide +kernel
theorem d_Layout_layBox_4 : decode prog_4_method_3_code 4 = .ok (.if_icmp .le 4, 3) := by decide +kernel
theorem d_Layout_layBox_7 : decode prog_4_method_3_code 7 = .ok (.return_, 1) := by decide +kernel
theorem d_Layout_layBox_8 : decode prog_4_method_3_code 8 = .ok (.aload_n 1, 1) := by decide +kernel
theorem d_Layout_layBox_9 : decode prog_4_method_3_code 9 = .ok (.getfield 34, 3) := by decide +kernel
theorem d_Layout_layBox_12 : decode prog_4_method_3_code 12 = .ok (.astore 6, 2) := by decide +kernel
theorem d_Layout_layBox_14 : decode prog_4_method_3_code 14 = .ok (.aload_n 1, 1) := by decide +kernel
theorem d_Layout_layBox_15 : decode prog_4_method_3_code 15 = .ok (.getfield 66, 3) := by decide +kernel
theorem d_Layout_layBox_18 : decode prog_4_method_3_code 18 = .ok (.iconst 4, 1) := by decide +kernel
theorem d_Layout_layBox_19 : decode prog_4_method_3_code 19 = .ok (.iaload, 1) := by decide +kernel
theorem d_Layout_layBox_20 : decode prog_4_method_3_code 20 = .ok (.istore 7, 2) := by decide +kernel
theorem d_Layout_layBox_22 : decode prog_4_method_3_code 22 = .ok (.aload_n 1, 1) := by decide +kernel
theorem d_Layout_layBox_23 : decode prog_4_method_3_code 23 = .ok (.getfield 66, 3) := by decide +kernel
theorem d_Layout_layBox_26 : decode prog_4_method_3_code 26 = .ok (.iconst 5, 1) := by decide +kernel
theorem d_Layout_layBox_27 : decode prog_4_method_3_code 27 = .ok (.iaload, 1) := by decide +kernel
theorem d_Layout_layBox_28 : decode prog_4_method_3_code 28 = .ok (.istore 8, 2) := by decide +kernel
theorem d_Layout_layBox_30 : decode prog_4_method_3_code 30 = .ok (.aload_n 1, 1) := by decide +kernel
theorem d_Layout_layBox_31 : decode prog_4_method_3_code 31 = .ok (.getfield 66, 3) := by decide +kernel
theorem d_Layout_layBox_34 : decode prog_4_method_3_code 34 = .ok (.bipush 6, 2) := by decide +kernel
theorem d_Layout_layBox_36 : decode prog_4_method_3_code 36 = .ok (.iaload, 1) := by decide +kernel
theorem d_Layout_layBox_37 : decode prog_4_method_3_code 37 = .ok (.istore 9, 2) := by decide +kernel
theorem d_Layout_layBox_39 : decode prog_4_method_3_code 39 = .ok (.aload 6, 2) := by decide +kernel
theorem d_Layout_layBox_41 : decode prog_4_method_3_code 41 = .ok (.iconst 1, 1) := by decide +kernel
theorem d_Layout_layBox_42 : decode prog_4_method_3_code 42 = .ok (.putfield 40, 3) := by decide +kernel
theorem d_Layout_layBox_45 : decode prog_4_method_3_code 45 = .ok (.aload 6, 2) := by decide +kernel
theorem d_Layout_layBox_47 : decode prog_4_method_3_code 47 = .ok (.iload_n 2, 1) := by decide +kernel
theorem d_Layout_layBox_48 : decode prog_4_method_3_code 48 = .ok (.iload 7, 2) := by decide +kernel
theorem d_Layout_layBox_50 : decode prog_4_method_3_code 50 = .ok (.iadd, 1) := by decide +kernel
theorem d_Layout_layBox_51 : decode prog_4_method_3_code 51 = .ok (.putfield 70, 3) := by decide +kernel
theorem d_Layout_layBox_54 : decode prog_4_method_3_code 54 = .ok (.aload 6, 2) := by decide +kernel
theorem d_Layout_layBox_56 : decode prog_4_method_3_code 56 = .ok (.iload_n 3, 1) := by decide +kernel
theorem d_Layout_layBox_57 : decode prog_4_method_3_code 57 = .ok (.putfield 73, 3) := by decide +kernel
theorem d_Layout_layBox_60 : decode prog_4_method_3_code 60 = .ok (.aload 6, 2) := by decide +kernel
theorem d_Layout_layBox_62 : decode prog_4_method_3_code 62 = .ok (.aload 6, 2) := by decide +kernel
theorem d_Layout_layBox_64 : decode prog_4_method_3_code 64 = .ok (.getfield 70, 3) := by decide +kernel
theorem d_Layout_layBox_67 : decode prog_4_method_3_code 67 = .ok (.iload 8, 2) := by decide +kernel
theorem d_Layout_layBox_69 : decode prog_4_method_3_code 69 = .ok (.iadd, 1) := by decide +kernel
theorem d_Layout_layBox_70 : decode prog_4_method_3_code 70 = .ok (.putfield 76, 3) := by decide +kernel
theorem d_Layout_layBox_73 : decode prog_4_method_3_code 73 = .ok (.aload 6, 2) := by decide +kernel
theorem d_Layout_layBox_75 : decode prog_4_method_3_code 75 = .ok (.iload_n 3, 1) := by decide +kernel
theorem d_Layout_layBox_76 : decode prog_4_method_3_code 76 = .ok (.iload 8, 2) := by decide +kernel
theorem d_Layout_layBox_78 : decode prog_4_method_3_code 78 = .ok (.iadd, 1) := by decide +kernel
theorem d_Layout_layBox_79 : decode prog_4_method_3_code 79 = .ok (.putfield 79, 3) := by decide +kernel
theorem d_Layout_layBox_82 : decode prog_4_method_3_code 82 = .ok (.aload 6, 2) := by decide +kernel
theorem d_Layout_layBox_84 : decode prog_4_method_3_code 84 = .ok (.iload 9, 2) := by decide +kernel
theorem d_Layout_layBox_86 : decode prog_4_method_3_code 86 = .ok (.iconst (-1), 1) := by decide +kernel
theorem d_Layout_layBox_87 : decode prog_4_method_3_code 87 = .ok (.if_icmp .eq 8, 3) := by decide +kernel
theorem d_Layout_layBox_90 : decode prog_4_method_3_code 90 = .ok (.iload 9, 2) := by decide +kernel
theorem d_Layout_layBox_92 : decode prog_4_method_3_code 92 = .ok (.goto 19, 3) := by decide +kernel
theorem d_Layout_layBox_95 : decode prog_4_method_3_code 95 = .ok (.iconst 0, 1) := by decide +kernel
theorem d_Layout_layBox_96 : decode prog_4_method_3_code 96 = .ok (.iload 4, 2) := by decide +kernel
theorem d_Layout_layBox_98 : decode prog_4_method_3_code 98 = .ok (.iconst 2, 1) := by decide +kernel
theorem d_Layout_layBox_99 : decode prog_4_method_3_code 99 = .ok (.iload 7, 2) := by decide +kernel
theorem d_Layout_layBox_101 : decode prog_4_method_3_code 101 = .ok (.imul, 1) := by decide +kernel
theorem d_Layout_layBox_102 : decode prog_4_method_3_code 102 = .ok (.isub, 1) := by decide +kernel
theorem d_Layout_layBox_103 : decode prog_4_method_3_code 103 = .ok (.iconst 2, 1) := by decide +kernel
theorem d_Layout_layBox_104 : decode prog_4_method_3_code 104 = .ok (.iload 8, 2) := by decide +kernel
theorem d_Layout_layBox_106 : decode prog_4_method_3_code 106 = .ok (.imul, 1) := by decide +kernel
theorem d_Layout_layBox_107 : decode prog_4_method_3_code 107 = .ok (.isub, 1) := by decide +kernel
theorem d_Layout_layBox_108 : decode prog_4_method_3_code 108 = .ok (.invokestatic 82, 3) := by decide +kernel
theorem d_Layout_layBox_111 : decode prog_4_method_3_code 111 = .ok (.putfield 88, 3) := by decide +kernel
theorem d_Layout_layBox_114 : decode prog_4_method_3_code 114 = .ok (.aload 6, 2) := by decide +kernel
theorem d_Layout_layBox_116 : decode prog_4_method_3_code 116 = .ok (.aload 6, 2) := by decide +kernel
theorem d_Layout_layBox_118 : decode prog_4_method_3_code 118 = .ok (.getfield 88, 3) := by decide +kernel
theorem d_Layout_layBox_121 : decode prog_4_method_3_code 121 = .ok (.iconst 2, 1) := by decide +kernel
theorem d_Layout_layBox_122 : decode prog_4_method_3_code 122 = .ok (.iload 8, 2) := by decide +kernel
theorem d_Layout_layBox_124 : decode prog_4_method_3_code 124 = .ok (.imul, 1) := by decide +kernel
theorem d_Layout_layBox_125 : decode prog_4_method_3_code 125 = .ok (.iadd, 1) := by decide +kernel
theorem d_Layout_layBox_126 : decode prog_4_method_3_code 126 = .ok (.putfield 91, 3) := by decide +kernel
theorem d_Layout_layBox_129 : decode prog_4_method_3_code 129 = .ok (.aload 6, 2) := by decide +kernel
theorem d_Layout_layBox_131 : decode prog_4_method_3_code 131 = .ok (.aload 6, 2) := by decide +kernel
theorem d_Layout_layBox_133 : decode prog_4_method_3_code 133 = .ok (.getfield 79, 3) := by decide +kernel
theorem d_Layout_layBox_136 : decode prog_4_method_3_code 136 = .ok (.putfield 92, 3) := by decide +kernel
theorem d_Layout_layBox_139 : decode prog_4_method_3_code 139 = .ok (.aload 6, 2) := by decide +kernel
theorem d_Layout_layBox_141 : decode prog_4_method_3_code 141 = .ok (.iconst 0, 1) := by decide +kernel
theorem d_Layout_layBox_142 : decode prog_4_method_3_code 142 = .ok (.putfield 95, 3) := by decide +kernel
theorem d_Layout_layBox_145 : decode prog_4_method_3_code 145 = .ok (.aload_n 1, 1) := by decide +kernel
theorem d_Layout_layBox_146 : decode prog_4_method_3_code 146 = .ok (.getfield 98, 3) := by decide +kernel
theorem d_Layout_layBox_149 : decode prog_4_method_3_code 149 = .ok (.bipush 104, 2) := by decide +kernel
theorem d_Layout_layBox_151 : decode prog_4_method_3_code 151 = .ok (.if_icmp .ne 17, 3) := by decide +kernel
theorem d_Layout_layBox_154 : decode prog_4_method_3_code 154 = .ok (.aload 6, 2) := by decide +kernel
theorem d_Layout_layBox_156 : decode prog_4_method_3_code 156 = .ok (.dup, 1) := by decide +kernel
theorem d_Layout_layBox_157 : decode prog_4_method_3_code 157 = .ok (.getfield 92, 3) := by decide +kernel
theorem d_Layout_layBox_160 : decode prog_4_method_3_code 160 = .ok (.iconst 1, 1) := by decide +kernel
theorem d_Layout_layBox_161 : decode prog_4_method_3_code 161 = .ok (.iadd, 1) := by decide +kernel
theorem d_Layout_layBox_162 : decode prog_4_method_3_code 162 = .ok (.putfield 92, 3) := by decide +kernel
theorem d_Layout_layBox_165 : decode prog_4_method_3_code 165 = .ok (.goto 59, 3) := by decide +kernel
theorem d_Layout_layBox_168 : decode prog_4_method_3_code 168 = .ok (.aload_n 1, 1) := by decide +kernel
theorem d_Layout_layBox_169 : decode prog_4_method_3_code 169 = .ok (.getfield 98, 3) := by decide +kernel
theorem d_Layout_layBox_172 : decode prog_4_method_3_code 172 = .ok (.bipush 114, 2) := by decide +kernel
theorem d_Layout_layBox_174 : decode prog_4_method_3_code 174 = .ok (.if_icmp .ne 23, 3) := by decide +kernel
theorem d_Layout_layBox_177 : decode prog_4_method_3_code 177 = .ok (.aload 6, 2) := by decide +kernel
theorem d_Layout_layBox_179 : decode prog_4_method_3_code 179 = .ok (.dup, 1) := by decide +kernel
theorem d_Layout_layBox_180 : decode prog_4_method_3_code 180 = .ok (.getfield 92, 3) := by decide +kernel
theorem d_Layout_layBox_183 : decode prog_4_method_3_code 183 = .ok (.aload_n 0, 1) := by decide +kernel
theorem d_Layout_layBox_184 : decode prog_4_method_3_code 184 = .ok (.aload_n 1, 1) := by decide +kernel
theorem d_Layout_layBox_185 : decode prog_4_method_3_code 185 = .ok (.iload 5, 2) := by decide +kernel
theorem d_Layout_layBox_187 : decode prog_4_method_3_code 187 = .ok (.invokevirtual 101, 3) := by decide +kernel
theorem d_Layout_layBox_190 : decode prog_4_method_3_code 190 = .ok (.iadd, 1) := by decide +kernel
theorem d_Layout_layBox_191 : decode prog_4_method_3_code 191 = .ok (.putfield 92, 3) := by decide +kernel
theorem d_Layout_layBox_194 : decode prog_4_method_3_code 194 = .ok (.goto 30, 3) := by decide +kernel
theorem d_Layout_layBox_197 : decode prog_4_method_3_code 197 = .ok (.aload_n 0, 1) := by decide +kernel
theorem d_Layout_layBox_198 : decode prog_4_method_3_code 198 = .ok (.getfield 12, 3) := by decide +kernel
theorem d_Layout_layBox_201 : decode prog_4_method_3_code 201 = .ok (.aload 6, 2) := by decide +kernel
theorem d_Layout_layBox_203 : decode prog_4_method_3_code 203 = .ok (.invokevirtual 105, 3) := by decide +kernel
theorem d_Layout_layBox_206 : decode prog_4_method_3_code 206 = .ok (.aload_n 0, 1) := by decide +kernel
theorem d_Layout_layBox_207 : decode prog_4_method_3_code 207 = .ok (.aload_n 1, 1) := by decide +kernel
theorem d_Layout_layBox_208 : decode prog_4_method_3_code 208 = .ok (.aload 6, 2) := by decide +kernel
theorem d_Layout_layBox_210 : decode prog_4_method_3_code 210 = .ok (.iload 5, 2) := by decide +kernel
theorem d_Layout_layBox_212 : decode prog_4_method_3_code 212 = .ok (.invokevirtual 109, 3) := by decide +kernel
theorem d_Layout_layBox_215 : decode prog_4_method_3_code 215 = .ok (.aload_n 0, 1) := by decide +kernel
theorem d_Layout_layBox_216 : decode prog_4_method_3_code 216 = .ok (.getfield 12, 3) := by decide +kernel
theorem d_Layout_layBox_219 : decode prog_4_method_3_code 219 = .ok (.aload 6, 2) := by decide +kernel
theorem d_Layout_layBox_221 : decode prog_4_method_3_code 221 = .ok (.invokevirtual 113, 3) := by decide +kernel
theorem d_Layout_layBox_224 : decode prog_4_method_3_code 224 = .ok (.aload 6, 2) := by decide +kernel
theorem d_Layout_layBox_226 : decode prog_4_method_3_code 226 = .ok (.aload 6, 2) := by decide +kernel
theorem d_Layout_layBox_228 : decode prog_4_method_3_code 228 = .ok (.getfield 92, 3) := by decide +kernel
theorem d_Layout_layBox_231 : decode prog_4_method_3_code 231 = .ok (.aload 6, 2) := by decide +kernel
theorem d_Layout_layBox_233 : decode prog_4_method_3_code 233 = .ok (.getfield 95, 3) := by decide +kernel
theorem d_Layout_layBox_236 : decode prog_4_method_3_code 236 = .ok (.iadd, 1) := by decide +kernel
theorem d_Layout_layBox_237 : decode prog_4_method_3_code 237 = .ok (.aload 6, 2) := by decide +kernel
theorem d_Layout_layBox_239 : decode prog_4_method_3_code 239 = .ok (.getfield 79, 3) := by decide +kernel
theorem d_Layout_layBox_242 : decode prog_4_method_3_code 242 = .ok (.isub, 1) := by decide +kernel
theorem d_Layout_layBox_243 : decode prog_4_method_3_code 243 = .ok (.iconst 2, 1) := by decide +kernel
theorem d_Layout_layBox_244 : decode prog_4_method_3_code 244 = .ok (.iload 8, 2) := by decide +kernel
theorem d_Layout_layBox_246 : decode prog_4_method_3_code 246 = .ok (.imul, 1) := by decide +kernel
theorem d_Layout_layBox_247 : decode prog_4_method_3_code 247 = .ok (.iadd, 1) := by decide +kernel
theorem d_Layout_layBox_248 : decode prog_4_method_3_code 248 = .ok (.putfield 116, 3) := by decide +kernel
theorem d_Layout_layBox_251 : decode prog_4_method_3_code 251 = .ok (.return_, 1) := by decide +kernel
def f_Layout_layBox : Nat → Nat → Int32 → Int32 → Int32 → Int32 → qM → Option qM
  | 0, _, _, _, _, _, _ => none
  | d + 1, q1, a2, a3, a4, a5, M => q_lt (f_Layout_layBox d) fun (FR : Nat → Int32 → Int32 → Int32 → Int32 → qM → Option qM) => if a5 ≤ 24 then (q_ix (4 : Int32) 7 <| q_lt (M.1 (q1 + 3) (4 : Int32).toNatClampNeg) fun x3 => q_ix (5 : Int32) 7 <| q_lt (M.1 (q1 + 3) (5 : Int32).toNatClampNeg) fun x5 => q_ix (6 : Int32) 7 <| q_lt (M.1 (q1 + 3) (6 : Int32).toNatClampNeg) fun x7 => q_lt (qsI M (q1 + 4) 0 1) fun M8 => q_lt (qsI M8 (q1 + 4) 1 (a2 + x3)) fun M9 => q_lt (qsI M9 (q1 + 4) 2 a3) fun M10 => q_lt (qsI M10 (q1 + 4) 5 ((M10.1 (q1 + 4) 1) + x5)) fun M11 => q_lt (qsI M11 (q1 + 4) 6 (a3 + x5)) fun M12 => q_lt (fun (x13 : Int32) => q_lt (qsI M12 (q1 + 4) 7 x13) fun M14 => q_lt (qsI M14 (q1 + 4) 3 ((M14.1 (q1 + 4) 7) + (2 * x5))) fun M15 => q_lt (qsI M15 (q1 + 4) 8 (M15.1 (q1 + 4) 6)) fun M16 => q_lt (qsI M16 (q1 + 4) 9 0) fun M17 => q_lt (fun (M18 : qM) => q_lt (qsI M18 (q1 + 4) 4 ((((M18.1 (q1 + 4) 8) + (M18.1 (q1 + 4) 9)) - (M18.1 (q1 + 4) 6)) + (2 * x5))) fun M19 => some M19) fun (j20 : qM → Option qM) => if (M17.1 q1 0) = 104 then (q_lt (qsI M17 (q1 + 4) 8 ((M17.1 (q1 + 4) 8) + 1)) fun M29 => j20 M29) else (if (M17.1 q1 0) = 114 then (q_cl (f_Layout_layCells FR q1 a5 M17) fun x26 M27 => q_lt (qsI M27 (q1 + 4) 8 ((M17.1 (q1 + 4) 8) + x26)) fun M28 => j20 M28) else (q_cv (f_Run_beginIn (q1 + 4) M17) fun M23 => q_cv (f_Layout_layItems FR 27 q1 (q1 + 4) a5 M23) fun M24 => q_cv (f_Run_endIn (q1 + 4) M24) fun M25 => j20 M25))) fun (j30 : Int32 → Option qM) => if x7 = (-1) then (j30 (if 0 < ((a4 - (2 * x3)) - (2 * x5)) then (a4 - (2 * x3)) - (2 * x5) else 0)) else (j30 x7)) else (some M)
abbrev rm_Layout_layBox (d : Nat) : Room := { frames := 10 + 40 * d, cells := 0, slots := 0, locals := 200 + 1200 * d }
set_option maxRecDepth 100000 in
set_option maxHeartbeats 4000000 in
theorem c_Layout_layBox {l : Launch} {D : va_G} {dA : Nat → ClassId} {b : Nat} {adK adV : Nat → Nat} (d : Nat) : ∀ (q1 : Nat) (a2 : Int32) (a3 : Int32) (a4 : Int32) (a5 : Int32) (tq1 : tcX q1 = 7) (M : qM) (out : qM), f_Layout_layBox d q1 a2 a3 a4 a5 M = some out → CTv l y_Layout_layBox w_Layout_layBox (rm_Layout_layBox d) D (tysX dA) (enX dA b) 367 b (qX adK adV 367 b) [qr (some 364), qr (some q1), qi a2, qi a3, qi a4, qi a5] M out := by
  induction d with
  | zero =>
    intro q1 a2 a3 a4 a5 tq1 M out hf
    exact absurd hf (by simp [f_Layout_layBox])
  | succ d ihd =>
    intro q1 a2 a3 a4 a5 tq1 M out hf
    rw [f_Layout_layBox] at hf
    have hf9 := q_lt_s hf; clear hf; obtain ⟨FR, eFR, hf⟩ := hf9
    have hFR : ∀ (q1 : Nat) (a2 : Int32) (a3 : Int32) (a4 : Int32) (a5 : Int32) (tq1 : tcX q1 = 7) (M : qM) (out : qM), FR q1 a2 a3 a4 a5 M = some out → CTv l y_Layout_layBox w_Layout_layBox (rm_Layout_layBox d) D (tysX dA) (enX dA b) 367 b (qX adK adV 367 b) [qr (some 364), qr (some q1), qi a2, qi a3, qi a4, qi a5] M out := by rw [eFR]; exact ihd
    refine qm_v (cc := prog_4_method_3_code) (nL := 10) (by decide) rfl (Nat.le_of_ble_eq_true rfl) ?_
    intro p e s m args below meth c Q hx hb hts0 hown hml hK hs hret
    have hts : ∀ w ∈ lw_g, w.before args s = true := fun w h => hts0 w (List.mem_cons_of_mem _ h)
    show QJ p l e (rm_Layout_layBox (d + 1)) s m args below meth c (qA 367 b) b 10 0 0 Q (qWd D (enX dA b) 367 b) M 0 [(0, qr (some 364)), (1, qr (some q1)), (2, qi a2), (3, qi a3), (4, qi a4), (5, qi a5)] []
    refine qj_iload hx hb d_Layout_layBox_0 5 rfl ?_
    refine qj_bipush (v := 24) hx hb d_Layout_layBox_2 (by decide) ?_
    refine qj_icmp_le (tgt := 8) hx hb d_Layout_layBox_4 (by decide) (fun hc1 => ?_) (fun hc1 => ?_)
    · replace hf := q_if_t hc1 hf
      refine qj_aload_n hx hb d_Layout_layBox_8 rfl 1 rfl ?_
      refine qj_get hx hb hts hin_3 hown hK (q_in tq1 (by decide)) (en_7 tq1) rfl 13 (by decide) (hts _ tw_428) (fun _ h => h) (qr (some (q1 + 4))) rfl d_Layout_layBox_9 ?_
      refine qj_astore hx hb d_Layout_layBox_12 (by decide) rfl ?_
      refine qj_aload_n hx hb d_Layout_layBox_14 rfl 2 rfl ?_
      refine qj_get hx hb hts hin_3 hown hK (q_in tq1 (by decide)) (en_7 tq1) rfl 12 (by decide) (hts _ tw_367) (fun _ h => h) (qr (some (q1 + 3))) rfl d_Layout_layBox_15 ?_
      refine qj_iconst (v := 4) hx hb d_Layout_layBox_18 (by decide) ?_
      have hf9 := q_ix_s hf; clear hf; obtain ⟨hi2, hf⟩ := hf9
      refine qj_iald (t0 := 0) hx hb hK (q_in (tc_7_3 tq1) (by decide)) (en_10 (tc_7_3 tq1)) rfl hi2 d_Layout_layBox_19 ?_
      have hf9 := q_lt_s hf; clear hf; obtain ⟨x3, ex3, hf⟩ := hf9
      rw [← ex3]
      refine qj_istore hx hb d_Layout_layBox_20 (by decide) rfl ?_
      refine qj_aload_n hx hb d_Layout_layBox_22 rfl 3 rfl ?_
      refine qj_get hx hb hts hin_3 hown hK (q_in tq1 (by decide)) (en_7 tq1) rfl 12 (by decide) (hts _ tw_367) (fun _ h => h) (qr (some (q1 + 3))) rfl d_Layout_layBox_23 ?_
      refine qj_iconst (v := 5) hx hb d_Layout_layBox_26 (by decide) ?_
      have hf9 := q_ix_s hf; clear hf; obtain ⟨hi4, hf⟩ := hf9
      refine qj_iald (t0 := 0) hx hb hK (q_in (tc_7_3 tq1) (by decide)) (en_10 (tc_7_3 tq1)) rfl hi4 d_Layout_layBox_27 ?_
      have hf9 := q_lt_s hf; clear hf; obtain ⟨x5, ex5, hf⟩ := hf9
      rw [← ex5]
      refine qj_istore hx hb d_Layout_layBox_28 (by decide) rfl ?_
      refine qj_aload_n hx hb d_Layout_layBox_30 rfl 4 rfl ?_
      refine qj_get hx hb hts hin_3 hown hK (q_in tq1 (by decide)) (en_7 tq1) rfl 12 (by decide) (hts _ tw_367) (fun _ h => h) (qr (some (q1 + 3))) rfl d_Layout_layBox_31 ?_
      refine qj_bipush (v := 6) hx hb d_Layout_layBox_34 (by decide) ?_
      have hf9 := q_ix_s hf; clear hf; obtain ⟨hi6, hf⟩ := hf9
      refine qj_iald (t0 := 0) hx hb hK (q_in (tc_7_3 tq1) (by decide)) (en_10 (tc_7_3 tq1)) rfl hi6 d_Layout_layBox_36 ?_
      have hf9 := q_lt_s hf; clear hf; obtain ⟨x7, ex7, hf⟩ := hf9
      rw [← ex7]
      refine qj_istore hx hb d_Layout_layBox_37 (by decide) rfl ?_
      refine qj_aload hx hb d_Layout_layBox_39 3 rfl ?_
      refine qj_iconst (v := 1) hx hb d_Layout_layBox_41 (by decide) ?_
      have hf9 := q_lt_s hf; clear hf; obtain ⟨M8, eM8, hf⟩ := hf9
      refine qj_puti (ty := .boolean) hx hb hts hin_0 ty_0 tyok_0 nm_0 hown hK (q_in (tc_7_4 tq1) (by decide)) (en_11 (tc_7_4 tq1)) rfl 0 (by decide) (hts _ tw_429) (fun _ h => h) rfl (by decide +kernel) rfl rfl (Nat.le_of_ble_eq_true rfl) (sp_11_0 (tc_7_4 tq1)) eM8 d_Layout_layBox_42 ?_
      refine qj_aload hx hb d_Layout_layBox_45 3 rfl ?_
      refine qj_iload_n hx hb d_Layout_layBox_47 rfl 6 rfl ?_
      refine qj_iload hx hb d_Layout_layBox_48 2 rfl ?_
      refine qj_iadd hx hb d_Layout_layBox_50 ?_
      have hf9 := q_lt_s hf; clear hf; obtain ⟨M9, eM9, hf⟩ := hf9
      refine qj_puti (ty := .int) hx hb hts hin_0 ty_0 tyok_0 nm_0 hown hK (q_in (tc_7_4 tq1) (by decide)) (en_11 (tc_7_4 tq1)) rfl 1 (by decide) (hts _ tw_418) (fun _ h => h) rfl (by decide +kernel) rfl rfl (Nat.le_of_ble_eq_true rfl) (sp_11_1 (tc_7_4 tq1)) eM9 d_Layout_layBox_51 ?_
      refine qj_aload hx hb d_Layout_layBox_54 3 rfl ?_
      refine qj_iload_n hx hb d_Layout_layBox_56 rfl 7 rfl ?_
      have hf9 := q_lt_s hf; clear hf; obtain ⟨M10, eM10, hf⟩ := hf9
      refine qj_puti (ty := .int) hx hb hts hin_0 ty_0 tyok_0 nm_0 hown hK (q_in (tc_7_4 tq1) (by decide)) (en_11 (tc_7_4 tq1)) rfl 2 (by decide) (hts _ tw_420) (fun _ h => h) rfl (by decide +kernel) rfl rfl (Nat.le_of_ble_eq_true rfl) (sp_11_2 (tc_7_4 tq1)) eM10 d_Layout_layBox_57 ?_
      refine qj_aload hx hb d_Layout_layBox_60 3 rfl ?_
      refine qj_aload hx hb d_Layout_layBox_62 3 rfl ?_
      refine qj_get hx hb hts hin_0 hown hK (q_in (tc_7_4 tq1) (by decide)) (en_11 (tc_7_4 tq1)) rfl 1 (by decide) (hts _ tw_418) (fun _ h => h) (qi (M10.1 (q1 + 4) 1)) rfl d_Layout_layBox_64 ?_
      refine qj_iload hx hb d_Layout_layBox_67 1 rfl ?_
      refine qj_iadd hx hb d_Layout_layBox_69 ?_
      have hf9 := q_lt_s hf; clear hf; obtain ⟨M11, eM11, hf⟩ := hf9
      refine qj_puti (ty := .int) hx hb hts hin_0 ty_0 tyok_0 nm_0 hown hK (q_in (tc_7_4 tq1) (by decide)) (en_11 (tc_7_4 tq1)) rfl 5 (by decide) (hts _ tw_789) (fun _ h => h) rfl (by decide +kernel) rfl rfl (Nat.le_of_ble_eq_true rfl) (sp_11_5 (tc_7_4 tq1)) eM11 d_Layout_layBox_70 ?_
      refine qj_aload hx hb d_Layout_layBox_73 3 rfl ?_
      refine qj_iload_n hx hb d_Layout_layBox_75 rfl 7 rfl ?_
      refine qj_iload hx hb d_Layout_layBox_76 1 rfl ?_
      refine qj_iadd hx hb d_Layout_layBox_78 ?_
      have hf9 := q_lt_s hf; clear hf; obtain ⟨M12, eM12, hf⟩ := hf9
      refine qj_puti (ty := .int) hx hb hts hin_0 ty_0 tyok_0 nm_0 hown hK (q_in (tc_7_4 tq1) (by decide)) (en_11 (tc_7_4 tq1)) rfl 6 (by decide) (hts _ tw_821) (fun _ h => h) rfl (by decide +kernel) rfl rfl (Nat.le_of_ble_eq_true rfl) (sp_11_6 (tc_7_4 tq1)) eM12 d_Layout_layBox_79 ?_
      refine qj_aload hx hb d_Layout_layBox_82 3 rfl ?_
      refine qj_iload hx hb d_Layout_layBox_84 0 rfl ?_
      refine qj_iconst (v := (-1)) hx hb d_Layout_layBox_86 (by decide) ?_
      have hf9 := q_lt_s hf; clear hf; obtain ⟨j30, ej30, hf⟩ := hf9
      have hj30 : ∀ (x13 : Int32), j30 x13 = some out → QJ p l e (rm_Layout_layBox (d + 1)) s m args below meth c (qA 367 b) b 10 0 0 Q (qWd D (enX dA b) 367 b) M12 111 [(0, qr (some 364)), (1, qr (some q1)), (5, qi a5), (6, qr (some (q1 + 4))), (8, qi x5)] [qi x13, qr (some (q1 + 4))] := by
        clear hf
        intro x13 hf
        rw [ej30] at hf
        have hf9 := q_lt_s hf; clear hf; obtain ⟨M14, eM14, hf⟩ := hf9
        refine qj_puti (ty := .int) hx hb hts hin_0 ty_0 tyok_0 nm_0 hown hK (q_in (tc_7_4 tq1) (by decide)) (en_11 (tc_7_4 tq1)) rfl 7 (by decide) (hts _ tw_790) (fun _ h => h) rfl (by decide +kernel) rfl rfl (Nat.le_of_ble_eq_true rfl) (sp_11_7 (tc_7_4 tq1)) eM14 d_Layout_layBox_111 ?_
        refine qj_aload hx hb d_Layout_layBox_114 3 rfl ?_
        refine qj_aload hx hb d_Layout_layBox_116 3 rfl ?_
        refine qj_get hx hb hts hin_0 hown hK (q_in (tc_7_4 tq1) (by decide)) (en_11 (tc_7_4 tq1)) rfl 7 (by decide) (hts _ tw_790) (fun _ h => h) (qi (M14.1 (q1 + 4) 7)) rfl d_Layout_layBox_118 ?_
        refine qj_iconst (v := 2) hx hb d_Layout_layBox_121 (by decide) ?_
        refine qj_iload hx hb d_Layout_layBox_122 4 rfl ?_
        refine qj_imul hx hb d_Layout_layBox_124 ?_
        refine qj_iadd hx hb d_Layout_layBox_125 ?_
        have hf9 := q_lt_s hf; clear hf; obtain ⟨M15, eM15, hf⟩ := hf9
        refine qj_puti (ty := .int) hx hb hts hin_0 ty_0 tyok_0 nm_0 hown hK (q_in (tc_7_4 tq1) (by decide)) (en_11 (tc_7_4 tq1)) rfl 3 (by decide) (hts _ tw_419) (fun _ h => h) rfl (by decide +kernel) rfl rfl (Nat.le_of_ble_eq_true rfl) (sp_11_3 (tc_7_4 tq1)) eM15 d_Layout_layBox_126 ?_
        refine qj_aload hx hb d_Layout_layBox_129 3 rfl ?_
        refine qj_aload hx hb d_Layout_layBox_131 3 rfl ?_
        refine qj_get hx hb hts hin_0 hown hK (q_in (tc_7_4 tq1) (by decide)) (en_11 (tc_7_4 tq1)) rfl 6 (by decide) (hts _ tw_821) (fun _ h => h) (qi (M15.1 (q1 + 4) 6)) rfl d_Layout_layBox_133 ?_
        have hf9 := q_lt_s hf; clear hf; obtain ⟨M16, eM16, hf⟩ := hf9
        refine qj_puti (ty := .int) hx hb hts hin_0 ty_0 tyok_0 nm_0 hown hK (q_in (tc_7_4 tq1) (by decide)) (en_11 (tc_7_4 tq1)) rfl 8 (by decide) (hts _ tw_786) (fun _ h => h) rfl (by decide +kernel) rfl rfl (Nat.le_of_ble_eq_true rfl) (sp_11_8 (tc_7_4 tq1)) eM16 d_Layout_layBox_136 ?_
        refine qj_aload hx hb d_Layout_layBox_139 3 rfl ?_
        refine qj_iconst (v := 0) hx hb d_Layout_layBox_141 (by decide) ?_
        have hf9 := q_lt_s hf; clear hf; obtain ⟨M17, eM17, hf⟩ := hf9
        refine qj_puti (ty := .int) hx hb hts hin_0 ty_0 tyok_0 nm_0 hown hK (q_in (tc_7_4 tq1) (by decide)) (en_11 (tc_7_4 tq1)) rfl 9 (by decide) (hts _ tw_787) (fun _ h => h) rfl (by decide +kernel) rfl rfl (Nat.le_of_ble_eq_true rfl) (sp_11_9 (tc_7_4 tq1)) eM17 d_Layout_layBox_142 ?_
        refine qj_aload_n hx hb d_Layout_layBox_145 rfl 1 rfl ?_
        refine qj_get hx hb hts hin_3 hown hK (q_in tq1 (by decide)) (en_7 tq1) rfl 0 (by decide) (hts _ tw_800) (fun _ h => h) (qi (M17.1 q1 0)) rfl d_Layout_layBox_146 ?_
        refine qj_bipush (v := 104) hx hb d_Layout_layBox_149 (by decide) ?_
        have hf9 := q_lt_s hf; clear hf; obtain ⟨j20, ej20, hf⟩ := hf9
        have hj20 : ∀ (M18 : qM), j20 M18 = some out → QJ p l e (rm_Layout_layBox (d + 1)) s m args below meth c (qA 367 b) b 10 0 0 Q (qWd D (enX dA b) 367 b) M18 224 [(6, qr (some (q1 + 4))), (8, qi x5)] [] := by
          clear hf
          intro M18 hf
          rw [ej20] at hf
          refine qj_aload hx hb d_Layout_layBox_224 0 rfl ?_
          refine qj_aload hx hb d_Layout_layBox_226 0 rfl ?_
          refine qj_get hx hb hts hin_0 hown hK (q_in (tc_7_4 tq1) (by decide)) (en_11 (tc_7_4 tq1)) rfl 8 (by decide) (hts _ tw_786) (fun _ h => h) (qi (M18.1 (q1 + 4) 8)) rfl d_Layout_layBox_228 ?_
          refine qj_aload hx hb d_Layout_layBox_231 0 rfl ?_
          refine qj_get hx hb hts hin_0 hown hK (q_in (tc_7_4 tq1) (by decide)) (en_11 (tc_7_4 tq1)) rfl 9 (by decide) (hts _ tw_787) (fun _ h => h) (qi (M18.1 (q1 + 4) 9)) rfl d_Layout_layBox_233 ?_
          refine qj_iadd hx hb d_Layout_layBox_236 ?_
          refine qj_aload hx hb d_Layout_layBox_237 0 rfl ?_
          refine qj_get hx hb hts hin_0 hown hK (q_in (tc_7_4 tq1) (by decide)) (en_11 (tc_7_4 tq1)) rfl 6 (by decide) (hts _ tw_821) (fun _ h => h) (qi (M18.1 (q1 + 4) 6)) rfl d_Layout_layBox_239 ?_
          refine qj_isub hx hb d_Layout_layBox_242 ?_
          refine qj_iconst (v := 2) hx hb d_Layout_layBox_243 (by decide) ?_
          refine qj_iload hx hb d_Layout_layBox_244 1 rfl ?_
          refine qj_imul hx hb d_Layout_layBox_246 ?_
          refine qj_iadd hx hb d_Layout_layBox_247 ?_
          have hf9 := q_lt_s hf; clear hf; obtain ⟨M19, eM19, hf⟩ := hf9
          refine qj_puti (ty := .int) hx hb hts hin_0 ty_0 tyok_0 nm_0 hown hK (q_in (tc_7_4 tq1) (by decide)) (en_11 (tc_7_4 tq1)) rfl 4 (by decide) (hts _ tw_421) (fun _ h => h) rfl (by decide +kernel) rfl rfl (Nat.le_of_ble_eq_true rfl) (sp_11_4 (tc_7_4 tq1)) eM19 d_Layout_layBox_248 ?_
          exact hret _ _ _ d_Layout_layBox_251 (Option.some.inj hf)
        refine qj_icmp_ne (tgt := 168) hx hb d_Layout_layBox_151 (by decide) (fun hc21 => ?_) (fun hc21 => ?_)
        · replace hf := q_if_f hc21 hf
          refine qj_aload_n hx hb d_Layout_layBox_168 rfl 1 rfl ?_
          refine qj_get hx hb hts hin_3 hown hK (q_in tq1 (by decide)) (en_7 tq1) rfl 0 (by decide) (hts _ tw_800) (fun _ h => h) (qi (M17.1 q1 0)) rfl d_Layout_layBox_169 ?_
          refine qj_bipush (v := 114) hx hb d_Layout_layBox_172 (by decide) ?_
          refine qj_icmp_ne (tgt := 197) hx hb d_Layout_layBox_174 (by decide) (fun hc22 => ?_) (fun hc22 => ?_)
          · replace hf := q_if_f hc22 hf
            refine qj_aload_n hx hb d_Layout_layBox_197 rfl 0 rfl ?_
            refine qj_get hx hb hts hin_10 hown hK (q_in (rfl : tcX 364 = 24) (by decide)) (en_24 (rfl : tcX 364 = 24)) rfl 0 (by decide) (hts _ tw_781) (fun _ h => h) (qr (some 365)) rfl d_Layout_layBox_198 ?_
            refine qj_aload hx hb d_Layout_layBox_201 3 rfl ?_
            have hf9 := q_cv_s hf; clear hf; obtain ⟨M23, hM23, hf⟩ := hf9
            refine qc_Vv (st := []) hx hb hml hown hts hK (qX_ok _ _ _ _) hs (c_Run_beginIn (q1 + 4) (tc_7_4 tq1) M17 _ hM23) ⟨(callB_of 1 hts (q_good tw_795) rfl rfl rfl (hts _ tw_393) (hts _ tw_796) (by decide +kernel) (by constructor <;> dsimp only [rm_Run_beginIn, rm_Layout_layBox] <;> omega)), (hts _ tw_797), (hts _ tw_798)⟩ (q_in (rfl : tcX 365 = 25) (by decide)) (en_25 (rfl : tcX 365 = 25)) rfl rfl rfl (Nat.le_of_ble_eq_true rfl) d_Layout_layBox_203 ?_
            refine qj_aload_n hx hb d_Layout_layBox_206 rfl 0 rfl ?_
            refine qj_aload_n hx hb d_Layout_layBox_207 rfl 1 rfl ?_
            refine qj_aload hx hb d_Layout_layBox_208 3 rfl ?_
            refine qj_iload hx hb d_Layout_layBox_210 2 rfl ?_
            have hf9 := q_cv_s hf; clear hf; obtain ⟨M24, hM24, hf⟩ := hf9
            refine qc_Vv (st := []) hx hb hml hown hts hK (qX_ok _ _ _ _) hs (c_Layout_layItems FR (10 + 40 * d) (200 + 1200 * d) hFR 27 q1 (q1 + 4) a5 tq1 (tc_7_4 tq1) M23 _ hM24) ⟨(callB_of 3 hts (q_good tw_802) rfl rfl rfl (hts _ tw_430) (hts _ tw_803) (by decide +kernel) (by constructor <;> dsimp only [rm_Layout_layItems, rm_Layout_layBox] <;> omega)), (hts _ tw_804), (hts _ tw_805)⟩ (q_in (rfl : tcX 364 = 24) (by decide)) (en_24 (rfl : tcX 364 = 24)) rfl rfl rfl (Nat.le_of_ble_eq_true rfl) d_Layout_layBox_212 ?_
            refine qj_aload_n hx hb d_Layout_layBox_215 rfl 0 rfl ?_
            refine qj_get hx hb hts hin_10 hown hK (q_in (rfl : tcX 364 = 24) (by decide)) (en_24 (rfl : tcX 364 = 24)) rfl 0 (by decide) (hts _ tw_781) (fun _ h => h) (qr (some 365)) rfl d_Layout_layBox_216 ?_
            refine qj_aload hx hb d_Layout_layBox_219 3 rfl ?_
            have hf9 := q_cv_s hf; clear hf; obtain ⟨M25, hM25, hf⟩ := hf9
            refine qc_Vv (st := []) hx hb hml hown hts hK (qX_ok _ _ _ _) hs (c_Run_endIn (q1 + 4) (tc_7_4 tq1) M24 _ hM25) ⟨(callB_of 1 hts (q_good tw_782) rfl rfl rfl (hts _ tw_393) (hts _ tw_783) (by decide +kernel) (by constructor <;> dsimp only [rm_Run_endIn, rm_Layout_layBox] <;> omega)), (hts _ tw_784), (hts _ tw_785)⟩ (q_in (rfl : tcX 365 = 25) (by decide)) (en_25 (rfl : tcX 365 = 25)) rfl rfl rfl (Nat.le_of_ble_eq_true rfl) d_Layout_layBox_221 ?_
            refine qj_sub [3, 4] rfl ?_
            exact hj20 M25 hf
          · replace hf := q_if_t hc22 hf
            refine qj_aload hx hb d_Layout_layBox_177 3 rfl ?_
            refine qj_dup hx hb d_Layout_layBox_179 ?_
            refine qj_get hx hb hts hin_0 hown hK (q_in (tc_7_4 tq1) (by decide)) (en_11 (tc_7_4 tq1)) rfl 8 (by decide) (hts _ tw_786) (fun _ h => h) (qi (M17.1 (q1 + 4) 8)) rfl d_Layout_layBox_180 ?_
            refine qj_aload_n hx hb d_Layout_layBox_183 rfl 0 rfl ?_
            refine qj_aload_n hx hb d_Layout_layBox_184 rfl 1 rfl ?_
            refine qj_iload hx hb d_Layout_layBox_185 2 rfl ?_
            have hf9 := q_cl_s hf; clear hf; obtain ⟨x26, M27, hx26, hf⟩ := hf9
            refine qc_Vi (st := [qi (M17.1 (q1 + 4) 8), qr (some (q1 + 4))]) hx hb hml hown hts hK (qX_ok _ _ _ _) hs (c_Layout_layCells FR (10 + 40 * d) (200 + 1200 * d) hFR q1 a5 tq1 M17 _ hx26) ⟨(callB_of 2 hts (q_good tw_822) rfl rfl rfl (hts _ tw_430) (hts _ tw_823) (by decide +kernel) (by constructor <;> dsimp only [rm_Layout_layCells, rm_Layout_layBox] <;> omega)), (hts _ tw_824), (hts _ tw_825)⟩ (q_in (rfl : tcX 364 = 24) (by decide)) (en_24 (rfl : tcX 364 = 24)) rfl rfl rfl (Nat.le_of_ble_eq_true rfl) d_Layout_layBox_187 ?_
            refine qj_iadd hx hb d_Layout_layBox_190 ?_
            have hf9 := q_lt_s hf; clear hf; obtain ⟨M28, eM28, hf⟩ := hf9
            refine qj_puti (ty := .int) hx hb hts hin_0 ty_0 tyok_0 nm_0 hown hK (q_in (tc_7_4 tq1) (by decide)) (en_11 (tc_7_4 tq1)) rfl 8 (by decide) (hts _ tw_786) (fun _ h => h) rfl (by decide +kernel) rfl rfl (Nat.le_of_ble_eq_true rfl) (sp_11_8 (tc_7_4 tq1)) eM28 d_Layout_layBox_191 ?_
            refine qj_goto (tgt := 224) hx hb d_Layout_layBox_194 (by decide) ?_
            refine qj_sub [3, 4] rfl ?_
            exact hj20 M28 hf
        · replace hf := q_if_t hc21 hf
          refine qj_aload hx hb d_Layout_layBox_154 3 rfl ?_
          refine qj_dup hx hb d_Layout_layBox_156 ?_
          refine qj_get hx hb hts hin_0 hown hK (q_in (tc_7_4 tq1) (by decide)) (en_11 (tc_7_4 tq1)) rfl 8 (by decide) (hts _ tw_786) (fun _ h => h) (qi (M17.1 (q1 + 4) 8)) rfl d_Layout_layBox_157 ?_
          refine qj_iconst (v := 1) hx hb d_Layout_layBox_160 (by decide) ?_
          refine qj_iadd hx hb d_Layout_layBox_161 ?_
          have hf9 := q_lt_s hf; clear hf; obtain ⟨M29, eM29, hf⟩ := hf9
          refine qj_puti (ty := .int) hx hb hts hin_0 ty_0 tyok_0 nm_0 hown hK (q_in (tc_7_4 tq1) (by decide)) (en_11 (tc_7_4 tq1)) rfl 8 (by decide) (hts _ tw_786) (fun _ h => h) rfl (by decide +kernel) rfl rfl (Nat.le_of_ble_eq_true rfl) (sp_11_8 (tc_7_4 tq1)) eM29 d_Layout_layBox_162 ?_
          refine qj_goto (tgt := 224) hx hb d_Layout_layBox_165 (by decide) ?_
          refine qj_sub [3, 4] rfl ?_
          exact hj20 M29 hf
      refine qj_icmp_eq (tgt := 95) hx hb d_Layout_layBox_87 (by decide) (fun hc31 => ?_) (fun hc31 => ?_)
      · replace hf := q_if_t hc31 hf
        refine qj_iconst (v := 0) hx hb d_Layout_layBox_95 (by decide) ?_
        refine qj_iload hx hb d_Layout_layBox_96 8 rfl ?_
        refine qj_iconst (v := 2) hx hb d_Layout_layBox_98 (by decide) ?_
        refine qj_iload hx hb d_Layout_layBox_99 2 rfl ?_
        refine qj_imul hx hb d_Layout_layBox_101 ?_
        refine qj_isub hx hb d_Layout_layBox_102 ?_
        refine qj_iconst (v := 2) hx hb d_Layout_layBox_103 (by decide) ?_
        refine qj_iload hx hb d_Layout_layBox_104 1 rfl ?_
        refine qj_imul hx hb d_Layout_layBox_106 ?_
        refine qj_isub hx hb d_Layout_layBox_107 ?_
        refine qj_max hx hb hml hown (hts _ tw_788) (hts _ tw_390) (hts _ tw_391) (hts _ tw_392) (by first | omega | (dsimp only [rm_Layout_layBox]; omega) | (simp; omega)) (by simp only [List.length_cons, List.length_nil]; first | omega | (dsimp only [rm_Layout_layBox]; omega) | (simp; omega)) (Nat.zero_le _) (Nat.zero_le _) d_Layout_layBox_108 ?_
        refine qj_sub [4, 5, 9, 3, 1] rfl ?_
        exact hj30 (if 0 < ((a4 - (2 * x3)) - (2 * x5)) then (a4 - (2 * x3)) - (2 * x5) else 0) hf
      · replace hf := q_if_f hc31 hf
        refine qj_iload hx hb d_Layout_layBox_90 0 rfl ?_
        refine qj_goto (tgt := 111) hx hb d_Layout_layBox_92 (by decide) ?_
        refine qj_sub [4, 5, 9, 3, 1] rfl ?_
        exact hj30 x7 hf
    · replace hf := q_if_f hc1 hf
      exact hret _ _ _ d_Layout_layBox_7 (Option.some.inj hf)
theorem d_Layout_lay_0 : decode prog_4_method_2_code 0 = .ok (.aload_n 0, 1) := by decide +kernel
theorem d_Layout_lay_1 : decode prog_4_method_2_code 1 = .ok (.iload_n 2, 1) := by decide +kernel
theorem d_Layout_lay_2 : decode prog_4_method_2_code 2 = .ok (.putfield 18, 3) := by decide +kernel
theorem d_Layout_lay_5 : decode prog_4_method_2_code 5 = .ok (.aload_n 0, 1) := by decide +kernel
theorem d_Layout_lay_6 : decode prog_4_method_2_code 6 = .ok (.getfield 12, 3) := by decide +kernel
theorem d_Layout_lay_9 : decode prog_4_method_2_code 9 = .ok (.iconst 0, 1) := by decide +kernel
theorem d_Layout_lay_10 : decode prog_4_method_2_code 10 = .ok (.putfield 22, 3) := by decide +kernel
theorem d_Layout_lay_13 : decode prog_4_method_2_code 13 = .ok (.iconst 0, 1) := by decide +kernel
theorem d_Layout_lay_14 : decode prog_4_method_2_code 14 = .ok (.istore_n 3, 1) := by decide +kernel
theorem d_Layout_lay_15 : decode prog_4_method_2_code 15 = .ok (.iload_n 3, 1) := by decide +kernel
theorem d_Layout_lay_16 : decode prog_4_method_2_code 16 = .ok (.aload_n 1, 1) := by decide +kernel
theorem d_Layout_lay_17 : decode prog_4_method_2_code 17 = .ok (.getfield 25, 3) := by decide +kernel
theorem d_Layout_lay_20 : decode prog_4_method_2_code 20 = .ok (.if_icmp .ge 22, 3) := by decide +kernel
theorem d_Layout_lay_23 : decode prog_4_method_2_code 23 = .ok (.aload_n 1, 1) := by decide +kernel
theorem d_Layout_lay_24 : decode prog_4_method_2_code 24 = .ok (.getfield 30, 3) := by decide +kernel
theorem d_Layout_lay_27 : decode prog_4_method_2_code 27 = .ok (.iload_n 3, 1) := by decide +kernel
theorem d_Layout_lay_28 : decode prog_4_method_2_code 28 = .ok (.aaload, 1) := by decide +kernel
theorem d_Layout_lay_29 : decode prog_4_method_2_code 29 = .ok (.getfield 34, 3) := by decide +kernel
theorem d_Layout_lay_32 : decode prog_4_method_2_code 32 = .ok (.iconst 0, 1) := by decide +kernel
theorem d_Layout_lay_33 : decode prog_4_method_2_code 33 = .ok (.putfield 40, 3) := by decide +kernel
theorem d_Layout_lay_36 : decode prog_4_method_2_code 36 = .ok (.iinc 3 1, 3) := by decide +kernel
theorem d_Layout_lay_39 : decode prog_4_method_2_code 39 = .ok (.goto (-24), 3) := by decide +kernel
theorem d_Layout_lay_42 : decode prog_4_method_2_code 42 = .ok (.iconst 0, 1) := by decide +kernel
theorem d_Layout_lay_43 : decode prog_4_method_2_code 43 = .ok (.istore_n 3, 1) := by decide +kernel
theorem d_Layout_lay_44 : decode prog_4_method_2_code 44 = .ok (.iload_n 3, 1) := by decide +kernel
theorem d_Layout_lay_45 : decode prog_4_method_2_code 45 = .ok (.aload_n 1, 1) := by decide +kernel
theorem d_Layout_lay_46 : decode prog_4_method_2_code 46 = .ok (.getfield 46, 3) := by decide +kernel
theorem d_Layout_lay_49 : decode prog_4_method_2_code 49 = .ok (.if_icmp .ge 19, 3) := by decide +kernel
theorem d_Layout_lay_52 : decode prog_4_method_2_code 52 = .ok (.aload_n 1, 1) := by decide +kernel
theorem d_Layout_lay_53 : decode prog_4_method_2_code 53 = .ok (.getfield 49, 3) := by decide +kernel
theorem d_Layout_lay_56 : decode prog_4_method_2_code 56 = .ok (.iload_n 3, 1) := by decide +kernel
theorem d_Layout_lay_57 : decode prog_4_method_2_code 57 = .ok (.aaload, 1) := by decide +kernel
theorem d_Layout_lay_58 : decode prog_4_method_2_code 58 = .ok (.iconst 0, 1) := by decide +kernel
theorem d_Layout_lay_59 : decode prog_4_method_2_code 59 = .ok (.putfield 53, 3) := by decide +kernel
theorem d_Layout_lay_62 : decode prog_4_method_2_code 62 = .ok (.iinc 3 1, 3) := by decide +kernel
theorem d_Layout_lay_65 : decode prog_4_method_2_code 65 = .ok (.goto (-21), 3) := by decide +kernel
theorem d_Layout_lay_68 : decode prog_4_method_2_code 68 = .ok (.aload_n 0, 1) := by decide +kernel
theorem d_Layout_lay_69 : decode prog_4_method_2_code 69 = .ok (.aload_n 1, 1) := by decide +kernel
theorem d_Layout_lay_70 : decode prog_4_method_2_code 70 = .ok (.getfield 58, 3) := by decide +kernel
theorem d_Layout_lay_73 : decode prog_4_method_2_code 73 = .ok (.iconst 0, 1) := by decide +kernel
theorem d_Layout_lay_74 : decode prog_4_method_2_code 74 = .ok (.iconst 0, 1) := by decide +kernel
theorem d_Layout_lay_75 : decode prog_4_method_2_code 75 = .ok (.iload_n 2, 1) := by decide +kernel
theorem d_Layout_lay_76 : decode prog_4_method_2_code 76 = .ok (.iconst 0, 1) := by decide +kernel
theorem d_Layout_lay_77 : decode prog_4_method_2_code 77 = .ok (.invokevirtual 62, 3) := by decide +kernel
theorem d_Layout_lay_80 : decode prog_4_method_2_code 80 = .ok (.return_, 1) := by decide +kernel
def f_Layout_lay_15  : Nat → (qM → Option qM) → Int32 → qM → Option qM
  | 0, _, _, _ => none
  | n + 1, K5, x3, M4 => if (M4.1 1 5) ≤ x3 then (K5 M4) else (q_ix x3 24 <| q_lt (M4.2 3 x3.toNatClampNeg) fun r8 => q_nn r8 fun o9 => q_lt (qsI M4 (o9 + 4) 0 0) fun M10 => f_Layout_lay_15 n K5 (x3 + 1) M10)
def f_Layout_lay_44  : Nat → (qM → Option qM) → Int32 → qM → Option qM
  | 0, _, _, _ => none
  | n + 1, K14, x12, M13 => if (M13.1 1 6) ≤ x12 then (K14 M13) else (q_ix x12 160 <| q_lt (127 + x12.toNatClampNeg) fun o17 => q_lt (qsI M13 o17 2 0) fun M18 => f_Layout_lay_44 n K14 (x12 + 1) M18)
def f_Layout_lay (a2 : Int32) (M : qM) : Option qM := q_lt (qsI M 364 1 a2) fun M1 => q_lt (qsI M1 365 12 0) fun M2 => f_Layout_lay_15 1000 (fun (M11 : qM) => f_Layout_lay_44 1000 (fun (M19 : qM) => q_cv (f_Layout_layBox 27 7 0 0 a2 0 M19) fun M20 => some M20) 0 M11) 0 M2
abbrev rm_Layout_lay : Room := { frames := 1091, cells := 0, slots := 0, locals := 32629 }
set_option maxRecDepth 100000 in
set_option maxHeartbeats 4000000 in
theorem c_Layout_lay {l : Launch} {D : va_G} {dA : Nat → ClassId} {b : Nat} {adK adV : Nat → Nat} (a2 : Int32)  (M : qM) (out : qM) (hf : f_Layout_lay a2 M = some out) : CTv l y_Layout_lay w_Layout_lay rm_Layout_lay D (tysX dA) (enX dA b) 367 b (qX adK adV 367 b) [qr (some 364), qr (some 1), qi a2] M out := by
  refine qm_v (cc := prog_4_method_2_code) (nL := 4) (by decide) rfl (Nat.le_of_ble_eq_true rfl) ?_
  intro p e s m args below meth c Q hx hb hts0 hown hml hK hs hret
  have hts : ∀ w ∈ lw_g, w.before args s = true := fun w h => hts0 w (List.mem_cons_of_mem _ h)
  show QJ p l e rm_Layout_lay s m args below meth c (qA 367 b) b 4 0 0 Q (qWd D (enX dA b) 367 b) M 0 [(0, qr (some 364)), (1, qr (some 1)), (2, qi a2)] []
  unfold f_Layout_lay at hf
  refine qj_aload_n hx hb d_Layout_lay_0 rfl 0 rfl ?_
  refine qj_iload_n hx hb d_Layout_lay_1 rfl 2 rfl ?_
  have hf9 := q_lt_s hf; clear hf; obtain ⟨M1, eM1, hf⟩ := hf9
  refine qj_puti (ty := .int) hx hb hts hin_10 ty_10 tyok_10 nm_10 hown hK (q_in (rfl : tcX 364 = 24) (by decide)) (en_24 (rfl : tcX 364 = 24)) rfl 1 (by decide) (hts _ tw_826) (fun _ h => h) rfl (by decide +kernel) rfl rfl (Nat.le_of_ble_eq_true rfl) (sp_24_1 (rfl : tcX 364 = 24)) eM1 d_Layout_lay_2 ?_
  refine qj_aload_n hx hb d_Layout_lay_5 rfl 0 rfl ?_
  refine qj_get hx hb hts hin_10 hown hK (q_in (rfl : tcX 364 = 24) (by decide)) (en_24 (rfl : tcX 364 = 24)) rfl 0 (by decide) (hts _ tw_781) (fun _ h => h) (qr (some 365)) rfl d_Layout_lay_6 ?_
  refine qj_iconst (v := 0) hx hb d_Layout_lay_9 (by decide) ?_
  have hf9 := q_lt_s hf; clear hf; obtain ⟨M2, eM2, hf⟩ := hf9
  refine qj_puti (ty := .int) hx hb hts hin_9 ty_9 tyok_9 nm_9 hown hK (q_in (rfl : tcX 365 = 25) (by decide)) (en_25 (rfl : tcX 365 = 25)) rfl 12 (by decide) (hts _ tw_827) (fun _ h => h) rfl (by decide +kernel) rfl rfl (Nat.le_of_ble_eq_true rfl) (sp_25_12 (rfl : tcX 365 = 25)) eM2 d_Layout_lay_10 ?_
  refine qj_iconst (v := 0) hx hb d_Layout_lay_13 (by decide) ?_
  refine qj_istore_n hx hb d_Layout_lay_14 rfl (by decide) rfl ?_
  have hL15 : ∀ (n : Nat) (K5 : qM → Option qM), (∀ (M11 : qM), K5 M11 = some out → QJ p l e rm_Layout_lay s m args below meth c (qA 367 b) b 4 0 0 Q (qWd D (enX dA b) 367 b) M11 42 [(0, qr (some 364)), (1, qr (some 1)), (2, qi a2)] []) → ∀ (x3 : Int32) (M4 : qM), f_Layout_lay_15 n K5 x3 M4 = some out → QJ p l e rm_Layout_lay s m args below meth c (qA 367 b) b 4 0 0 Q (qWd D (enX dA b) 367 b) M4 15 [(0, qr (some 364)), (1, qr (some 1)), (2, qi a2), (3, qi x3)] [] := by
    clear hf
    intro n
    induction n with
    | zero =>
      intro K5 hK5 x3 M4 hf
      exact absurd hf (by simp [f_Layout_lay_15])
    | succ n ih15 =>
      intro K5 hK5 x3 M4 hf
      rw [f_Layout_lay_15] at hf
      have ih15 := ih15 K5 hK5
      refine qj_iload_n hx hb d_Layout_lay_15 rfl 3 rfl ?_
      refine qj_aload_n hx hb d_Layout_lay_16 rfl 1 rfl ?_
      refine qj_get hx hb hts hin_5 hown hK (q_in (rfl : tcX 1 = 1) (by decide)) (en_1 (rfl : tcX 1 = 1)) rfl 5 (by decide) (hts _ tw_426) (fun _ h => h) (qi (M4.1 1 5)) rfl d_Layout_lay_17 ?_
      refine qj_icmp_ge (tgt := 42) hx hb d_Layout_lay_20 (by decide) (fun hc6 => ?_) (fun hc6 => ?_)
      · replace hf := q_if_t hc6 hf
        refine qj_sub [0, 1, 2] rfl ?_
        exact hK5 M4 hf
      · replace hf := q_if_f hc6 hf
        refine qj_aload_n hx hb d_Layout_lay_23 rfl 1 rfl ?_
        refine qj_get hx hb hts hin_5 hown hK (q_in (rfl : tcX 1 = 1) (by decide)) (en_1 (rfl : tcX 1 = 1)) rfl 1 (by decide) (hts _ tw_427) (fun _ h => h) (qr (some 3)) rfl d_Layout_lay_24 ?_
        refine qj_iload_n hx hb d_Layout_lay_27 rfl 3 rfl ?_
        have hf9 := q_ix_s hf; clear hf; obtain ⟨hi7, hf⟩ := hf9
        have hf9 := q_lt_s hf; clear hf; obtain ⟨r8, er8, hf⟩ := hf9
        refine qj_w fun w => ?_
        have tr8 : ∀ o, r8 = some o → tcX o = 7 := fun o h => (w _ _ o (er8.symm.trans h)).trans (by rw [(rfl : tcX 3 = 3)] <;> rfl)
        refine qj_aald (t0 := 3) (f := M4.2 3) hx hb hK (q_in (rfl : tcX 3 = 3) (by decide)) (en_3 (rfl : tcX 3 = 3) _ _) rfl hi7 d_Layout_lay_28 ?_
        rw [← er8]
        have hf9 := q_nn_s hf; clear hf; obtain ⟨o9, rfl, hf⟩ := hf9
        refine qj_get hx hb hts hin_3 hown hK (q_in (tr8 _ rfl) (by decide)) (en_7 (tr8 _ rfl)) rfl 13 (by decide) (hts _ tw_428) (fun _ h => h) (qr (some (o9 + 4))) rfl d_Layout_lay_29 ?_
        refine qj_iconst (v := 0) hx hb d_Layout_lay_32 (by decide) ?_
        have hf9 := q_lt_s hf; clear hf; obtain ⟨M10, eM10, hf⟩ := hf9
        refine qj_puti (ty := .boolean) hx hb hts hin_0 ty_0 tyok_0 nm_0 hown hK (q_in (tc_7_4 (tr8 _ rfl)) (by decide)) (en_11 (tc_7_4 (tr8 _ rfl))) rfl 0 (by decide) (hts _ tw_429) (fun _ h => h) rfl (by decide +kernel) rfl rfl (Nat.le_of_ble_eq_true rfl) (sp_11_0 (tc_7_4 (tr8 _ rfl))) eM10 d_Layout_lay_33 ?_
        refine qj_iinc (j := 3) (v := x3 + 1) hx hb d_Layout_lay_36 rfl rfl (by decide) rfl ?_
        refine qj_goto (tgt := 15) hx hb d_Layout_lay_39 (by decide) ?_
        refine qj_sub [1, 2, 3, 0] rfl ?_
        exact ih15 (x3 + 1) M10 hf
  refine qj_sub [1, 2, 3, 0] rfl ?_
  refine hL15 _ _ (fun M11 hf9 => ?_) 0 M2 hf
  clear hf; have hf := hf9; clear hf9
  refine qj_iconst (v := 0) hx hb d_Layout_lay_42 (by decide) ?_
  refine qj_istore_n hx hb d_Layout_lay_43 rfl (by decide) rfl ?_
  have hL44 : ∀ (n : Nat) (K14 : qM → Option qM), (∀ (M19 : qM), K14 M19 = some out → QJ p l e rm_Layout_lay s m args below meth c (qA 367 b) b 4 0 0 Q (qWd D (enX dA b) 367 b) M19 68 [(0, qr (some 364)), (1, qr (some 1)), (2, qi a2)] []) → ∀ (x12 : Int32) (M13 : qM), f_Layout_lay_44 n K14 x12 M13 = some out → QJ p l e rm_Layout_lay s m args below meth c (qA 367 b) b 4 0 0 Q (qWd D (enX dA b) 367 b) M13 44 [(0, qr (some 364)), (1, qr (some 1)), (2, qi a2), (3, qi x12)] [] := by
    clear hf
    intro n
    induction n with
    | zero =>
      intro K14 hK14 x12 M13 hf
      exact absurd hf (by simp [f_Layout_lay_44])
    | succ n ih44 =>
      intro K14 hK14 x12 M13 hf
      rw [f_Layout_lay_44] at hf
      have ih44 := ih44 K14 hK14
      refine qj_iload_n hx hb d_Layout_lay_44 rfl 3 rfl ?_
      refine qj_aload_n hx hb d_Layout_lay_45 rfl 1 rfl ?_
      refine qj_get hx hb hts hin_5 hown hK (q_in (rfl : tcX 1 = 1) (by decide)) (en_1 (rfl : tcX 1 = 1)) rfl 6 (by decide) (hts _ tw_828) (fun _ h => h) (qi (M13.1 1 6)) rfl d_Layout_lay_46 ?_
      refine qj_icmp_ge (tgt := 68) hx hb d_Layout_lay_49 (by decide) (fun hc15 => ?_) (fun hc15 => ?_)
      · replace hf := q_if_t hc15 hf
        refine qj_sub [0, 1, 2] rfl ?_
        exact hK14 M13 hf
      · replace hf := q_if_f hc15 hf
        refine qj_aload_n hx hb d_Layout_lay_52 rfl 1 rfl ?_
        refine qj_get hx hb hts hin_5 hown hK (q_in (rfl : tcX 1 = 1) (by decide)) (en_1 (rfl : tcX 1 = 1)) rfl 2 (by decide) (hts _ tw_829) (fun _ h => h) (qr (some 4)) rfl d_Layout_lay_53 ?_
        refine qj_iload_n hx hb d_Layout_lay_56 rfl 3 rfl ?_
        have hf9 := q_ix_s hf; clear hf; obtain ⟨hi16, hf⟩ := hf9
        have hf9 := q_lt_s hf; clear hf; obtain ⟨o17, eo17, hf⟩ := hf9
        have to17 : tcX o17 = 12 := by rw [eo17]; exact tc_e4 hi16
        refine qj_aald (t0 := 4) (f := fun j => some (127 + j)) hx hb hK (q_in (rfl : tcX 4 = 4) (by decide)) (en_4 (rfl : tcX 4 = 4) _ _) rfl hi16 d_Layout_lay_57 ?_
        rw [← eo17]
        refine qj_iconst (v := 0) hx hb d_Layout_lay_58 (by decide) ?_
        have hf9 := q_lt_s hf; clear hf; obtain ⟨M18, eM18, hf⟩ := hf9
        refine qj_puti (ty := .boolean) hx hb hts hin_2 ty_2 tyok_2 nm_2 hown hK (q_in to17 (by decide)) (en_12 to17) rfl 2 (by decide) (hts _ tw_435) (fun _ h => h) rfl (by decide +kernel) rfl rfl (Nat.le_of_ble_eq_true rfl) (sp_12_2 to17) eM18 d_Layout_lay_59 ?_
        refine qj_iinc (j := 3) (v := x12 + 1) hx hb d_Layout_lay_62 rfl rfl (by decide) rfl ?_
        refine qj_goto (tgt := 44) hx hb d_Layout_lay_65 (by decide) ?_
        refine qj_sub [1, 2, 3, 0] rfl ?_
        exact ih44 (x12 + 1) M18 hf
  refine qj_sub [1, 2, 3, 0] rfl ?_
  refine hL44 _ _ (fun M19 hf9 => ?_) 0 M11 hf
  clear hf; have hf := hf9; clear hf9
  refine qj_aload_n hx hb d_Layout_lay_68 rfl 0 rfl ?_
  refine qj_aload_n hx hb d_Layout_lay_69 rfl 1 rfl ?_
  refine qj_get hx hb hts hin_5 hown hK (q_in (rfl : tcX 1 = 1) (by decide)) (en_1 (rfl : tcX 1 = 1)) rfl 4 (by decide) (hts _ tw_830) (fun _ h => h) (qr (some 7)) rfl d_Layout_lay_70 ?_
  refine qj_iconst (v := 0) hx hb d_Layout_lay_73 (by decide) ?_
  refine qj_iconst (v := 0) hx hb d_Layout_lay_74 (by decide) ?_
  refine qj_iload_n hx hb d_Layout_lay_75 rfl 2 rfl ?_
  refine qj_iconst (v := 0) hx hb d_Layout_lay_76 (by decide) ?_
  have hf9 := q_cv_s hf; clear hf; obtain ⟨M20, hM20, hf⟩ := hf9
  refine qc_Vv (st := []) hx hb hml hown hts hK (qX_ok _ _ _ _) hs (c_Layout_layBox 27 7 0 0 a2 0 (rfl : tcX 7 = 7) M19 _ hM20) ⟨(callB_of 5 hts (q_good tw_791) rfl rfl rfl (hts _ tw_430) (hts _ tw_792) (by decide +kernel) (by constructor <;> dsimp only [rm_Layout_layBox, rm_Layout_lay] <;> omega)), (hts _ tw_793), (hts _ tw_794)⟩ (q_in (rfl : tcX 364 = 24) (by decide)) (en_24 (rfl : tcX 364 = 24)) rfl rfl rfl (Nat.le_of_ble_eq_true rfl) d_Layout_lay_77 ?_
  exact hret _ _ _ d_Layout_lay_80 (Option.some.inj hf)
theorem d_Pg_layout_0 : decode prog_1_method_13_code 0 = .ok (.iload_n 1, 1) := by decide +kernel
theorem d_Pg_layout_1 : decode prog_1_method_13_code 1 = .ok (.iconst 1, 1) := by decide +kernel
theorem d_Pg_layout_2 : decode prog_1_method_13_code 2 = .ok (.if_icmp .lt 19, 3) := by decide +kernel
theorem d_Pg_layout_5 : decode prog_1_method_13_code 5 = .ok (.iload_n 1, 1) := by decide +kernel
theorem d_Pg_layout_6 : decode prog_1_method_13_code 6 = .ok (.bipush 64, 2) := by decide +kernel
theorem d_Pg_layout_8 : decode prog_1_method_13_code 8 = .ok (.if_icmp .gt 13, 3) := by decide +kernel
theorem d_Pg_layout_11 : decode prog_1_method_13_code 11 = .ok (.aload_n 0, 1) := by decide +kernel
theorem d_Pg_layout_12 : decode prog_1_method_13_code 12 = .ok (.getfield 10, 3) := by decide +kernel
theorem d_Pg_layout_15 : decode prog_1_method_13_code 15 = .ok (.getfield 48, 3) := by decide +kernel
theorem d_Pg_layout_18 : decode prog_1_method_13_code 18 = .ok (.ifCond .eq 5, 3) := by decide +kernel
theorem d_Pg_layout_21 : decode prog_1_method_13_code 21 = .ok (.iconst (-1), 1) := by decide +kernel
theorem d_Pg_layout_22 : decode prog_1_method_13_code 22 = .ok (.ireturn, 1) := by decide +kernel
theorem d_Pg_layout_23 : decode prog_1_method_13_code 23 = .ok (.aload_n 0, 1) := by decide +kernel
theorem d_Pg_layout_24 : decode prog_1_method_13_code 24 = .ok (.invokevirtual 122, 3) := by decide +kernel
theorem d_Pg_layout_27 : decode prog_1_method_13_code 27 = .ok (.aload_n 0, 1) := by decide +kernel
theorem d_Pg_layout_28 : decode prog_1_method_13_code 28 = .ok (.getfield 33, 3) := by decide +kernel
theorem d_Pg_layout_31 : decode prog_1_method_13_code 31 = .ok (.aload_n 0, 1) := by decide +kernel
theorem d_Pg_layout_32 : decode prog_1_method_13_code 32 = .ok (.getfield 10, 3) := by decide +kernel
theorem d_Pg_layout_35 : decode prog_1_method_13_code 35 = .ok (.iload_n 1, 1) := by decide +kernel
theorem d_Pg_layout_36 : decode prog_1_method_13_code 36 = .ok (.invokevirtual 129, 3) := by decide +kernel
theorem d_Pg_layout_39 : decode prog_1_method_13_code 39 = .ok (.aload_n 0, 1) := by decide +kernel
theorem d_Pg_layout_40 : decode prog_1_method_13_code 40 = .ok (.iconst 1, 1) := by decide +kernel
theorem d_Pg_layout_41 : decode prog_1_method_13_code 41 = .ok (.putfield 133, 3) := by decide +kernel
theorem d_Pg_layout_44 : decode prog_1_method_13_code 44 = .ok (.aload_n 0, 1) := by decide +kernel
theorem d_Pg_layout_45 : decode prog_1_method_13_code 45 = .ok (.getfield 10, 3) := by decide +kernel
theorem d_Pg_layout_48 : decode prog_1_method_13_code 48 = .ok (.getfield 136, 3) := by decide +kernel
theorem d_Pg_layout_51 : decode prog_1_method_13_code 51 = .ok (.getfield 139, 3) := by decide +kernel
theorem d_Pg_layout_54 : decode prog_1_method_13_code 54 = .ok (.getfield 143, 3) := by decide +kernel
theorem d_Pg_layout_57 : decode prog_1_method_13_code 57 = .ok (.ireturn, 1) := by decide +kernel
def f_Pg_layout (a1 : Int32) (M : qM) : Option (Int32 × qM) := if a1 < 1 then (some ((-1), M)) else (if 64 < a1 then (some ((-1), M)) else (if (M.1 1 7) = 0 then (q_cv (f_Pg_dress M) fun M4 => q_cv (f_Layout_lay a1 M4) fun M5 => q_lt (qsI M5 0 7 1) fun M6 => some (M6.1 11 4, M6)) else (some ((-1), M))))
abbrev rm_Pg_layout : Room := { frames := 1092, cells := 0, slots := 0, locals := 32652 }
set_option maxRecDepth 100000 in
set_option maxHeartbeats 4000000 in
theorem c_Pg_layout {l : Launch} {D : va_G} {dA : Nat → ClassId} {b : Nat} {adK adV : Nat → Nat} (a1 : Int32)  (M : qM) (out : Int32 × qM) (hf : f_Pg_layout a1 M = some out) : CTi l y_Pg_layout w_Pg_layout rm_Pg_layout D (tysX dA) (enX dA b) 367 b (qX adK adV 367 b) [qr (some 0), qi a1] M out := by
  refine qm_i (cc := prog_1_method_13_code) (nL := 2) (by decide) rfl (Nat.le_of_ble_eq_true rfl) ?_
  intro p e s m args below meth c Q hx hb hts0 hown hml hK hs hret
  have hts : ∀ w ∈ lw_g, w.before args s = true := fun w h => hts0 w (List.mem_cons_of_mem _ h)
  show QJ p l e rm_Pg_layout s m args below meth c (qA 367 b) b 2 0 0 Q (qWd D (enX dA b) 367 b) M 0 [(0, qr (some 0)), (1, qi a1)] []
  unfold f_Pg_layout at hf
  refine qj_iload_n hx hb d_Pg_layout_0 rfl 1 rfl ?_
  refine qj_iconst (v := 1) hx hb d_Pg_layout_1 (by decide) ?_
  refine qj_icmp_lt (tgt := 21) hx hb d_Pg_layout_2 (by decide) (fun hc1 => ?_) (fun hc1 => ?_)
  · replace hf := q_if_t hc1 hf
    refine qj_iconst (v := (-1)) hx hb d_Pg_layout_21 (by decide) ?_
    exact hret _ _ _ _ d_Pg_layout_22 (Option.some.inj hf)
  · replace hf := q_if_f hc1 hf
    refine qj_iload_n hx hb d_Pg_layout_5 rfl 1 rfl ?_
    refine qj_bipush (v := 64) hx hb d_Pg_layout_6 (by decide) ?_
    refine qj_icmp_gt (tgt := 21) hx hb d_Pg_layout_8 (by decide) (fun hc2 => ?_) (fun hc2 => ?_)
    · replace hf := q_if_t hc2 hf
      refine qj_iconst (v := (-1)) hx hb d_Pg_layout_21 (by decide) ?_
      exact hret _ _ _ _ d_Pg_layout_22 (Option.some.inj hf)
    · replace hf := q_if_f hc2 hf
      refine qj_aload_n hx hb d_Pg_layout_11 rfl 0 rfl ?_
      refine qj_get hx hb hts hin_11 hown hK (q_in (rfl : tcX 0 = 0) (by decide)) (en_0 (rfl : tcX 0 = 0)) rfl 0 (by decide) (hts _ tw_240) (fun _ h => h) (qr (some 1)) rfl d_Pg_layout_12 ?_
      refine qj_get hx hb hts hin_5 hown hK (q_in (rfl : tcX 1 = 1) (by decide)) (en_1 (rfl : tcX 1 = 1)) rfl 7 (by decide) (hts _ tw_241) (fun _ h => h) (qi (M.1 1 7)) rfl d_Pg_layout_15 ?_
      refine qj_if_eq (tgt := 23) hx hb d_Pg_layout_18 (by decide) (fun hc3 => ?_) (fun hc3 => ?_)
      · replace hf := q_if_t hc3 hf
        refine qj_aload_n hx hb d_Pg_layout_23 rfl 0 rfl ?_
        have hf9 := q_cv_s hf; clear hf; obtain ⟨M4, hM4, hf⟩ := hf9
        refine qc_Vv (st := []) hx hb hml hown hts hK (qX_ok _ _ _ _) hs (c_Pg_dress  M _ hM4) ⟨(callB_of 0 hts (q_good tw_776) rfl rfl rfl (hts _ tw_4) (hts _ tw_777) (by decide +kernel) ⟨by decide, by decide⟩), (hts _ tw_778), (hts _ tw_779)⟩ (q_in (rfl : tcX 0 = 0) (by decide)) (en_0 (rfl : tcX 0 = 0)) rfl rfl rfl (Nat.le_of_ble_eq_true rfl) d_Pg_layout_24 ?_
        refine qj_aload_n hx hb d_Pg_layout_27 rfl 0 rfl ?_
        refine qj_get hx hb hts hin_11 hown hK (q_in (rfl : tcX 0 = 0) (by decide)) (en_0 (rfl : tcX 0 = 0)) rfl 3 (by decide) (hts _ tw_415) (fun _ h => h) (qr (some 364)) rfl d_Pg_layout_28 ?_
        refine qj_aload_n hx hb d_Pg_layout_31 rfl 0 rfl ?_
        refine qj_get hx hb hts hin_11 hown hK (q_in (rfl : tcX 0 = 0) (by decide)) (en_0 (rfl : tcX 0 = 0)) rfl 0 (by decide) (hts _ tw_240) (fun _ h => h) (qr (some 1)) rfl d_Pg_layout_32 ?_
        refine qj_iload_n hx hb d_Pg_layout_35 rfl 1 rfl ?_
        have hf9 := q_cv_s hf; clear hf; obtain ⟨M5, hM5, hf⟩ := hf9
        refine qc_Vv (st := []) hx hb hml hown hts hK (qX_ok _ _ _ _) hs (c_Layout_lay a1 M4 _ hM5) ⟨(callB_of 2 hts (q_good tw_831) rfl rfl rfl (hts _ tw_430) (hts _ tw_832) (by decide +kernel) ⟨by decide, by decide⟩), (hts _ tw_833), (hts _ tw_834)⟩ (q_in (rfl : tcX 364 = 24) (by decide)) (en_24 (rfl : tcX 364 = 24)) rfl rfl rfl (Nat.le_of_ble_eq_true rfl) d_Pg_layout_36 ?_
        refine qj_aload_n hx hb d_Pg_layout_39 rfl 0 rfl ?_
        refine qj_iconst (v := 1) hx hb d_Pg_layout_40 (by decide) ?_
        have hf9 := q_lt_s hf; clear hf; obtain ⟨M6, eM6, hf⟩ := hf9
        refine qj_puti (ty := .boolean) hx hb hts hin_11 ty_11 tyok_11 nm_11 hown hK (q_in (rfl : tcX 0 = 0) (by decide)) (en_0 (rfl : tcX 0 = 0)) rfl 7 (by decide) (hts _ tw_0) (fun _ h => h) rfl (by decide +kernel) rfl rfl (Nat.le_of_ble_eq_true rfl) (sp_0_7 (rfl : tcX 0 = 0)) eM6 d_Pg_layout_41 ?_
        refine qj_aload_n hx hb d_Pg_layout_44 rfl 0 rfl ?_
        refine qj_get hx hb hts hin_11 hown hK (q_in (rfl : tcX 0 = 0) (by decide)) (en_0 (rfl : tcX 0 = 0)) rfl 0 (by decide) (hts _ tw_240) (fun _ h => h) (qr (some 1)) rfl d_Pg_layout_45 ?_
        refine qj_get hx hb hts hin_5 hown hK (q_in (rfl : tcX 1 = 1) (by decide)) (en_1 (rfl : tcX 1 = 1)) rfl 4 (by decide) (hts _ tw_835) (fun _ h => h) (qr (some 7)) rfl d_Pg_layout_48 ?_
        refine qj_get hx hb hts hin_3 hown hK (q_in (rfl : tcX 7 = 7) (by decide)) (en_7 (rfl : tcX 7 = 7)) rfl 13 (by decide) (hts _ tw_405) (fun _ h => h) (qr (some 11)) rfl d_Pg_layout_51 ?_
        refine qj_get hx hb hts hin_0 hown hK (q_in (rfl : tcX 11 = 11) (by decide)) (en_11 (rfl : tcX 11 = 11)) rfl 4 (by decide) (hts _ tw_410) (fun _ h => h) (qi (M6.1 11 4)) rfl d_Pg_layout_54 ?_
        exact hret _ _ _ _ d_Pg_layout_57 (Option.some.inj hf)
      · replace hf := q_if_f hc3 hf
        refine qj_iconst (v := (-1)) hx hb d_Pg_layout_21 (by decide) ?_
        exact hret _ _ _ _ d_Pg_layout_22 (Option.some.inj hf)
