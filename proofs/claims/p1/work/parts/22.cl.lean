theorem d_Rule_readPart_0 : decode prog_8_method_4_code 0 = .ok (.aload_n 0, 1) := by decide +kernel
theorem d_Rule_readPart_1 : decode prog_8_method_4_code 1 = .ok (.getfield 35, 3) := by decide +kernel
theorem d_Rule_readPart_4 : decode prog_8_method_4_code 4 = .ok (.istore_n 3, 1) := by decide +kernel
theorem d_Rule_readPart_5 : decode prog_8_method_4_code 5 = .ok (.aload_n 0, 1) := by decide +kernel
theorem d_Rule_readPart_6 : decode prog_8_method_4_code 6 = .ok (.getfield 9, 3) := by decide +kernel
theorem d_Rule_readPart_9 : decode prog_8_method_4_code 9 = .ok (.aload_n 0, 1) := by decide +kernel
theorem d_Rule_readPart_10 : decode prog_8_method_4_code 10 = .ok (.getfield 42, 3) := by decide +kernel
theorem d_Rule_readPart_13 : decode prog_8_method_4_code 13 = .ok (.iconst (-1), 1) := by decide +kernel
theorem d_Rule_readPart_14 : decode prog_8_method_4_code 14 = .ok (.iastore, 1) := by decide +kernel
theorem d_Rule_readPart_15 : decode prog_8_method_4_code 15 = .ok (.aload_n 0, 1) := by decide +kernel
theorem d_Rule_readPart_16 : decode prog_8_method_4_code 16 = .ok (.getfield 15, 3) := by decide +kernel
theorem d_Rule_readPart_19 : decode prog_8_method_4_code 19 = .ok (.aload_n 0, 1) := by decide +kernel
theorem d_Rule_readPart_20 : decode prog_8_method_4_code 20 = .ok (.getfield 42, 3) := by decide +kernel
theorem d_Rule_readPart_23 : decode prog_8_method_4_code 23 = .ok (.iconst 0, 1) := by decide +kernel
theorem d_Rule_readPart_24 : decode prog_8_method_4_code 24 = .ok (.iastore, 1) := by decide +kernel
theorem d_Rule_readPart_25 : decode prog_8_method_4_code 25 = .ok (.aload_n 0, 1) := by decide +kernel
theorem d_Rule_readPart_26 : decode prog_8_method_4_code 26 = .ok (.getfield 35, 3) := by decide +kernel
theorem d_Rule_readPart_29 : decode prog_8_method_4_code 29 = .ok (.iload_n 2, 1) := by decide +kernel
theorem d_Rule_readPart_30 : decode prog_8_method_4_code 30 = .ok (.if_icmp .ge 53, 3) := by decide +kernel
theorem d_Rule_readPart_33 : decode prog_8_method_4_code 33 = .ok (.aload_n 1, 1) := by decide +kernel
theorem d_Rule_readPart_34 : decode prog_8_method_4_code 34 = .ok (.aload_n 0, 1) := by decide +kernel
theorem d_Rule_readPart_35 : decode prog_8_method_4_code 35 = .ok (.getfield 35, 3) := by decide +kernel
theorem d_Rule_readPart_38 : decode prog_8_method_4_code 38 = .ok (.caload, 1) := by decide +kernel
theorem d_Rule_readPart_39 : decode prog_8_method_4_code 39 = .ok (.invokestatic 49, 3) := by decide +kernel
theorem d_Rule_readPart_42 : decode prog_8_method_4_code 42 = .ok (.ifCond .eq 41, 3) := by decide +kernel
theorem d_Rule_readPart_45 : decode prog_8_method_4_code 45 = .ok (.aload_n 0, 1) := by decide +kernel
theorem d_Rule_readPart_46 : decode prog_8_method_4_code 46 = .ok (.getfield 9, 3) := by decide +kernel
theorem d_Rule_readPart_49 : decode prog_8_method_4_code 49 = .ok (.aload_n 0, 1) := by decide +kernel
theorem d_Rule_readPart_50 : decode prog_8_method_4_code 50 = .ok (.getfield 42, 3) := by decide +kernel
theorem d_Rule_readPart_53 : decode prog_8_method_4_code 53 = .ok (.aload_n 1, 1) := by decide +kernel
theorem d_Rule_readPart_54 : decode prog_8_method_4_code 54 = .ok (.aload_n 0, 1) := by decide +kernel
theorem d_Rule_readPart_55 : decode prog_8_method_4_code 55 = .ok (.getfield 35, 3) := by decide +kernel
theorem d_Rule_readPart_58 : decode prog_8_method_4_code 58 = .ok (.caload, 1) := by decide +kernel
theorem d_Rule_readPart_59 : decode prog_8_method_4_code 59 = .ok (.iastore, 1) := by decide +kernel
theorem d_Rule_readPart_60 : decode prog_8_method_4_code 60 = .ok (.aload_n 0, 1) := by decide +kernel
theorem d_Rule_readPart_61 : decode prog_8_method_4_code 61 = .ok (.dup, 1) := by decide +kernel
theorem d_Rule_readPart_62 : decode prog_8_method_4_code 62 = .ok (.getfield 32, 3) := by decide +kernel
theorem d_Rule_readPart_65 : decode prog_8_method_4_code 65 = .ok (.iconst 1, 1) := by decide +kernel
theorem d_Rule_readPart_66 : decode prog_8_method_4_code 66 = .ok (.iadd, 1) := by decide +kernel
theorem d_Rule_readPart_67 : decode prog_8_method_4_code 67 = .ok (.putfield 32, 3) := by decide +kernel
theorem d_Rule_readPart_70 : decode prog_8_method_4_code 70 = .ok (.aload_n 0, 1) := by decide +kernel
theorem d_Rule_readPart_71 : decode prog_8_method_4_code 71 = .ok (.dup, 1) := by decide +kernel
theorem d_Rule_readPart_72 : decode prog_8_method_4_code 72 = .ok (.getfield 35, 3) := by decide +kernel
theorem d_Rule_readPart_75 : decode prog_8_method_4_code 75 = .ok (.iconst 1, 1) := by decide +kernel
theorem d_Rule_readPart_76 : decode prog_8_method_4_code 76 = .ok (.iadd, 1) := by decide +kernel
theorem d_Rule_readPart_77 : decode prog_8_method_4_code 77 = .ok (.putfield 35, 3) := by decide +kernel
theorem d_Rule_readPart_80 : decode prog_8_method_4_code 80 = .ok (.goto 32, 3) := by decide +kernel
theorem d_Rule_readPart_83 : decode prog_8_method_4_code 83 = .ok (.aload_n 0, 1) := by decide +kernel
theorem d_Rule_readPart_84 : decode prog_8_method_4_code 84 = .ok (.getfield 35, 3) := by decide +kernel
theorem d_Rule_readPart_87 : decode prog_8_method_4_code 87 = .ok (.iload_n 2, 1) := by decide +kernel
theorem d_Rule_readPart_88 : decode prog_8_method_4_code 88 = .ok (.if_icmp .ge 24, 3) := by decide +kernel
theorem d_Rule_readPart_91 : decode prog_8_method_4_code 91 = .ok (.aload_n 1, 1) := by decide +kernel
theorem d_Rule_readPart_92 : decode prog_8_method_4_code 92 = .ok (.aload_n 0, 1) := by decide +kernel
theorem d_Rule_readPart_93 : decode prog_8_method_4_code 93 = .ok (.getfield 35, 3) := by decide +kernel
theorem d_Rule_readPart_96 : decode prog_8_method_4_code 96 = .ok (.caload, 1) := by decide +kernel
theorem d_Rule_readPart_97 : decode prog_8_method_4_code 97 = .ok (.bipush 42, 2) := by decide +kernel
theorem d_Rule_readPart_99 : decode prog_8_method_4_code 99 = .ok (.if_icmp .ne 13, 3) := by decide +kernel
theorem d_Rule_readPart_102 : decode prog_8_method_4_code 102 = .ok (.aload_n 0, 1) := by decide +kernel
theorem d_Rule_readPart_103 : decode prog_8_method_4_code 103 = .ok (.dup, 1) := by decide +kernel
theorem d_Rule_readPart_104 : decode prog_8_method_4_code 104 = .ok (.getfield 35, 3) := by decide +kernel
theorem d_Rule_readPart_107 : decode prog_8_method_4_code 107 = .ok (.iconst 1, 1) := by decide +kernel
theorem d_Rule_readPart_108 : decode prog_8_method_4_code 108 = .ok (.iadd, 1) := by decide +kernel
theorem d_Rule_readPart_109 : decode prog_8_method_4_code 109 = .ok (.putfield 35, 3) := by decide +kernel
theorem d_Rule_readPart_112 : decode prog_8_method_4_code 112 = .ok (.aload_n 0, 1) := by decide +kernel
theorem d_Rule_readPart_113 : decode prog_8_method_4_code 113 = .ok (.getfield 35, 3) := by decide +kernel
theorem d_Rule_readPart_116 : decode prog_8_method_4_code 116 = .ok (.iload_n 2, 1) := by decide +kernel
theorem d_Rule_readPart_117 : decode prog_8_method_4_code 117 = .ok (.if_icmp .ge 61, 3) := by decide +kernel
theorem d_Rule_readPart_120 : decode prog_8_method_4_code 120 = .ok (.aload_n 1, 1) := by decide +kernel
theorem d_Rule_readPart_121 : decode prog_8_method_4_code 121 = .ok (.aload_n 0, 1) := by decide +kernel
theorem d_Rule_readPart_122 : decode prog_8_method_4_code 122 = .ok (.getfield 35, 3) := by decide +kernel
theorem d_Rule_readPart_125 : decode prog_8_method_4_code 125 = .ok (.caload, 1) := by decide +kernel
theorem d_Rule_readPart_126 : decode prog_8_method_4_code 126 = .ok (.invokestatic 53, 3) := by decide +kernel
theorem d_Rule_readPart_129 : decode prog_8_method_4_code 129 = .ok (.ifCond .eq 49, 3) := by decide +kernel
theorem d_Rule_readPart_132 : decode prog_8_method_4_code 132 = .ok (.aload_n 0, 1) := by decide +kernel
theorem d_Rule_readPart_133 : decode prog_8_method_4_code 133 = .ok (.getfield 15, 3) := by decide +kernel
theorem d_Rule_readPart_136 : decode prog_8_method_4_code 136 = .ok (.aload_n 0, 1) := by decide +kernel
theorem d_Rule_readPart_137 : decode prog_8_method_4_code 137 = .ok (.getfield 42, 3) := by decide +kernel
theorem d_Rule_readPart_140 : decode prog_8_method_4_code 140 = .ok (.dup2, 1) := by decide +kernel
theorem d_Rule_readPart_141 : decode prog_8_method_4_code 141 = .ok (.iaload, 1) := by decide +kernel
theorem d_Rule_readPart_142 : decode prog_8_method_4_code 142 = .ok (.iconst 1, 1) := by decide +kernel
theorem d_Rule_readPart_143 : decode prog_8_method_4_code 143 = .ok (.aload_n 1, 1) := by decide +kernel
theorem d_Rule_readPart_144 : decode prog_8_method_4_code 144 = .ok (.aload_n 0, 1) := by decide +kernel
theorem d_Rule_readPart_145 : decode prog_8_method_4_code 145 = .ok (.getfield 35, 3) := by decide +kernel
theorem d_Rule_readPart_148 : decode prog_8_method_4_code 148 = .ok (.caload, 1) := by decide +kernel
theorem d_Rule_readPart_149 : decode prog_8_method_4_code 149 = .ok (.bipush 65, 2) := by decide +kernel
theorem d_Rule_readPart_151 : decode prog_8_method_4_code 151 = .ok (.isub, 1) := by decide +kernel
theorem d_Rule_readPart_152 : decode prog_8_method_4_code 152 = .ok (.ishl, 1) := by decide +kernel
theorem d_Rule_readPart_153 : decode prog_8_method_4_code 153 = .ok (.ior, 1) := by decide +kernel
theorem d_Rule_readPart_154 : decode prog_8_method_4_code 154 = .ok (.iastore, 1) := by decide +kernel
theorem d_Rule_readPart_155 : decode prog_8_method_4_code 155 = .ok (.aload_n 0, 1) := by decide +kernel
theorem d_Rule_readPart_156 : decode prog_8_method_4_code 156 = .ok (.dup, 1) := by decide +kernel
theorem d_Rule_readPart_157 : decode prog_8_method_4_code 157 = .ok (.getfield 28, 3) := by decide +kernel
theorem d_Rule_readPart_160 : decode prog_8_method_4_code 160 = .ok (.iconst 1, 1) := by decide +kernel
theorem d_Rule_readPart_161 : decode prog_8_method_4_code 161 = .ok (.iadd, 1) := by decide +kernel
theorem d_Rule_readPart_162 : decode prog_8_method_4_code 162 = .ok (.putfield 28, 3) := by decide +kernel
theorem d_Rule_readPart_165 : decode prog_8_method_4_code 165 = .ok (.aload_n 0, 1) := by decide +kernel
theorem d_Rule_readPart_166 : decode prog_8_method_4_code 166 = .ok (.dup, 1) := by decide +kernel
theorem d_Rule_readPart_167 : decode prog_8_method_4_code 167 = .ok (.getfield 35, 3) := by decide +kernel
theorem d_Rule_readPart_170 : decode prog_8_method_4_code 170 = .ok (.iconst 1, 1) := by decide +kernel
theorem d_Rule_readPart_171 : decode prog_8_method_4_code 171 = .ok (.iadd, 1) := by decide +kernel
theorem d_Rule_readPart_172 : decode prog_8_method_4_code 172 = .ok (.putfield 35, 3) := by decide +kernel
theorem d_Rule_readPart_175 : decode prog_8_method_4_code 175 = .ok (.goto (-63), 3) := by decide +kernel
theorem d_Rule_readPart_178 : decode prog_8_method_4_code 178 = .ok (.aload_n 0, 1) := by decide +kernel
theorem d_Rule_readPart_179 : decode prog_8_method_4_code 179 = .ok (.getfield 35, 3) := by decide +kernel
theorem d_Rule_readPart_182 : decode prog_8_method_4_code 182 = .ok (.iload_n 3, 1) := by decide +kernel
theorem d_Rule_readPart_183 : decode prog_8_method_4_code 183 = .ok (.if_icmp .le 7, 3) := by decide +kernel
theorem d_Rule_readPart_186 : decode prog_8_method_4_code 186 = .ok (.iconst 1, 1) := by decide +kernel
theorem d_Rule_readPart_187 : decode prog_8_method_4_code 187 = .ok (.goto 4, 3) := by decide +kernel
theorem d_Rule_readPart_190 : decode prog_8_method_4_code 190 = .ok (.iconst 0, 1) := by decide +kernel
theorem d_Rule_readPart_191 : decode prog_8_method_4_code 191 = .ok (.ireturn, 1) := by decide +kernel
def f_Rule_readPart_112 (a2 : Int32) (q0 : Nat) : Nat → (qM → Option (Int32 × qM)) → qM → Option (Int32 × qM)
  | 0, _, _ => none
  | n + 1, K7, M6 => if a2 ≤ (M6.1 q0 8) then (K7 M6) else (q_ix (M6.1 q0 8) 120 <| q_bp (f_Pg_isCapital (M6.1 291 (M6.1 q0 8).toNatClampNeg) M6) fun x10 => if x10 = 0 then (K7 M6) else (q_ix (M6.1 q0 5) 4 <| q_ix (M6.1 q0 8) 120 <| q_ix (M6.1 q0 5) 4 <| q_lt (qsI M6 (q0 + 2) (M6.1 q0 5).toNatClampNeg ((M6.1 (q0 + 2) (M6.1 q0 5).toNatClampNeg) ||| (1 <<< (((M6.1 291 (M6.1 q0 8).toNatClampNeg) - 65) &&& 31)))) fun M15 => q_lt (qsI M15 q0 6 ((M15.1 q0 6) + 1)) fun M16 => q_lt (qsI M16 q0 8 ((M16.1 q0 8) + 1)) fun M17 => f_Rule_readPart_112 a2 q0 n K7 M17))
def f_Rule_readPart (q0 : Nat) (a2 : Int32) (M : qM) : Option (Int32 × qM) := q_ix (M.1 q0 5) 4 <| q_lt (qsI M (q0 + 1) (M.1 q0 5).toNatClampNeg (-1)) fun M2 => q_ix (M2.1 q0 5) 4 <| q_lt (qsI M2 (q0 + 2) (M2.1 q0 5).toNatClampNeg 0) fun M4 => q_lt (fun (M5 : qM) => f_Rule_readPart_112 a2 q0 1000 (fun (M18 : qM) => if (M18.1 q0 8) ≤ (M.1 q0 8) then (some (0, M18)) else (some (1, M18))) M5) fun (j20 : qM → Option (Int32 × qM)) => q_lt (if a2 ≤ (M4.1 q0 8) then (j20 M4) else (q_ix (M4.1 q0 8) 120 <| if (M4.1 291 (M4.1 q0 8).toNatClampNeg) = 42 then (q_lt (qsI M4 q0 8 ((M4.1 q0 8) + 1)) fun M24 => j20 M24) else (j20 M4))) fun (j25 : Option (Int32 × qM)) => if a2 ≤ (M4.1 q0 8) then (j25) else (q_ix (M4.1 q0 8) 120 <| q_bp (f_Pg_isSmall (M4.1 291 (M4.1 q0 8).toNatClampNeg) M4) fun x28 => if x28 = 0 then (j25) else (q_ix (M4.1 q0 8) 120 <| q_ix (M4.1 q0 5) 4 <| q_lt (qsI M4 (q0 + 1) (M4.1 q0 5).toNatClampNeg (M4.1 291 (M4.1 q0 8).toNatClampNeg)) fun M32 => q_lt (qsI M32 q0 7 ((M32.1 q0 7) + 1)) fun M33 => q_lt (qsI M33 q0 8 ((M33.1 q0 8) + 1)) fun M34 => j20 M34))
abbrev rm_Rule_readPart : Room := { frames := 1, cells := 0, slots := 0, locals := 20 }
set_option maxRecDepth 100000 in
set_option maxHeartbeats 4000000 in
theorem c_Rule_readPart {l : Launch} {D : va_G} {dA : Nat → ClassId} {b : Nat} {adK adV : Nat → Nat} (q0 : Nat) (a2 : Int32) (tq0 : tcX q0 = 18) (M : qM) (out : Int32 × qM) (hf : f_Rule_readPart q0 a2 M = some out) : CTi l y_Rule_readPart w_Rule_readPart rm_Rule_readPart D (tysX dA) (enX dA b) 367 b (qX adK adV 367 b) [qr (some q0), qr (some 291), qi a2] M out := by
  refine qm_z (cc := prog_8_method_4_code) (nL := 4) (by decide) rfl (Nat.le_of_ble_eq_true rfl) ?_
  intro p e s m args below meth c Q hx hb hts0 hown hml hK hs hret
  have hts : ∀ w ∈ lw_g, w.before args s = true := fun w h => hts0 w (List.mem_cons_of_mem _ h)
  show QJ p l e rm_Rule_readPart s m args below meth c (qA 367 b) b 4 0 0 Q (qWd D (enX dA b) 367 b) M 0 [(0, qr (some q0)), (1, qr (some 291)), (2, qi a2)] []
  unfold f_Rule_readPart at hf
  refine qj_aload_n hx hb d_Rule_readPart_0 rfl 0 rfl ?_
  refine qj_get hx hb hts hin_7 hown hK (q_in tq0 (by decide)) (en_18 tq0) rfl 8 (by decide) (hts _ tw_255) (fun _ h => h) (qi (M.1 q0 8)) rfl d_Rule_readPart_1 ?_
  refine qj_istore_n hx hb d_Rule_readPart_4 rfl (by decide) rfl ?_
  refine qj_aload_n hx hb d_Rule_readPart_5 rfl 1 rfl ?_
  refine qj_get hx hb hts hin_7 hown hK (q_in tq0 (by decide)) (en_18 tq0) rfl 0 (by decide) (hts _ tw_256) (fun _ h => h) (qr (some (q0 + 1))) rfl d_Rule_readPart_6 ?_
  refine qj_aload_n hx hb d_Rule_readPart_9 rfl 1 rfl ?_
  refine qj_get hx hb hts hin_7 hown hK (q_in tq0 (by decide)) (en_18 tq0) rfl 5 (by decide) (hts _ tw_257) (fun _ h => h) (qi (M.1 q0 5)) rfl d_Rule_readPart_10 ?_
  refine qj_iconst (v := (-1)) hx hb d_Rule_readPart_13 (by decide) ?_
  have hf9 := q_ix_s hf; clear hf; obtain ⟨hi1, hf⟩ := hf9
  have hf9 := q_lt_s hf; clear hf; obtain ⟨M2, eM2, hf⟩ := hf9
  refine qj_iast (t0 := 0) hx hb hK (q_in (tc_18_1 tq0) (by decide)) (en_19 (tc_18_1 tq0)) rfl hi1 eM2 d_Rule_readPart_14 ?_
  refine qj_aload_n hx hb d_Rule_readPart_15 rfl 1 rfl ?_
  refine qj_get hx hb hts hin_7 hown hK (q_in tq0 (by decide)) (en_18 tq0) rfl 1 (by decide) (hts _ tw_258) (fun _ h => h) (qr (some (q0 + 2))) rfl d_Rule_readPart_16 ?_
  refine qj_aload_n hx hb d_Rule_readPart_19 rfl 1 rfl ?_
  refine qj_get hx hb hts hin_7 hown hK (q_in tq0 (by decide)) (en_18 tq0) rfl 5 (by decide) (hts _ tw_257) (fun _ h => h) (qi (M2.1 q0 5)) rfl d_Rule_readPart_20 ?_
  refine qj_iconst (v := 0) hx hb d_Rule_readPart_23 (by decide) ?_
  have hf9 := q_ix_s hf; clear hf; obtain ⟨hi3, hf⟩ := hf9
  have hf9 := q_lt_s hf; clear hf; obtain ⟨M4, eM4, hf⟩ := hf9
  refine qj_iast (t0 := 0) hx hb hK (q_in (tc_18_2 tq0) (by decide)) (en_20 (tc_18_2 tq0)) rfl hi3 eM4 d_Rule_readPart_24 ?_
  refine qj_aload_n hx hb d_Rule_readPart_25 rfl 1 rfl ?_
  refine qj_get hx hb hts hin_7 hown hK (q_in tq0 (by decide)) (en_18 tq0) rfl 8 (by decide) (hts _ tw_255) (fun _ h => h) (qi (M4.1 q0 8)) rfl d_Rule_readPart_26 ?_
  refine qj_iload_n hx hb d_Rule_readPart_29 rfl 3 rfl ?_
  have hf9 := q_lt_s hf; clear hf; obtain ⟨j20, ej20, hf⟩ := hf9
  have hj20 : ∀ (M5 : qM), j20 M5 = some out → QJ p l e rm_Rule_readPart s m args below meth c (qA 367 b) b 4 0 0 Q (qWd D (enX dA b) 367 b) M5 112 [(0, qr (some q0)), (1, qr (some 291)), (2, qi a2), (3, qi (M.1 q0 8))] [] := by
    clear hf
    intro M5 hf
    rw [ej20] at hf
    have hL112 : ∀ (n : Nat) (K7 : qM → Option (Int32 × qM)), (∀ (M18 : qM), K7 M18 = some out → QJ p l e rm_Rule_readPart s m args below meth c (qA 367 b) b 4 0 0 Q (qWd D (enX dA b) 367 b) M18 178 [(0, qr (some q0)), (3, qi (M.1 q0 8))] []) → ∀ (M6 : qM), f_Rule_readPart_112 a2 q0 n K7 M6 = some out → QJ p l e rm_Rule_readPart s m args below meth c (qA 367 b) b 4 0 0 Q (qWd D (enX dA b) 367 b) M6 112 [(0, qr (some q0)), (1, qr (some 291)), (2, qi a2), (3, qi (M.1 q0 8))] [] := by
      clear hf
      intro n
      induction n with
      | zero =>
        intro K7 hK7 M6 hf
        exact absurd hf (by simp [f_Rule_readPart_112])
      | succ n ih112 =>
        intro K7 hK7 M6 hf
        rw [f_Rule_readPart_112] at hf
        have ih112 := ih112 K7 hK7
        refine qj_aload_n hx hb d_Rule_readPart_112 rfl 0 rfl ?_
        refine qj_get hx hb hts hin_7 hown hK (q_in tq0 (by decide)) (en_18 tq0) rfl 8 (by decide) (hts _ tw_255) (fun _ h => h) (qi (M6.1 q0 8)) rfl d_Rule_readPart_113 ?_
        refine qj_iload_n hx hb d_Rule_readPart_116 rfl 2 rfl ?_
        refine qj_icmp_ge (tgt := 178) hx hb d_Rule_readPart_117 (by decide) (fun hc8 => ?_) (fun hc8 => ?_)
        · replace hf := q_if_t hc8 hf
          refine qj_sub [0, 3] rfl ?_
          exact hK7 M6 hf
        · replace hf := q_if_f hc8 hf
          refine qj_aload_n hx hb d_Rule_readPart_120 rfl 1 rfl ?_
          refine qj_aload_n hx hb d_Rule_readPart_121 rfl 0 rfl ?_
          refine qj_get hx hb hts hin_7 hown hK (q_in tq0 (by decide)) (en_18 tq0) rfl 8 (by decide) (hts _ tw_255) (fun _ h => h) (qi (M6.1 q0 8)) rfl d_Rule_readPart_122 ?_
          have hf9 := q_ix_s hf; clear hf; obtain ⟨hi9, hf⟩ := hf9
          refine qj_cald (t0 := 1) hx hb hK (q_in (rfl : tcX 291 = 17) (by decide)) (en_17 (rfl : tcX 291 = 17)) rfl hi9 d_Rule_readPart_125 ?_
          have hf9 := q_bp_s hf; clear hf; obtain ⟨x10, hx10, hf⟩ := hf9
          refine qc_SNi (st := []) hx hb hml hown hts hK (qX_ok _ _ _ _) hs (c_Pg_isCapital (M6.1 291 (M6.1 q0 8).toNatClampNeg) M6 _ hx10) ⟨(va_cnB 1 hts (q_good tw_200) rfl rfl rfl (hs.2.2.1 ("PlainPage$Rule", 53, y_Pg_isCapital, "PlainPage") (by decide +kernel)) (hts _ tw_4) (by decide +kernel) ⟨by decide, by decide⟩), (hts _ tw_201), trivial⟩ rfl rfl (Nat.le_of_ble_eq_true rfl) d_Rule_readPart_126 ?_
          refine qj_if_eq (tgt := 178) hx hb d_Rule_readPart_129 (by decide) (fun hc11 => ?_) (fun hc11 => ?_)
          · replace hf := q_if_t hc11 hf
            refine qj_sub [0, 3] rfl ?_
            exact hK7 M6 hf
          · replace hf := q_if_f hc11 hf
            refine qj_aload_n hx hb d_Rule_readPart_132 rfl 0 rfl ?_
            refine qj_get hx hb hts hin_7 hown hK (q_in tq0 (by decide)) (en_18 tq0) rfl 1 (by decide) (hts _ tw_258) (fun _ h => h) (qr (some (q0 + 2))) rfl d_Rule_readPart_133 ?_
            refine qj_aload_n hx hb d_Rule_readPart_136 rfl 0 rfl ?_
            refine qj_get hx hb hts hin_7 hown hK (q_in tq0 (by decide)) (en_18 tq0) rfl 5 (by decide) (hts _ tw_257) (fun _ h => h) (qi (M6.1 q0 5)) rfl d_Rule_readPart_137 ?_
            refine qj_dup2 hx hb d_Rule_readPart_140 ?_
            have hf9 := q_ix_s hf; clear hf; obtain ⟨hi12, hf⟩ := hf9
            refine qj_iald (t0 := 0) hx hb hK (q_in (tc_18_2 tq0) (by decide)) (en_20 (tc_18_2 tq0)) rfl hi12 d_Rule_readPart_141 ?_
            refine qj_iconst (v := 1) hx hb d_Rule_readPart_142 (by decide) ?_
            refine qj_aload_n hx hb d_Rule_readPart_143 rfl 1 rfl ?_
            refine qj_aload_n hx hb d_Rule_readPart_144 rfl 0 rfl ?_
            refine qj_get hx hb hts hin_7 hown hK (q_in tq0 (by decide)) (en_18 tq0) rfl 8 (by decide) (hts _ tw_255) (fun _ h => h) (qi (M6.1 q0 8)) rfl d_Rule_readPart_145 ?_
            have hf9 := q_ix_s hf; clear hf; obtain ⟨hi13, hf⟩ := hf9
            refine qj_cald (t0 := 1) hx hb hK (q_in (rfl : tcX 291 = 17) (by decide)) (en_17 (rfl : tcX 291 = 17)) rfl hi13 d_Rule_readPart_148 ?_
            refine qj_bipush (v := 65) hx hb d_Rule_readPart_149 (by decide) ?_
            refine qj_isub hx hb d_Rule_readPart_151 ?_
            refine qj_ishl hx hb d_Rule_readPart_152 ?_
            refine qj_ior hx hb d_Rule_readPart_153 ?_
            have hf9 := q_ix_s hf; clear hf; obtain ⟨hi14, hf⟩ := hf9
            have hf9 := q_lt_s hf; clear hf; obtain ⟨M15, eM15, hf⟩ := hf9
            refine qj_iast (t0 := 0) hx hb hK (q_in (tc_18_2 tq0) (by decide)) (en_20 (tc_18_2 tq0)) rfl hi14 eM15 d_Rule_readPart_154 ?_
            refine qj_aload_n hx hb d_Rule_readPart_155 rfl 0 rfl ?_
            refine qj_dup hx hb d_Rule_readPart_156 ?_
            refine qj_get hx hb hts hin_7 hown hK (q_in tq0 (by decide)) (en_18 tq0) rfl 6 (by decide) (hts _ tw_259) (fun _ h => h) (qi (M15.1 q0 6)) rfl d_Rule_readPart_157 ?_
            refine qj_iconst (v := 1) hx hb d_Rule_readPart_160 (by decide) ?_
            refine qj_iadd hx hb d_Rule_readPart_161 ?_
            have hf9 := q_lt_s hf; clear hf; obtain ⟨M16, eM16, hf⟩ := hf9
            refine qj_puti (ty := .int) hx hb hts hin_7 ty_7 tyok_7 nm_7 hown hK (q_in tq0 (by decide)) (en_18 tq0) rfl 6 (by decide) (hts _ tw_259) (fun _ h => h) rfl (by decide +kernel) rfl rfl (Nat.le_of_ble_eq_true rfl) (sp_18_6 tq0) eM16 d_Rule_readPart_162 ?_
            refine qj_aload_n hx hb d_Rule_readPart_165 rfl 0 rfl ?_
            refine qj_dup hx hb d_Rule_readPart_166 ?_
            refine qj_get hx hb hts hin_7 hown hK (q_in tq0 (by decide)) (en_18 tq0) rfl 8 (by decide) (hts _ tw_255) (fun _ h => h) (qi (M16.1 q0 8)) rfl d_Rule_readPart_167 ?_
            refine qj_iconst (v := 1) hx hb d_Rule_readPart_170 (by decide) ?_
            refine qj_iadd hx hb d_Rule_readPart_171 ?_
            have hf9 := q_lt_s hf; clear hf; obtain ⟨M17, eM17, hf⟩ := hf9
            refine qj_puti (ty := .int) hx hb hts hin_7 ty_7 tyok_7 nm_7 hown hK (q_in tq0 (by decide)) (en_18 tq0) rfl 8 (by decide) (hts _ tw_255) (fun _ h => h) rfl (by decide +kernel) rfl rfl (Nat.le_of_ble_eq_true rfl) (sp_18_8 tq0) eM17 d_Rule_readPart_172 ?_
            refine qj_goto (tgt := 112) hx hb d_Rule_readPart_175 (by decide) ?_
            exact ih112 M17 hf
    refine hL112 _ _ (fun M18 hf9 => ?_) M5 hf
    clear hf; have hf := hf9; clear hf9
    refine qj_aload_n hx hb d_Rule_readPart_178 rfl 0 rfl ?_
    refine qj_get hx hb hts hin_7 hown hK (q_in tq0 (by decide)) (en_18 tq0) rfl 8 (by decide) (hts _ tw_255) (fun _ h => h) (qi (M18.1 q0 8)) rfl d_Rule_readPart_179 ?_
    refine qj_iload_n hx hb d_Rule_readPart_182 rfl 1 rfl ?_
    refine qj_icmp_le (tgt := 190) hx hb d_Rule_readPart_183 (by decide) (fun hc19 => ?_) (fun hc19 => ?_)
    · replace hf := q_if_t hc19 hf
      refine qj_iconst (v := 0) hx hb d_Rule_readPart_190 (by decide) ?_
      exact hret _ _ _ _ (Or.inl rfl) d_Rule_readPart_191 (Option.some.inj hf)
    · replace hf := q_if_f hc19 hf
      refine qj_iconst (v := 1) hx hb d_Rule_readPart_186 (by decide) ?_
      refine qj_goto (tgt := 191) hx hb d_Rule_readPart_187 (by decide) ?_
      exact hret _ _ _ _ (Or.inr rfl) d_Rule_readPart_191 (Option.some.inj hf)
  have hf9 := q_lt_s hf; clear hf; obtain ⟨j25, ej25, hf⟩ := hf9
  have hj25 : j25 = some out → QJ p l e rm_Rule_readPart s m args below meth c (qA 367 b) b 4 0 0 Q (qWd D (enX dA b) 367 b) M4 83 [(0, qr (some q0)), (1, qr (some 291)), (2, qi a2), (3, qi (M.1 q0 8))] [] := by
    clear hf
    intro hf
    rw [ej25] at hf
    refine qj_aload_n hx hb d_Rule_readPart_83 rfl 0 rfl ?_
    refine qj_get hx hb hts hin_7 hown hK (q_in tq0 (by decide)) (en_18 tq0) rfl 8 (by decide) (hts _ tw_255) (fun _ h => h) (qi (M4.1 q0 8)) rfl d_Rule_readPart_84 ?_
    refine qj_iload_n hx hb d_Rule_readPart_87 rfl 2 rfl ?_
    refine qj_icmp_ge (tgt := 112) hx hb d_Rule_readPart_88 (by decide) (fun hc21 => ?_) (fun hc21 => ?_)
    · replace hf := q_if_t hc21 hf
      exact hj20 M4 hf
    · replace hf := q_if_f hc21 hf
      refine qj_aload_n hx hb d_Rule_readPart_91 rfl 1 rfl ?_
      refine qj_aload_n hx hb d_Rule_readPart_92 rfl 0 rfl ?_
      refine qj_get hx hb hts hin_7 hown hK (q_in tq0 (by decide)) (en_18 tq0) rfl 8 (by decide) (hts _ tw_255) (fun _ h => h) (qi (M4.1 q0 8)) rfl d_Rule_readPart_93 ?_
      have hf9 := q_ix_s hf; clear hf; obtain ⟨hi22, hf⟩ := hf9
      refine qj_cald (t0 := 1) hx hb hK (q_in (rfl : tcX 291 = 17) (by decide)) (en_17 (rfl : tcX 291 = 17)) rfl hi22 d_Rule_readPart_96 ?_
      refine qj_bipush (v := 42) hx hb d_Rule_readPart_97 (by decide) ?_
      refine qj_icmp_ne (tgt := 112) hx hb d_Rule_readPart_99 (by decide) (fun hc23 => ?_) (fun hc23 => ?_)
      · replace hf := q_if_f hc23 hf
        exact hj20 M4 hf
      · replace hf := q_if_t hc23 hf
        refine qj_aload_n hx hb d_Rule_readPart_102 rfl 0 rfl ?_
        refine qj_dup hx hb d_Rule_readPart_103 ?_
        refine qj_get hx hb hts hin_7 hown hK (q_in tq0 (by decide)) (en_18 tq0) rfl 8 (by decide) (hts _ tw_255) (fun _ h => h) (qi (M4.1 q0 8)) rfl d_Rule_readPart_104 ?_
        refine qj_iconst (v := 1) hx hb d_Rule_readPart_107 (by decide) ?_
        refine qj_iadd hx hb d_Rule_readPart_108 ?_
        have hf9 := q_lt_s hf; clear hf; obtain ⟨M24, eM24, hf⟩ := hf9
        refine qj_puti (ty := .int) hx hb hts hin_7 ty_7 tyok_7 nm_7 hown hK (q_in tq0 (by decide)) (en_18 tq0) rfl 8 (by decide) (hts _ tw_255) (fun _ h => h) rfl (by decide +kernel) rfl rfl (Nat.le_of_ble_eq_true rfl) (sp_18_8 tq0) eM24 d_Rule_readPart_109 ?_
        exact hj20 M24 hf
  refine qj_icmp_ge (tgt := 83) hx hb d_Rule_readPart_30 (by decide) (fun hc26 => ?_) (fun hc26 => ?_)
  · replace hf := q_if_t hc26 hf
    refine qj_sub [1, 2, 3, 0] rfl ?_
    exact hj25  hf
  · replace hf := q_if_f hc26 hf
    refine qj_aload_n hx hb d_Rule_readPart_33 rfl 2 rfl ?_
    refine qj_aload_n hx hb d_Rule_readPart_34 rfl 1 rfl ?_
    refine qj_get hx hb hts hin_7 hown hK (q_in tq0 (by decide)) (en_18 tq0) rfl 8 (by decide) (hts _ tw_255) (fun _ h => h) (qi (M4.1 q0 8)) rfl d_Rule_readPart_35 ?_
    have hf9 := q_ix_s hf; clear hf; obtain ⟨hi27, hf⟩ := hf9
    refine qj_cald (t0 := 1) hx hb hK (q_in (rfl : tcX 291 = 17) (by decide)) (en_17 (rfl : tcX 291 = 17)) rfl hi27 d_Rule_readPart_38 ?_
    have hf9 := q_bp_s hf; clear hf; obtain ⟨x28, hx28, hf⟩ := hf9
    refine qc_SNi (st := []) hx hb hml hown hts hK (qX_ok _ _ _ _) hs (c_Pg_isSmall (M4.1 291 (M4.1 q0 8).toNatClampNeg) M4 _ hx28) ⟨(va_cnB 1 hts (q_good tw_7) rfl rfl rfl (hs.2.2.1 ("PlainPage$Rule", 49, y_Pg_isSmall, "PlainPage") (by decide +kernel)) (hts _ tw_4) (by decide +kernel) ⟨by decide, by decide⟩), (hts _ tw_8), trivial⟩ rfl rfl (Nat.le_of_ble_eq_true rfl) d_Rule_readPart_39 ?_
    refine qj_if_eq (tgt := 83) hx hb d_Rule_readPart_42 (by decide) (fun hc29 => ?_) (fun hc29 => ?_)
    · replace hf := q_if_t hc29 hf
      refine qj_sub [1, 2, 3, 0] rfl ?_
      exact hj25  hf
    · replace hf := q_if_f hc29 hf
      refine qj_aload_n hx hb d_Rule_readPart_45 rfl 1 rfl ?_
      refine qj_get hx hb hts hin_7 hown hK (q_in tq0 (by decide)) (en_18 tq0) rfl 0 (by decide) (hts _ tw_256) (fun _ h => h) (qr (some (q0 + 1))) rfl d_Rule_readPart_46 ?_
      refine qj_aload_n hx hb d_Rule_readPart_49 rfl 1 rfl ?_
      refine qj_get hx hb hts hin_7 hown hK (q_in tq0 (by decide)) (en_18 tq0) rfl 5 (by decide) (hts _ tw_257) (fun _ h => h) (qi (M4.1 q0 5)) rfl d_Rule_readPart_50 ?_
      refine qj_aload_n hx hb d_Rule_readPart_53 rfl 2 rfl ?_
      refine qj_aload_n hx hb d_Rule_readPart_54 rfl 1 rfl ?_
      refine qj_get hx hb hts hin_7 hown hK (q_in tq0 (by decide)) (en_18 tq0) rfl 8 (by decide) (hts _ tw_255) (fun _ h => h) (qi (M4.1 q0 8)) rfl d_Rule_readPart_55 ?_
      have hf9 := q_ix_s hf; clear hf; obtain ⟨hi30, hf⟩ := hf9
      refine qj_cald (t0 := 1) hx hb hK (q_in (rfl : tcX 291 = 17) (by decide)) (en_17 (rfl : tcX 291 = 17)) rfl hi30 d_Rule_readPart_58 ?_
      have hf9 := q_ix_s hf; clear hf; obtain ⟨hi31, hf⟩ := hf9
      have hf9 := q_lt_s hf; clear hf; obtain ⟨M32, eM32, hf⟩ := hf9
      refine qj_iast (t0 := 0) hx hb hK (q_in (tc_18_1 tq0) (by decide)) (en_19 (tc_18_1 tq0)) rfl hi31 eM32 d_Rule_readPart_59 ?_
      refine qj_aload_n hx hb d_Rule_readPart_60 rfl 1 rfl ?_
      refine qj_dup hx hb d_Rule_readPart_61 ?_
      refine qj_get hx hb hts hin_7 hown hK (q_in tq0 (by decide)) (en_18 tq0) rfl 7 (by decide) (hts _ tw_260) (fun _ h => h) (qi (M32.1 q0 7)) rfl d_Rule_readPart_62 ?_
      refine qj_iconst (v := 1) hx hb d_Rule_readPart_65 (by decide) ?_
      refine qj_iadd hx hb d_Rule_readPart_66 ?_
      have hf9 := q_lt_s hf; clear hf; obtain ⟨M33, eM33, hf⟩ := hf9
      refine qj_puti (ty := .int) hx hb hts hin_7 ty_7 tyok_7 nm_7 hown hK (q_in tq0 (by decide)) (en_18 tq0) rfl 7 (by decide) (hts _ tw_260) (fun _ h => h) rfl (by decide +kernel) rfl rfl (Nat.le_of_ble_eq_true rfl) (sp_18_7 tq0) eM33 d_Rule_readPart_67 ?_
      refine qj_aload_n hx hb d_Rule_readPart_70 rfl 1 rfl ?_
      refine qj_dup hx hb d_Rule_readPart_71 ?_
      refine qj_get hx hb hts hin_7 hown hK (q_in tq0 (by decide)) (en_18 tq0) rfl 8 (by decide) (hts _ tw_255) (fun _ h => h) (qi (M33.1 q0 8)) rfl d_Rule_readPart_72 ?_
      refine qj_iconst (v := 1) hx hb d_Rule_readPart_75 (by decide) ?_
      refine qj_iadd hx hb d_Rule_readPart_76 ?_
      have hf9 := q_lt_s hf; clear hf; obtain ⟨M34, eM34, hf⟩ := hf9
      refine qj_puti (ty := .int) hx hb hts hin_7 ty_7 tyok_7 nm_7 hown hK (q_in tq0 (by decide)) (en_18 tq0) rfl 8 (by decide) (hts _ tw_255) (fun _ h => h) rfl (by decide +kernel) rfl rfl (Nat.le_of_ble_eq_true rfl) (sp_18_8 tq0) eM34 d_Rule_readPart_77 ?_
      refine qj_goto (tgt := 112) hx hb d_Rule_readPart_80 (by decide) ?_
      refine qj_sub [1, 2, 3, 0] rfl ?_
      exact hj20 M34 hf
theorem d_Rule_readSelector_0 : decode prog_8_method_2_code 0 = .ok (.aload_n 0, 1) := by decide +kernel
theorem d_Rule_readSelector_1 : decode prog_8_method_2_code 1 = .ok (.iconst 0, 1) := by decide +kernel
theorem d_Rule_readSelector_2 : decode prog_8_method_2_code 2 = .ok (.putfield 28, 3) := by decide +kernel
theorem d_Rule_readSelector_5 : decode prog_8_method_2_code 5 = .ok (.aload_n 0, 1) := by decide +kernel
theorem d_Rule_readSelector_6 : decode prog_8_method_2_code 6 = .ok (.iconst 0, 1) := by decide +kernel
theorem d_Rule_readSelector_7 : decode prog_8_method_2_code 7 = .ok (.putfield 32, 3) := by decide +kernel
theorem d_Rule_readSelector_10 : decode prog_8_method_2_code 10 = .ok (.aload_n 0, 1) := by decide +kernel
theorem d_Rule_readSelector_11 : decode prog_8_method_2_code 11 = .ok (.iconst 0, 1) := by decide +kernel
theorem d_Rule_readSelector_12 : decode prog_8_method_2_code 12 = .ok (.putfield 35, 3) := by decide +kernel
theorem d_Rule_readSelector_15 : decode prog_8_method_2_code 15 = .ok (.aload_n 0, 1) := by decide +kernel
theorem d_Rule_readSelector_16 : decode prog_8_method_2_code 16 = .ok (.aload_n 1, 1) := by decide +kernel
theorem d_Rule_readSelector_17 : decode prog_8_method_2_code 17 = .ok (.iload_n 2, 1) := by decide +kernel
theorem d_Rule_readSelector_18 : decode prog_8_method_2_code 18 = .ok (.invokevirtual 38, 3) := by decide +kernel
theorem d_Rule_readSelector_21 : decode prog_8_method_2_code 21 = .ok (.iconst 0, 1) := by decide +kernel
theorem d_Rule_readSelector_22 : decode prog_8_method_2_code 22 = .ok (.istore_n 3, 1) := by decide +kernel
theorem d_Rule_readSelector_23 : decode prog_8_method_2_code 23 = .ok (.aload_n 0, 1) := by decide +kernel
theorem d_Rule_readSelector_24 : decode prog_8_method_2_code 24 = .ok (.iconst 0, 1) := by decide +kernel
theorem d_Rule_readSelector_25 : decode prog_8_method_2_code 25 = .ok (.putfield 42, 3) := by decide +kernel
theorem d_Rule_readSelector_28 : decode prog_8_method_2_code 28 = .ok (.aload_n 0, 1) := by decide +kernel
theorem d_Rule_readSelector_29 : decode prog_8_method_2_code 29 = .ok (.getfield 42, 3) := by decide +kernel
theorem d_Rule_readSelector_32 : decode prog_8_method_2_code 32 = .ok (.iconst 4, 1) := by decide +kernel
theorem d_Rule_readSelector_33 : decode prog_8_method_2_code 33 = .ok (.if_icmp .ge 121, 3) := by decide +kernel
theorem d_Rule_readSelector_36 : decode prog_8_method_2_code 36 = .ok (.aload_n 0, 1) := by decide +kernel
theorem d_Rule_readSelector_37 : decode prog_8_method_2_code 37 = .ok (.getfield 18, 3) := by decide +kernel
theorem d_Rule_readSelector_40 : decode prog_8_method_2_code 40 = .ok (.aload_n 0, 1) := by decide +kernel
theorem d_Rule_readSelector_41 : decode prog_8_method_2_code 41 = .ok (.getfield 42, 3) := by decide +kernel
theorem d_Rule_readSelector_44 : decode prog_8_method_2_code 44 = .ok (.iload_n 3, 1) := by decide +kernel
theorem d_Rule_readSelector_45 : decode prog_8_method_2_code 45 = .ok (.bastore, 1) := by decide +kernel
theorem d_Rule_readSelector_46 : decode prog_8_method_2_code 46 = .ok (.aload_n 0, 1) := by decide +kernel
theorem d_Rule_readSelector_47 : decode prog_8_method_2_code 47 = .ok (.aload_n 1, 1) := by decide +kernel
theorem d_Rule_readSelector_48 : decode prog_8_method_2_code 48 = .ok (.iload_n 2, 1) := by decide +kernel
theorem d_Rule_readSelector_49 : decode prog_8_method_2_code 49 = .ok (.invokevirtual 45, 3) := by decide +kernel
theorem d_Rule_readSelector_52 : decode prog_8_method_2_code 52 = .ok (.ifCond .ne 5, 3) := by decide +kernel
theorem d_Rule_readSelector_55 : decode prog_8_method_2_code 55 = .ok (.iconst 0, 1) := by decide +kernel
theorem d_Rule_readSelector_56 : decode prog_8_method_2_code 56 = .ok (.ireturn, 1) := by decide +kernel
theorem d_Rule_readSelector_57 : decode prog_8_method_2_code 57 = .ok (.aload_n 0, 1) := by decide +kernel
theorem d_Rule_readSelector_58 : decode prog_8_method_2_code 58 = .ok (.getfield 35, 3) := by decide +kernel
theorem d_Rule_readSelector_61 : decode prog_8_method_2_code 61 = .ok (.istore 4, 2) := by decide +kernel
theorem d_Rule_readSelector_63 : decode prog_8_method_2_code 63 = .ok (.aload_n 0, 1) := by decide +kernel
theorem d_Rule_readSelector_64 : decode prog_8_method_2_code 64 = .ok (.aload_n 1, 1) := by decide +kernel
theorem d_Rule_readSelector_65 : decode prog_8_method_2_code 65 = .ok (.iload_n 2, 1) := by decide +kernel
theorem d_Rule_readSelector_66 : decode prog_8_method_2_code 66 = .ok (.invokevirtual 38, 3) := by decide +kernel
theorem d_Rule_readSelector_69 : decode prog_8_method_2_code 69 = .ok (.aload_n 0, 1) := by decide +kernel
theorem d_Rule_readSelector_70 : decode prog_8_method_2_code 70 = .ok (.getfield 35, 3) := by decide +kernel
theorem d_Rule_readSelector_73 : decode prog_8_method_2_code 73 = .ok (.iload_n 2, 1) := by decide +kernel
theorem d_Rule_readSelector_74 : decode prog_8_method_2_code 74 = .ok (.if_icmp .ne 15, 3) := by decide +kernel
theorem d_Rule_readSelector_77 : decode prog_8_method_2_code 77 = .ok (.aload_n 0, 1) := by decide +kernel
theorem d_Rule_readSelector_78 : decode prog_8_method_2_code 78 = .ok (.dup, 1) := by decide +kernel
theorem d_Rule_readSelector_79 : decode prog_8_method_2_code 79 = .ok (.getfield 42, 3) := by decide +kernel
theorem d_Rule_readSelector_82 : decode prog_8_method_2_code 82 = .ok (.iconst 1, 1) := by decide +kernel
theorem d_Rule_readSelector_83 : decode prog_8_method_2_code 83 = .ok (.iadd, 1) := by decide +kernel
theorem d_Rule_readSelector_84 : decode prog_8_method_2_code 84 = .ok (.putfield 42, 3) := by decide +kernel
theorem d_Rule_readSelector_87 : decode prog_8_method_2_code 87 = .ok (.iconst 1, 1) := by decide +kernel
theorem d_Rule_readSelector_88 : decode prog_8_method_2_code 88 = .ok (.ireturn, 1) := by decide +kernel
theorem d_Rule_readSelector_89 : decode prog_8_method_2_code 89 = .ok (.aload_n 1, 1) := by decide +kernel
theorem d_Rule_readSelector_90 : decode prog_8_method_2_code 90 = .ok (.aload_n 0, 1) := by decide +kernel
theorem d_Rule_readSelector_91 : decode prog_8_method_2_code 91 = .ok (.getfield 35, 3) := by decide +kernel
theorem d_Rule_readSelector_94 : decode prog_8_method_2_code 94 = .ok (.caload, 1) := by decide +kernel
theorem d_Rule_readSelector_95 : decode prog_8_method_2_code 95 = .ok (.bipush 62, 2) := by decide +kernel
theorem d_Rule_readSelector_97 : decode prog_8_method_2_code 97 = .ok (.if_icmp .ne 7, 3) := by decide +kernel
theorem d_Rule_readSelector_100 : decode prog_8_method_2_code 100 = .ok (.iconst 1, 1) := by decide +kernel
theorem d_Rule_readSelector_101 : decode prog_8_method_2_code 101 = .ok (.goto 4, 3) := by decide +kernel
theorem d_Rule_readSelector_104 : decode prog_8_method_2_code 104 = .ok (.iconst 0, 1) := by decide +kernel
theorem d_Rule_readSelector_105 : decode prog_8_method_2_code 105 = .ok (.istore_n 3, 1) := by decide +kernel
theorem d_Rule_readSelector_106 : decode prog_8_method_2_code 106 = .ok (.iload_n 3, 1) := by decide +kernel
theorem d_Rule_readSelector_107 : decode prog_8_method_2_code 107 = .ok (.ifCond .ne 14, 3) := by decide +kernel
theorem d_Rule_readSelector_110 : decode prog_8_method_2_code 110 = .ok (.aload_n 0, 1) := by decide +kernel
theorem d_Rule_readSelector_111 : decode prog_8_method_2_code 111 = .ok (.getfield 35, 3) := by decide +kernel
theorem d_Rule_readSelector_114 : decode prog_8_method_2_code 114 = .ok (.iload 4, 2) := by decide +kernel
theorem d_Rule_readSelector_116 : decode prog_8_method_2_code 116 = .ok (.if_icmp .ne 5, 3) := by decide +kernel
theorem d_Rule_readSelector_119 : decode prog_8_method_2_code 119 = .ok (.iconst 0, 1) := by decide +kernel
theorem d_Rule_readSelector_120 : decode prog_8_method_2_code 120 = .ok (.ireturn, 1) := by decide +kernel
theorem d_Rule_readSelector_121 : decode prog_8_method_2_code 121 = .ok (.iload_n 3, 1) := by decide +kernel
theorem d_Rule_readSelector_122 : decode prog_8_method_2_code 122 = .ok (.ifCond .eq 19, 3) := by decide +kernel
theorem d_Rule_readSelector_125 : decode prog_8_method_2_code 125 = .ok (.aload_n 0, 1) := by decide +kernel
theorem d_Rule_readSelector_126 : decode prog_8_method_2_code 126 = .ok (.dup, 1) := by decide +kernel
theorem d_Rule_readSelector_127 : decode prog_8_method_2_code 127 = .ok (.getfield 35, 3) := by decide +kernel
theorem d_Rule_readSelector_130 : decode prog_8_method_2_code 130 = .ok (.iconst 1, 1) := by decide +kernel
theorem d_Rule_readSelector_131 : decode prog_8_method_2_code 131 = .ok (.iadd, 1) := by decide +kernel
theorem d_Rule_readSelector_132 : decode prog_8_method_2_code 132 = .ok (.putfield 35, 3) := by decide +kernel
theorem d_Rule_readSelector_135 : decode prog_8_method_2_code 135 = .ok (.aload_n 0, 1) := by decide +kernel
theorem d_Rule_readSelector_136 : decode prog_8_method_2_code 136 = .ok (.aload_n 1, 1) := by decide +kernel
theorem d_Rule_readSelector_137 : decode prog_8_method_2_code 137 = .ok (.iload_n 2, 1) := by decide +kernel
theorem d_Rule_readSelector_138 : decode prog_8_method_2_code 138 = .ok (.invokevirtual 38, 3) := by decide +kernel
theorem d_Rule_readSelector_141 : decode prog_8_method_2_code 141 = .ok (.aload_n 0, 1) := by decide +kernel
theorem d_Rule_readSelector_142 : decode prog_8_method_2_code 142 = .ok (.dup, 1) := by decide +kernel
theorem d_Rule_readSelector_143 : decode prog_8_method_2_code 143 = .ok (.getfield 42, 3) := by decide +kernel
theorem d_Rule_readSelector_146 : decode prog_8_method_2_code 146 = .ok (.iconst 1, 1) := by decide +kernel
theorem d_Rule_readSelector_147 : decode prog_8_method_2_code 147 = .ok (.iadd, 1) := by decide +kernel
theorem d_Rule_readSelector_148 : decode prog_8_method_2_code 148 = .ok (.putfield 42, 3) := by decide +kernel
theorem d_Rule_readSelector_151 : decode prog_8_method_2_code 151 = .ok (.goto (-123), 3) := by decide +kernel
theorem d_Rule_readSelector_154 : decode prog_8_method_2_code 154 = .ok (.iconst 0, 1) := by decide +kernel
theorem d_Rule_readSelector_155 : decode prog_8_method_2_code 155 = .ok (.ireturn, 1) := by decide +kernel
def f_Rule_readSelector_28 (q0 : Nat) (a2 : Int32) : Nat → (qM → Option (Int32 × qM)) → Int32 → qM → Option (Int32 × qM)
  | 0, _, _, _ => none
  | n + 1, K8, x6, M7 => if 4 ≤ (M7.1 q0 5) then (K8 M7) else (q_ix (M7.1 q0 5) 4 <| q_zk x6 <| q_lt (qsI M7 (q0 + 3) (M7.1 q0 5).toNatClampNeg x6) fun M12 => q_cl (f_Rule_readPart q0 a2 M12) fun x13 M14 => if x13 = 0 then (some (0, M14)) else (q_cv (f_Rule_skipBlanks q0 a2 M14) fun M16 => if (M16.1 q0 8) = a2 then (q_lt (qsI M16 q0 5 ((M16.1 q0 5) + 1)) fun M31 => some (1, M31)) else (q_ix (M16.1 q0 8) 120 <| q_lt (fun (x19 : Int32) => q_lt (q_lt (fun (M20 : qM) => q_lt (qsI M20 q0 5 ((M20.1 q0 5) + 1)) fun M21 => f_Rule_readSelector_28 q0 a2 n K8 x19 M21) fun (j22 : qM → Option (Int32 × qM)) => if x19 = 0 then (j22 M16) else (q_lt (qsI M16 q0 8 ((M16.1 q0 8) + 1)) fun M24 => q_cv (f_Rule_skipBlanks q0 a2 M24) fun M25 => j22 M25)) fun (j26 : Option (Int32 × qM)) => if x19 = 0 then (if (M16.1 q0 8) = (M14.1 q0 8) then (some (0, M16)) else (j26)) else (j26)) fun (j29 : Int32 → Option (Int32 × qM)) => if (M16.1 291 (M16.1 q0 8).toNatClampNeg) = 62 then (j29 1) else (j29 0))))
def f_Rule_readSelector (q0 : Nat) (a2 : Int32) (M : qM) : Option (Int32 × qM) := q_lt (qsI M q0 6 0) fun M1 => q_lt (qsI M1 q0 7 0) fun M2 => q_lt (qsI M2 q0 8 0) fun M3 => q_cv (f_Rule_skipBlanks q0 a2 M3) fun M4 => q_lt (qsI M4 q0 5 0) fun M5 => f_Rule_readSelector_28 q0 a2 1000 (fun (M32 : qM) => some (0, M32)) 0 M5
abbrev rm_Rule_readSelector : Room := { frames := 2, cells := 0, slots := 0, locals := 43 }
set_option maxRecDepth 100000 in
set_option maxHeartbeats 4000000 in
theorem c_Rule_readSelector {l : Launch} {D : va_G} {dA : Nat → ClassId} {b : Nat} {adK adV : Nat → Nat} (q0 : Nat) (a2 : Int32) (tq0 : tcX q0 = 18) (M : qM) (out : Int32 × qM) (hf : f_Rule_readSelector q0 a2 M = some out) : CTi l y_Rule_readSelector w_Rule_readSelector rm_Rule_readSelector D (tysX dA) (enX dA b) 367 b (qX adK adV 367 b) [qr (some q0), qr (some 291), qi a2] M out := by
  refine qm_z (cc := prog_8_method_2_code) (nL := 5) (by decide) rfl (Nat.le_of_ble_eq_true rfl) ?_
  intro p e s m args below meth c Q hx hb hts0 hown hml hK hs hret
  have hts : ∀ w ∈ lw_g, w.before args s = true := fun w h => hts0 w (List.mem_cons_of_mem _ h)
  show QJ p l e rm_Rule_readSelector s m args below meth c (qA 367 b) b 5 0 0 Q (qWd D (enX dA b) 367 b) M 0 [(0, qr (some q0)), (1, qr (some 291)), (2, qi a2)] []
  unfold f_Rule_readSelector at hf
  refine qj_aload_n hx hb d_Rule_readSelector_0 rfl 0 rfl ?_
  refine qj_iconst (v := 0) hx hb d_Rule_readSelector_1 (by decide) ?_
  have hf9 := q_lt_s hf; clear hf; obtain ⟨M1, eM1, hf⟩ := hf9
  refine qj_puti (ty := .int) hx hb hts hin_7 ty_7 tyok_7 nm_7 hown hK (q_in tq0 (by decide)) (en_18 tq0) rfl 6 (by decide) (hts _ tw_259) (fun _ h => h) rfl (by decide +kernel) rfl rfl (Nat.le_of_ble_eq_true rfl) (sp_18_6 tq0) eM1 d_Rule_readSelector_2 ?_
  refine qj_aload_n hx hb d_Rule_readSelector_5 rfl 0 rfl ?_
  refine qj_iconst (v := 0) hx hb d_Rule_readSelector_6 (by decide) ?_
  have hf9 := q_lt_s hf; clear hf; obtain ⟨M2, eM2, hf⟩ := hf9
  refine qj_puti (ty := .int) hx hb hts hin_7 ty_7 tyok_7 nm_7 hown hK (q_in tq0 (by decide)) (en_18 tq0) rfl 7 (by decide) (hts _ tw_260) (fun _ h => h) rfl (by decide +kernel) rfl rfl (Nat.le_of_ble_eq_true rfl) (sp_18_7 tq0) eM2 d_Rule_readSelector_7 ?_
  refine qj_aload_n hx hb d_Rule_readSelector_10 rfl 0 rfl ?_
  refine qj_iconst (v := 0) hx hb d_Rule_readSelector_11 (by decide) ?_
  have hf9 := q_lt_s hf; clear hf; obtain ⟨M3, eM3, hf⟩ := hf9
  refine qj_puti (ty := .int) hx hb hts hin_7 ty_7 tyok_7 nm_7 hown hK (q_in tq0 (by decide)) (en_18 tq0) rfl 8 (by decide) (hts _ tw_255) (fun _ h => h) rfl (by decide +kernel) rfl rfl (Nat.le_of_ble_eq_true rfl) (sp_18_8 tq0) eM3 d_Rule_readSelector_12 ?_
  refine qj_aload_n hx hb d_Rule_readSelector_15 rfl 0 rfl ?_
  refine qj_aload_n hx hb d_Rule_readSelector_16 rfl 1 rfl ?_
  refine qj_iload_n hx hb d_Rule_readSelector_17 rfl 2 rfl ?_
  have hf9 := q_cv_s hf; clear hf; obtain ⟨M4, hM4, hf⟩ := hf9
  refine qc_Vv (st := []) hx hb hml hown hts hK (qX_ok _ _ _ _) hs (c_Rule_skipBlanks q0 a2 tq0 M3 _ hM4) ⟨(callB_of 2 hts (q_good tw_262) rfl rfl rfl (hts _ tw_261) (hts _ tw_263) (by decide +kernel) ⟨by decide, by decide⟩), (hts _ tw_264), (hts _ tw_265)⟩ (q_in tq0 (by decide)) (en_18 tq0) rfl rfl rfl (Nat.le_of_ble_eq_true rfl) d_Rule_readSelector_18 ?_
  refine qj_iconst (v := 0) hx hb d_Rule_readSelector_21 (by decide) ?_
  refine qj_istore_n hx hb d_Rule_readSelector_22 rfl (by decide) rfl ?_
  refine qj_aload_n hx hb d_Rule_readSelector_23 rfl 1 rfl ?_
  refine qj_iconst (v := 0) hx hb d_Rule_readSelector_24 (by decide) ?_
  have hf9 := q_lt_s hf; clear hf; obtain ⟨M5, eM5, hf⟩ := hf9
  refine qj_puti (ty := .int) hx hb hts hin_7 ty_7 tyok_7 nm_7 hown hK (q_in tq0 (by decide)) (en_18 tq0) rfl 5 (by decide) (hts _ tw_257) (fun _ h => h) rfl (by decide +kernel) rfl rfl (Nat.le_of_ble_eq_true rfl) (sp_18_5 tq0) eM5 d_Rule_readSelector_25 ?_
  have hL28 : ∀ (n : Nat) (K8 : qM → Option (Int32 × qM)), (∀ (M32 : qM), K8 M32 = some out → QJ p l e rm_Rule_readSelector s m args below meth c (qA 367 b) b 5 0 0 Q (qWd D (enX dA b) 367 b) M32 154 [] []) → ∀ (x6 : Int32) (M7 : qM), f_Rule_readSelector_28 q0 a2 n K8 x6 M7 = some out → QJ p l e rm_Rule_readSelector s m args below meth c (qA 367 b) b 5 0 0 Q (qWd D (enX dA b) 367 b) M7 28 [(0, qr (some q0)), (1, qr (some 291)), (2, qi a2), (3, qi x6)] [] := by
    clear hf
    intro n
    induction n with
    | zero =>
      intro K8 hK8 x6 M7 hf
      exact absurd hf (by simp [f_Rule_readSelector_28])
    | succ n ih28 =>
      intro K8 hK8 x6 M7 hf
      rw [f_Rule_readSelector_28] at hf
      have ih28 := ih28 K8 hK8
      refine qj_aload_n hx hb d_Rule_readSelector_28 rfl 0 rfl ?_
      refine qj_get hx hb hts hin_7 hown hK (q_in tq0 (by decide)) (en_18 tq0) rfl 5 (by decide) (hts _ tw_257) (fun _ h => h) (qi (M7.1 q0 5)) rfl d_Rule_readSelector_29 ?_
      refine qj_iconst (v := 4) hx hb d_Rule_readSelector_32 (by decide) ?_
      refine qj_icmp_ge (tgt := 154) hx hb d_Rule_readSelector_33 (by decide) (fun hc9 => ?_) (fun hc9 => ?_)
      · replace hf := q_if_t hc9 hf
        refine qj_sub [] rfl ?_
        exact hK8 M7 hf
      · replace hf := q_if_f hc9 hf
        refine qj_aload_n hx hb d_Rule_readSelector_36 rfl 0 rfl ?_
        refine qj_get hx hb hts hin_7 hown hK (q_in tq0 (by decide)) (en_18 tq0) rfl 2 (by decide) (hts _ tw_266) (fun _ h => h) (qr (some (q0 + 3))) rfl d_Rule_readSelector_37 ?_
        refine qj_aload_n hx hb d_Rule_readSelector_40 rfl 0 rfl ?_
        refine qj_get hx hb hts hin_7 hown hK (q_in tq0 (by decide)) (en_18 tq0) rfl 5 (by decide) (hts _ tw_257) (fun _ h => h) (qi (M7.1 q0 5)) rfl d_Rule_readSelector_41 ?_
        refine qj_iload_n hx hb d_Rule_readSelector_44 rfl 3 rfl ?_
        have hf9 := q_ix_s hf; clear hf; obtain ⟨hi10, hf⟩ := hf9
        have hf9 := q_zk_s hf; clear hf; obtain ⟨hz11, hf⟩ := hf9
        have hf9 := q_lt_s hf; clear hf; obtain ⟨M12, eM12, hf⟩ := hf9
        refine qj_zast (t0 := 2) hx hb hK (q_in (tc_18_3 tq0) (by decide)) (en_21 (tc_18_3 tq0)) rfl hi10 hz11 eM12 d_Rule_readSelector_45 ?_
        refine qj_aload_n hx hb d_Rule_readSelector_46 rfl 0 rfl ?_
        refine qj_aload_n hx hb d_Rule_readSelector_47 rfl 1 rfl ?_
        refine qj_iload_n hx hb d_Rule_readSelector_48 rfl 2 rfl ?_
        have hf9 := q_cl_s hf; clear hf; obtain ⟨x13, M14, hx13, hf⟩ := hf9
        refine qc_Vi (st := []) hx hb hml hown hts hK (qX_ok _ _ _ _) hs (c_Rule_readPart q0 a2 tq0 M12 _ hx13) ⟨(callB_of 2 hts (q_good tw_267) rfl rfl rfl (hts _ tw_261) (hts _ tw_268) (by decide +kernel) ⟨by decide, by decide⟩), (hts _ tw_269), (hts _ tw_270)⟩ (q_in tq0 (by decide)) (en_18 tq0) rfl rfl rfl (Nat.le_of_ble_eq_true rfl) d_Rule_readSelector_49 ?_
        refine qj_if_ne (tgt := 57) hx hb d_Rule_readSelector_52 (by decide) (fun hc15 => ?_) (fun hc15 => ?_)
        · replace hf := q_if_f hc15 hf
          refine qj_aload_n hx hb d_Rule_readSelector_57 rfl 0 rfl ?_
          refine qj_get hx hb hts hin_7 hown hK (q_in tq0 (by decide)) (en_18 tq0) rfl 8 (by decide) (hts _ tw_255) (fun _ h => h) (qi (M14.1 q0 8)) rfl d_Rule_readSelector_58 ?_
          refine qj_istore hx hb d_Rule_readSelector_61 (by decide) rfl ?_
          refine qj_aload_n hx hb d_Rule_readSelector_63 rfl 1 rfl ?_
          refine qj_aload_n hx hb d_Rule_readSelector_64 rfl 2 rfl ?_
          refine qj_iload_n hx hb d_Rule_readSelector_65 rfl 3 rfl ?_
          have hf9 := q_cv_s hf; clear hf; obtain ⟨M16, hM16, hf⟩ := hf9
          refine qc_Vv (st := []) hx hb hml hown hts hK (qX_ok _ _ _ _) hs (c_Rule_skipBlanks q0 a2 tq0 M14 _ hM16) ⟨(callB_of 2 hts (q_good tw_262) rfl rfl rfl (hts _ tw_261) (hts _ tw_263) (by decide +kernel) ⟨by decide, by decide⟩), (hts _ tw_264), (hts _ tw_265)⟩ (q_in tq0 (by decide)) (en_18 tq0) rfl rfl rfl (Nat.le_of_ble_eq_true rfl) d_Rule_readSelector_66 ?_
          refine qj_aload_n hx hb d_Rule_readSelector_69 rfl 1 rfl ?_
          refine qj_get hx hb hts hin_7 hown hK (q_in tq0 (by decide)) (en_18 tq0) rfl 8 (by decide) (hts _ tw_255) (fun _ h => h) (qi (M16.1 q0 8)) rfl d_Rule_readSelector_70 ?_
          refine qj_iload_n hx hb d_Rule_readSelector_73 rfl 3 rfl ?_
          refine qj_icmp_ne (tgt := 89) hx hb d_Rule_readSelector_74 (by decide) (fun hc17 => ?_) (fun hc17 => ?_)
          · replace hf := q_if_f hc17 hf
            refine qj_aload_n hx hb d_Rule_readSelector_89 rfl 2 rfl ?_
            refine qj_aload_n hx hb d_Rule_readSelector_90 rfl 1 rfl ?_
            refine qj_get hx hb hts hin_7 hown hK (q_in tq0 (by decide)) (en_18 tq0) rfl 8 (by decide) (hts _ tw_255) (fun _ h => h) (qi (M16.1 q0 8)) rfl d_Rule_readSelector_91 ?_
            have hf9 := q_ix_s hf; clear hf; obtain ⟨hi18, hf⟩ := hf9
            refine qj_cald (t0 := 1) hx hb hK (q_in (rfl : tcX 291 = 17) (by decide)) (en_17 (rfl : tcX 291 = 17)) rfl hi18 d_Rule_readSelector_94 ?_
            refine qj_bipush (v := 62) hx hb d_Rule_readSelector_95 (by decide) ?_
            have hf9 := q_lt_s hf; clear hf; obtain ⟨j29, ej29, hf⟩ := hf9
            have hj29 : ∀ (x19 : Int32), j29 x19 = some out → QJ p l e rm_Rule_readSelector s m args below meth c (qA 367 b) b 5 0 0 Q (qWd D (enX dA b) 367 b) M16 105 [(0, qr (some q0)), (1, qr (some 291)), (2, qi a2), (4, qi (M14.1 q0 8))] [qi x19] := by
              clear hf
              intro x19 hf
              rw [ej29] at hf
              refine qj_istore_n hx hb d_Rule_readSelector_105 rfl (by decide) rfl ?_
              refine qj_iload_n hx hb d_Rule_readSelector_106 rfl 0 rfl ?_
              have hf9 := q_lt_s hf; clear hf; obtain ⟨j26, ej26, hf⟩ := hf9
              have hj26 : j26 = some out → QJ p l e rm_Rule_readSelector s m args below meth c (qA 367 b) b 5 0 0 Q (qWd D (enX dA b) 367 b) M16 121 [(0, qr (some q0)), (1, qr (some 291)), (2, qi a2), (3, qi x19)] [] := by
                clear hf
                intro hf
                rw [ej26] at hf
                refine qj_iload_n hx hb d_Rule_readSelector_121 rfl 3 rfl ?_
                have hf9 := q_lt_s hf; clear hf; obtain ⟨j22, ej22, hf⟩ := hf9
                have hj22 : ∀ (M20 : qM), j22 M20 = some out → QJ p l e rm_Rule_readSelector s m args below meth c (qA 367 b) b 5 0 0 Q (qWd D (enX dA b) 367 b) M20 141 [(0, qr (some q0)), (1, qr (some 291)), (2, qi a2), (3, qi x19)] [] := by
                  clear hf
                  intro M20 hf
                  rw [ej22] at hf
                  refine qj_aload_n hx hb d_Rule_readSelector_141 rfl 0 rfl ?_
                  refine qj_dup hx hb d_Rule_readSelector_142 ?_
                  refine qj_get hx hb hts hin_7 hown hK (q_in tq0 (by decide)) (en_18 tq0) rfl 5 (by decide) (hts _ tw_257) (fun _ h => h) (qi (M20.1 q0 5)) rfl d_Rule_readSelector_143 ?_
                  refine qj_iconst (v := 1) hx hb d_Rule_readSelector_146 (by decide) ?_
                  refine qj_iadd hx hb d_Rule_readSelector_147 ?_
                  have hf9 := q_lt_s hf; clear hf; obtain ⟨M21, eM21, hf⟩ := hf9
                  refine qj_puti (ty := .int) hx hb hts hin_7 ty_7 tyok_7 nm_7 hown hK (q_in tq0 (by decide)) (en_18 tq0) rfl 5 (by decide) (hts _ tw_257) (fun _ h => h) rfl (by decide +kernel) rfl rfl (Nat.le_of_ble_eq_true rfl) (sp_18_5 tq0) eM21 d_Rule_readSelector_148 ?_
                  refine qj_goto (tgt := 28) hx hb d_Rule_readSelector_151 (by decide) ?_
                  exact ih28 x19 M21 hf
                refine qj_if_eq (tgt := 141) hx hb d_Rule_readSelector_122 (by decide) (fun hc23 => ?_) (fun hc23 => ?_)
                · replace hf := q_if_t hc23 hf
                  exact hj22 M16 hf
                · replace hf := q_if_f hc23 hf
                  refine qj_aload_n hx hb d_Rule_readSelector_125 rfl 0 rfl ?_
                  refine qj_dup hx hb d_Rule_readSelector_126 ?_
                  refine qj_get hx hb hts hin_7 hown hK (q_in tq0 (by decide)) (en_18 tq0) rfl 8 (by decide) (hts _ tw_255) (fun _ h => h) (qi (M16.1 q0 8)) rfl d_Rule_readSelector_127 ?_
                  refine qj_iconst (v := 1) hx hb d_Rule_readSelector_130 (by decide) ?_
                  refine qj_iadd hx hb d_Rule_readSelector_131 ?_
                  have hf9 := q_lt_s hf; clear hf; obtain ⟨M24, eM24, hf⟩ := hf9
                  refine qj_puti (ty := .int) hx hb hts hin_7 ty_7 tyok_7 nm_7 hown hK (q_in tq0 (by decide)) (en_18 tq0) rfl 8 (by decide) (hts _ tw_255) (fun _ h => h) rfl (by decide +kernel) rfl rfl (Nat.le_of_ble_eq_true rfl) (sp_18_8 tq0) eM24 d_Rule_readSelector_132 ?_
                  refine qj_aload_n hx hb d_Rule_readSelector_135 rfl 0 rfl ?_
                  refine qj_aload_n hx hb d_Rule_readSelector_136 rfl 1 rfl ?_
                  refine qj_iload_n hx hb d_Rule_readSelector_137 rfl 2 rfl ?_
                  have hf9 := q_cv_s hf; clear hf; obtain ⟨M25, hM25, hf⟩ := hf9
                  refine qc_Vv (st := []) hx hb hml hown hts hK (qX_ok _ _ _ _) hs (c_Rule_skipBlanks q0 a2 tq0 M24 _ hM25) ⟨(callB_of 2 hts (q_good tw_262) rfl rfl rfl (hts _ tw_261) (hts _ tw_263) (by decide +kernel) ⟨by decide, by decide⟩), (hts _ tw_264), (hts _ tw_265)⟩ (q_in tq0 (by decide)) (en_18 tq0) rfl rfl rfl (Nat.le_of_ble_eq_true rfl) d_Rule_readSelector_138 ?_
                  exact hj22 M25 hf
              refine qj_if_ne (tgt := 121) hx hb d_Rule_readSelector_107 (by decide) (fun hc27 => ?_) (fun hc27 => ?_)
              · replace hf := q_if_f hc27 hf
                refine qj_sub [1, 2, 3, 0] rfl ?_
                exact hj26  hf
              · replace hf := q_if_t hc27 hf
                refine qj_aload_n hx hb d_Rule_readSelector_110 rfl 1 rfl ?_
                refine qj_get hx hb hts hin_7 hown hK (q_in tq0 (by decide)) (en_18 tq0) rfl 8 (by decide) (hts _ tw_255) (fun _ h => h) (qi (M16.1 q0 8)) rfl d_Rule_readSelector_111 ?_
                refine qj_iload hx hb d_Rule_readSelector_114 4 rfl ?_
                refine qj_icmp_ne (tgt := 121) hx hb d_Rule_readSelector_116 (by decide) (fun hc28 => ?_) (fun hc28 => ?_)
                · replace hf := q_if_f hc28 hf
                  refine qj_sub [1, 2, 3, 0] rfl ?_
                  exact hj26  hf
                · replace hf := q_if_t hc28 hf
                  refine qj_iconst (v := 0) hx hb d_Rule_readSelector_119 (by decide) ?_
                  exact hret _ _ _ _ (Or.inl rfl) d_Rule_readSelector_120 (Option.some.inj hf)
            refine qj_icmp_ne (tgt := 104) hx hb d_Rule_readSelector_97 (by decide) (fun hc30 => ?_) (fun hc30 => ?_)
            · replace hf := q_if_f hc30 hf
              refine qj_iconst (v := 0) hx hb d_Rule_readSelector_104 (by decide) ?_
              refine qj_sub [1, 2, 3, 0] rfl ?_
              exact hj29 0 hf
            · replace hf := q_if_t hc30 hf
              refine qj_iconst (v := 1) hx hb d_Rule_readSelector_100 (by decide) ?_
              refine qj_goto (tgt := 105) hx hb d_Rule_readSelector_101 (by decide) ?_
              refine qj_sub [1, 2, 3, 0] rfl ?_
              exact hj29 1 hf
          · replace hf := q_if_t hc17 hf
            refine qj_aload_n hx hb d_Rule_readSelector_77 rfl 1 rfl ?_
            refine qj_dup hx hb d_Rule_readSelector_78 ?_
            refine qj_get hx hb hts hin_7 hown hK (q_in tq0 (by decide)) (en_18 tq0) rfl 5 (by decide) (hts _ tw_257) (fun _ h => h) (qi (M16.1 q0 5)) rfl d_Rule_readSelector_79 ?_
            refine qj_iconst (v := 1) hx hb d_Rule_readSelector_82 (by decide) ?_
            refine qj_iadd hx hb d_Rule_readSelector_83 ?_
            have hf9 := q_lt_s hf; clear hf; obtain ⟨M31, eM31, hf⟩ := hf9
            refine qj_puti (ty := .int) hx hb hts hin_7 ty_7 tyok_7 nm_7 hown hK (q_in tq0 (by decide)) (en_18 tq0) rfl 5 (by decide) (hts _ tw_257) (fun _ h => h) rfl (by decide +kernel) rfl rfl (Nat.le_of_ble_eq_true rfl) (sp_18_5 tq0) eM31 d_Rule_readSelector_84 ?_
            refine qj_iconst (v := 1) hx hb d_Rule_readSelector_87 (by decide) ?_
            exact hret _ _ _ _ (Or.inr rfl) d_Rule_readSelector_88 (Option.some.inj hf)
        · replace hf := q_if_t hc15 hf
          refine qj_iconst (v := 0) hx hb d_Rule_readSelector_55 (by decide) ?_
          exact hret _ _ _ _ (Or.inl rfl) d_Rule_readSelector_56 (Option.some.inj hf)
  refine qj_sub [1, 2, 3, 0] rfl ?_
  refine hL28 _ _ (fun M32 hf9 => ?_) 0 M5 hf
  clear hf; have hf := hf9; clear hf9
  refine qj_iconst (v := 0) hx hb d_Rule_readSelector_154 (by decide) ?_
  exact hret _ _ _ _ (Or.inl rfl) d_Rule_readSelector_155 (Option.some.inj hf)
theorem d_Pg_isDigit_0 : decode prog_1_method_24_code 0 = .ok (.iload_n 0, 1) := by decide +kernel
theorem d_Pg_isDigit_1 : decode prog_1_method_24_code 1 = .ok (.bipush 48, 2) := by decide +kernel
theorem d_Pg_isDigit_3 : decode prog_1_method_24_code 3 = .ok (.if_icmp .lt 13, 3) := by decide +kernel
theorem d_Pg_isDigit_6 : decode prog_1_method_24_code 6 = .ok (.iload_n 0, 1) := by decide +kernel
theorem d_Pg_isDigit_7 : decode prog_1_method_24_code 7 = .ok (.bipush 57, 2) := by decide +kernel
theorem d_Pg_isDigit_9 : decode prog_1_method_24_code 9 = .ok (.if_icmp .gt 7, 3) := by decide +kernel
theorem d_Pg_isDigit_12 : decode prog_1_method_24_code 12 = .ok (.iconst 1, 1) := by decide +kernel
theorem d_Pg_isDigit_13 : decode prog_1_method_24_code 13 = .ok (.goto 4, 3) := by decide +kernel
theorem d_Pg_isDigit_16 : decode prog_1_method_24_code 16 = .ok (.iconst 0, 1) := by decide +kernel
theorem d_Pg_isDigit_17 : decode prog_1_method_24_code 17 = .ok (.ireturn, 1) := by decide +kernel
def f_Pg_isDigit (a0 : Int32) (M : qM) : Option Int32 := if a0 < 48 then (some 0) else (if 57 < a0 then (some 0) else (some 1))
abbrev rm_Pg_isDigit : Room := { frames := 0, cells := 0, slots := 0, locals := 0 }
set_option maxRecDepth 100000 in
set_option maxHeartbeats 4000000 in
theorem c_Pg_isDigit {l : Launch} {D : va_G} {dA : Nat → ClassId} {b : Nat} {adK adV : Nat → Nat} (a0 : Int32)  (M : qM) (out : Int32) (hf : f_Pg_isDigit a0 M = some out) : CTi l y_Pg_isDigit w_Pg_isDigit rm_Pg_isDigit D (tysX dA) (enX dA b) 367 b (qX adK adV 367 b) [qi a0] M (out, M) := by
  refine qm_z (cc := prog_1_method_24_code) (nL := 1) (by decide) rfl (Nat.le_of_ble_eq_true rfl) ?_
  intro p e s m args below meth c Q hx hb hts0 hown hml hK hs hret
  have hts : ∀ w ∈ lw_g, w.before args s = true := fun w h => hts0 w (List.mem_cons_of_mem _ h)
  show QJ p l e rm_Pg_isDigit s m args below meth c (qA 367 b) b 1 0 0 Q (qWd D (enX dA b) 367 b) M 0 [(0, qi a0)] []
  unfold f_Pg_isDigit at hf
  refine qj_iload_n hx hb d_Pg_isDigit_0 rfl 0 rfl ?_
  refine qj_bipush (v := 48) hx hb d_Pg_isDigit_1 (by decide) ?_
  refine qj_icmp_lt (tgt := 16) hx hb d_Pg_isDigit_3 (by decide) (fun hc1 => ?_) (fun hc1 => ?_)
  · replace hf := q_if_t hc1 hf
    refine qj_iconst (v := 0) hx hb d_Pg_isDigit_16 (by decide) ?_
    exact hret _ _ _ _ (Or.inl rfl) d_Pg_isDigit_17 (congrArg (fun z => (z, M)) (Option.some.inj hf))
  · replace hf := q_if_f hc1 hf
    refine qj_iload_n hx hb d_Pg_isDigit_6 rfl 0 rfl ?_
    refine qj_bipush (v := 57) hx hb d_Pg_isDigit_7 (by decide) ?_
    refine qj_icmp_gt (tgt := 16) hx hb d_Pg_isDigit_9 (by decide) (fun hc2 => ?_) (fun hc2 => ?_)
    · replace hf := q_if_t hc2 hf
      refine qj_iconst (v := 0) hx hb d_Pg_isDigit_16 (by decide) ?_
      exact hret _ _ _ _ (Or.inl rfl) d_Pg_isDigit_17 (congrArg (fun z => (z, M)) (Option.some.inj hf))
    · replace hf := q_if_f hc2 hf
      refine qj_iconst (v := 1) hx hb d_Pg_isDigit_12 (by decide) ?_
      refine qj_goto (tgt := 17) hx hb d_Pg_isDigit_13 (by decide) ?_
      exact hret _ _ _ _ (Or.inr rfl) d_Pg_isDigit_17 (congrArg (fun z => (z, M)) (Option.some.inj hf))
theorem d_Rule_readLength_0 : decode prog_8_method_8_code 0 = .ok (.iload_n 2, 1) := by decide +kernel
theorem d_Rule_readLength_1 : decode prog_8_method_8_code 1 = .ok (.iload_n 1, 1) := by decide +kernel
theorem d_Rule_readLength_2 : decode prog_8_method_8_code 2 = .ok (.isub, 1) := by decide +kernel
theorem d_Rule_readLength_3 : decode prog_8_method_8_code 3 = .ok (.iconst 2, 1) := by decide +kernel
theorem d_Rule_readLength_4 : decode prog_8_method_8_code 4 = .ok (.if_icmp .le 5, 3) := by decide +kernel
theorem d_Rule_readLength_7 : decode prog_8_method_8_code 7 = .ok (.iconst (-1), 1) := by decide +kernel
theorem d_Rule_readLength_8 : decode prog_8_method_8_code 8 = .ok (.ireturn, 1) := by decide +kernel
theorem d_Rule_readLength_9 : decode prog_8_method_8_code 9 = .ok (.iconst 0, 1) := by decide +kernel
theorem d_Rule_readLength_10 : decode prog_8_method_8_code 10 = .ok (.istore_n 3, 1) := by decide +kernel
theorem d_Rule_readLength_11 : decode prog_8_method_8_code 11 = .ok (.iload_n 1, 1) := by decide +kernel
theorem d_Rule_readLength_12 : decode prog_8_method_8_code 12 = .ok (.istore 4, 2) := by decide +kernel
theorem d_Rule_readLength_14 : decode prog_8_method_8_code 14 = .ok (.iload 4, 2) := by decide +kernel
theorem d_Rule_readLength_16 : decode prog_8_method_8_code 16 = .ok (.iload_n 2, 1) := by decide +kernel
theorem d_Rule_readLength_17 : decode prog_8_method_8_code 17 = .ok (.if_icmp .ge 34, 3) := by decide +kernel
theorem d_Rule_readLength_20 : decode prog_8_method_8_code 20 = .ok (.aload_n 0, 1) := by decide +kernel
theorem d_Rule_readLength_21 : decode prog_8_method_8_code 21 = .ok (.iload 4, 2) := by decide +kernel
theorem d_Rule_readLength_23 : decode prog_8_method_8_code 23 = .ok (.caload, 1) := by decide +kernel
theorem d_Rule_readLength_24 : decode prog_8_method_8_code 24 = .ok (.invokestatic 78, 3) := by decide +kernel
theorem d_Rule_readLength_27 : decode prog_8_method_8_code 27 = .ok (.ifCond .ne 5, 3) := by decide +kernel
theorem d_Rule_readLength_30 : decode prog_8_method_8_code 30 = .ok (.iconst (-1), 1) := by decide +kernel
theorem d_Rule_readLength_31 : decode prog_8_method_8_code 31 = .ok (.ireturn, 1) := by decide +kernel
theorem d_Rule_readLength_32 : decode prog_8_method_8_code 32 = .ok (.bipush 10, 2) := by decide +kernel
theorem d_Rule_readLength_34 : decode prog_8_method_8_code 34 = .ok (.iload_n 3, 1) := by decide +kernel
theorem d_Rule_readLength_35 : decode prog_8_method_8_code 35 = .ok (.imul, 1) := by decide +kernel
theorem d_Rule_readLength_36 : decode prog_8_method_8_code 36 = .ok (.aload_n 0, 1) := by decide +kernel
theorem d_Rule_readLength_37 : decode prog_8_method_8_code 37 = .ok (.iload 4, 2) := by decide +kernel
theorem d_Rule_readLength_39 : decode prog_8_method_8_code 39 = .ok (.caload, 1) := by decide +kernel
theorem d_Rule_readLength_40 : decode prog_8_method_8_code 40 = .ok (.iadd, 1) := by decide +kernel
theorem d_Rule_readLength_41 : decode prog_8_method_8_code 41 = .ok (.bipush 48, 2) := by decide +kernel
theorem d_Rule_readLength_43 : decode prog_8_method_8_code 43 = .ok (.isub, 1) := by decide +kernel
theorem d_Rule_readLength_44 : decode prog_8_method_8_code 44 = .ok (.istore_n 3, 1) := by decide +kernel
theorem d_Rule_readLength_45 : decode prog_8_method_8_code 45 = .ok (.iinc 4 1, 3) := by decide +kernel
theorem d_Rule_readLength_48 : decode prog_8_method_8_code 48 = .ok (.goto (-34), 3) := by decide +kernel
theorem d_Rule_readLength_51 : decode prog_8_method_8_code 51 = .ok (.iload_n 3, 1) := by decide +kernel
theorem d_Rule_readLength_52 : decode prog_8_method_8_code 52 = .ok (.ireturn, 1) := by decide +kernel
def f_Rule_readLength_14 (a2 : Int32) (M : qM) : Nat → (Int32 → Option Int32) → Int32 → Int32 → Option Int32
  | 0, _, _, _ => none
  | n + 1, K4, x2, x3 => if a2 ≤ x3 then (K4 x2) else (q_ix x3 120 <| q_bp (f_Pg_isDigit (M.1 291 x3.toNatClampNeg) M) fun x7 => if x7 = 0 then (some (-1)) else (q_ix x3 120 <| q_lt (((10 * x2) + (M.1 291 x3.toNatClampNeg)) - 48) fun x10 => f_Rule_readLength_14 a2 M n K4 x10 (x3 + 1)))
def f_Rule_readLength (a1 : Int32) (a2 : Int32) (M : qM) : Option Int32 := if (a2 - a1) ≤ 2 then (f_Rule_readLength_14 a2 M 1000 (fun (x11 : Int32) => some x11) 0 a1) else (some (-1))
abbrev rm_Rule_readLength : Room := { frames := 1, cells := 0, slots := 0, locals := 20 }
set_option maxRecDepth 100000 in
set_option maxHeartbeats 4000000 in
theorem c_Rule_readLength {l : Launch} {D : va_G} {dA : Nat → ClassId} {b : Nat} {adK adV : Nat → Nat} (a1 : Int32) (a2 : Int32)  (M : qM) (out : Int32) (hf : f_Rule_readLength a1 a2 M = some out) : CTi l y_Rule_readLength w_Rule_readLength rm_Rule_readLength D (tysX dA) (enX dA b) 367 b (qX adK adV 367 b) [qr (some 291), qi a1, qi a2] M (out, M) := by
  refine qm_i (cc := prog_8_method_8_code) (nL := 5) (by decide) rfl (Nat.le_of_ble_eq_true rfl) ?_
  intro p e s m args below meth c Q hx hb hts0 hown hml hK hs hret
  have hts : ∀ w ∈ lw_g, w.before args s = true := fun w h => hts0 w (List.mem_cons_of_mem _ h)
  show QJ p l e rm_Rule_readLength s m args below meth c (qA 367 b) b 5 0 0 Q (qWd D (enX dA b) 367 b) M 0 [(0, qr (some 291)), (1, qi a1), (2, qi a2)] []
  unfold f_Rule_readLength at hf
  refine qj_iload_n hx hb d_Rule_readLength_0 rfl 2 rfl ?_
  refine qj_iload_n hx hb d_Rule_readLength_1 rfl 1 rfl ?_
  refine qj_isub hx hb d_Rule_readLength_2 ?_
  refine qj_iconst (v := 2) hx hb d_Rule_readLength_3 (by decide) ?_
  refine qj_icmp_le (tgt := 9) hx hb d_Rule_readLength_4 (by decide) (fun hc1 => ?_) (fun hc1 => ?_)
  · replace hf := q_if_t hc1 hf
    refine qj_iconst (v := 0) hx hb d_Rule_readLength_9 (by decide) ?_
    refine qj_istore_n hx hb d_Rule_readLength_10 rfl (by decide) rfl ?_
    refine qj_iload_n hx hb d_Rule_readLength_11 rfl 2 rfl ?_
    refine qj_istore hx hb d_Rule_readLength_12 (by decide) rfl ?_
    have hL14 : ∀ (n : Nat) (K4 : Int32 → Option Int32), (∀ (x11 : Int32), K4 x11 = some out → QJ p l e rm_Rule_readLength s m args below meth c (qA 367 b) b 5 0 0 Q (qWd D (enX dA b) 367 b) M 51 [(3, qi x11)] []) → ∀ (x2 : Int32) (x3 : Int32), f_Rule_readLength_14 a2 M n K4 x2 x3 = some out → QJ p l e rm_Rule_readLength s m args below meth c (qA 367 b) b 5 0 0 Q (qWd D (enX dA b) 367 b) M 14 [(0, qr (some 291)), (2, qi a2), (3, qi x2), (4, qi x3)] [] := by
      clear hf
      intro n
      induction n with
      | zero =>
        intro K4 hK4 x2 x3 hf
        exact absurd hf (by simp [f_Rule_readLength_14])
      | succ n ih14 =>
        intro K4 hK4 x2 x3 hf
        rw [f_Rule_readLength_14] at hf
        have ih14 := ih14 K4 hK4
        refine qj_iload hx hb d_Rule_readLength_14 3 rfl ?_
        refine qj_iload_n hx hb d_Rule_readLength_16 rfl 1 rfl ?_
        refine qj_icmp_ge (tgt := 51) hx hb d_Rule_readLength_17 (by decide) (fun hc5 => ?_) (fun hc5 => ?_)
        · replace hf := q_if_t hc5 hf
          refine qj_sub [2] rfl ?_
          exact hK4 x2 hf
        · replace hf := q_if_f hc5 hf
          refine qj_aload_n hx hb d_Rule_readLength_20 rfl 0 rfl ?_
          refine qj_iload hx hb d_Rule_readLength_21 3 rfl ?_
          have hf9 := q_ix_s hf; clear hf; obtain ⟨hi6, hf⟩ := hf9
          refine qj_cald (t0 := 1) hx hb hK (q_in (rfl : tcX 291 = 17) (by decide)) (en_17 (rfl : tcX 291 = 17)) rfl hi6 d_Rule_readLength_23 ?_
          have hf9 := q_bp_s hf; clear hf; obtain ⟨x7, hx7, hf⟩ := hf9
          refine qc_SNi (st := []) hx hb hml hown hts hK (qX_ok _ _ _ _) hs (c_Pg_isDigit (M.1 291 x3.toNatClampNeg) M _ hx7) ⟨(va_cnB 1 hts (q_good tw_271) rfl rfl rfl (hs.2.2.1 ("PlainPage$Rule", 78, y_Pg_isDigit, "PlainPage") (by decide +kernel)) (hts _ tw_4) (by decide +kernel) ⟨by decide, by decide⟩), (hts _ tw_272), trivial⟩ rfl rfl (Nat.le_of_ble_eq_true rfl) d_Rule_readLength_24 ?_
          refine qj_if_ne (tgt := 32) hx hb d_Rule_readLength_27 (by decide) (fun hc8 => ?_) (fun hc8 => ?_)
          · replace hf := q_if_f hc8 hf
            refine qj_bipush (v := 10) hx hb d_Rule_readLength_32 (by decide) ?_
            refine qj_iload_n hx hb d_Rule_readLength_34 rfl 2 rfl ?_
            refine qj_imul hx hb d_Rule_readLength_35 ?_
            refine qj_aload_n hx hb d_Rule_readLength_36 rfl 0 rfl ?_
            refine qj_iload hx hb d_Rule_readLength_37 3 rfl ?_
            have hf9 := q_ix_s hf; clear hf; obtain ⟨hi9, hf⟩ := hf9
            refine qj_cald (t0 := 1) hx hb hK (q_in (rfl : tcX 291 = 17) (by decide)) (en_17 (rfl : tcX 291 = 17)) rfl hi9 d_Rule_readLength_39 ?_
            refine qj_iadd hx hb d_Rule_readLength_40 ?_
            refine qj_bipush (v := 48) hx hb d_Rule_readLength_41 (by decide) ?_
            refine qj_isub hx hb d_Rule_readLength_43 ?_
            have hf9 := q_lt_s hf; clear hf; obtain ⟨x10, ex10, hf⟩ := hf9
            rw [← ex10]
            refine qj_istore_n hx hb d_Rule_readLength_44 rfl (by decide) rfl ?_
            refine qj_iinc (j := 3) (v := x3 + 1) hx hb d_Rule_readLength_45 rfl rfl (by decide) rfl ?_
            refine qj_goto (tgt := 14) hx hb d_Rule_readLength_48 (by decide) ?_
            refine qj_sub [2, 3, 1, 0] rfl ?_
            exact ih14 x10 (x3 + 1) hf
          · replace hf := q_if_t hc8 hf
            refine qj_iconst (v := (-1)) hx hb d_Rule_readLength_30 (by decide) ?_
            exact hret _ _ _ _ d_Rule_readLength_31 (congrArg (fun z => (z, M)) (Option.some.inj hf))
    refine qj_sub [2, 4, 1, 0] rfl ?_
    refine hL14 _ _ (fun x11 hf9 => ?_) 0 a1 hf
    clear hf; have hf := hf9; clear hf9
    refine qj_iload_n hx hb d_Rule_readLength_51 rfl 0 rfl ?_
    exact hret _ _ _ _ d_Rule_readLength_52 (congrArg (fun z => (z, M)) (Option.some.inj hf))
  · replace hf := q_if_f hc1 hf
    refine qj_iconst (v := (-1)) hx hb d_Rule_readLength_7 (by decide) ?_
    exact hret _ _ _ _ d_Rule_readLength_8 (congrArg (fun z => (z, M)) (Option.some.inj hf))
theorem d_Rule_readValue_0 : decode prog_8_method_7_code 0 = .ok (.aload_n 1, 1) := by decide +kernel
theorem d_Rule_readValue_1 : decode prog_8_method_7_code 1 = .ok (.iload_n 2, 1) := by decide +kernel
theorem d_Rule_readValue_2 : decode prog_8_method_7_code 2 = .ok (.caload, 1) := by decide +kernel
theorem d_Rule_readValue_3 : decode prog_8_method_7_code 3 = .ok (.istore 4, 2) := by decide +kernel
theorem d_Rule_readValue_5 : decode prog_8_method_7_code 5 = .ok (.iload_n 3, 1) := by decide +kernel
theorem d_Rule_readValue_6 : decode prog_8_method_7_code 6 = .ok (.iload_n 2, 1) := by decide +kernel
theorem d_Rule_readValue_7 : decode prog_8_method_7_code 7 = .ok (.isub, 1) := by decide +kernel
theorem d_Rule_readValue_8 : decode prog_8_method_7_code 8 = .ok (.istore 5, 2) := by decide +kernel
theorem d_Rule_readValue_10 : decode prog_8_method_7_code 10 = .ok (.iload_n 0, 1) := by decide +kernel
theorem d_Rule_readValue_11 : decode prog_8_method_7_code 11 = .ok (.tableswitch 126 0 6 #[41, 41, 65, 96, 119, 119, 119], 41) := by decide +kernel
theorem d_Rule_readValue_52 : decode prog_8_method_7_code 52 = .ok (.iload 5, 2) := by decide +kernel
theorem d_Rule_readValue_54 : decode prog_8_method_7_code 54 = .ok (.iconst 1, 1) := by decide +kernel
theorem d_Rule_readValue_55 : decode prog_8_method_7_code 55 = .ok (.if_icmp .ne 19, 3) := by decide +kernel
theorem d_Rule_readValue_58 : decode prog_8_method_7_code 58 = .ok (.iload 4, 2) := by decide +kernel
theorem d_Rule_readValue_60 : decode prog_8_method_7_code 60 = .ok (.invokestatic 78, 3) := by decide +kernel
theorem d_Rule_readValue_63 : decode prog_8_method_7_code 63 = .ok (.ifCond .eq 11, 3) := by decide +kernel
theorem d_Rule_readValue_66 : decode prog_8_method_7_code 66 = .ok (.iload 4, 2) := by decide +kernel
theorem d_Rule_readValue_68 : decode prog_8_method_7_code 68 = .ok (.bipush 48, 2) := by decide +kernel
theorem d_Rule_readValue_70 : decode prog_8_method_7_code 70 = .ok (.isub, 1) := by decide +kernel
theorem d_Rule_readValue_71 : decode prog_8_method_7_code 71 = .ok (.goto 4, 3) := by decide +kernel
theorem d_Rule_readValue_74 : decode prog_8_method_7_code 74 = .ok (.iconst (-1), 1) := by decide +kernel
theorem d_Rule_readValue_75 : decode prog_8_method_7_code 75 = .ok (.ireturn, 1) := by decide +kernel
theorem d_Rule_readValue_76 : decode prog_8_method_7_code 76 = .ok (.iload 5, 2) := by decide +kernel
theorem d_Rule_readValue_78 : decode prog_8_method_7_code 78 = .ok (.iconst 1, 1) := by decide +kernel
theorem d_Rule_readValue_79 : decode prog_8_method_7_code 79 = .ok (.if_icmp .ne 26, 3) := by decide +kernel
theorem d_Rule_readValue_82 : decode prog_8_method_7_code 82 = .ok (.iload 4, 2) := by decide +kernel
theorem d_Rule_readValue_84 : decode prog_8_method_7_code 84 = .ok (.invokestatic 78, 3) := by decide +kernel
theorem d_Rule_readValue_87 : decode prog_8_method_7_code 87 = .ok (.ifCond .eq 18, 3) := by decide +kernel
theorem d_Rule_readValue_90 : decode prog_8_method_7_code 90 = .ok (.iload 4, 2) := by decide +kernel
theorem d_Rule_readValue_92 : decode prog_8_method_7_code 92 = .ok (.bipush 48, 2) := by decide +kernel
theorem d_Rule_readValue_94 : decode prog_8_method_7_code 94 = .ok (.if_icmp .eq 11, 3) := by decide +kernel
theorem d_Rule_readValue_97 : decode prog_8_method_7_code 97 = .ok (.iload 4, 2) := by decide +kernel
theorem d_Rule_readValue_99 : decode prog_8_method_7_code 99 = .ok (.bipush 48, 2) := by decide +kernel
theorem d_Rule_readValue_101 : decode prog_8_method_7_code 101 = .ok (.isub, 1) := by decide +kernel
theorem d_Rule_readValue_102 : decode prog_8_method_7_code 102 = .ok (.goto 4, 3) := by decide +kernel
theorem d_Rule_readValue_105 : decode prog_8_method_7_code 105 = .ok (.iconst (-1), 1) := by decide +kernel
theorem d_Rule_readValue_106 : decode prog_8_method_7_code 106 = .ok (.ireturn, 1) := by decide +kernel
theorem d_Rule_readValue_107 : decode prog_8_method_7_code 107 = .ok (.iload 5, 2) := by decide +kernel
theorem d_Rule_readValue_109 : decode prog_8_method_7_code 109 = .ok (.iconst 1, 1) := by decide +kernel
theorem d_Rule_readValue_110 : decode prog_8_method_7_code 110 = .ok (.if_icmp .ne 18, 3) := by decide +kernel
theorem d_Rule_readValue_113 : decode prog_8_method_7_code 113 = .ok (.iload 4, 2) := by decide +kernel
theorem d_Rule_readValue_115 : decode prog_8_method_7_code 115 = .ok (.ldc 81, 2) := by decide +kernel
theorem d_Rule_readValue_117 : decode prog_8_method_7_code 117 = .ok (.invokestatic 83, 3) := by decide +kernel
theorem d_Rule_readValue_120 : decode prog_8_method_7_code 120 = .ok (.ifCond .eq 8, 3) := by decide +kernel
theorem d_Rule_readValue_123 : decode prog_8_method_7_code 123 = .ok (.iload 4, 2) := by decide +kernel
theorem d_Rule_readValue_125 : decode prog_8_method_7_code 125 = .ok (.goto 4, 3) := by decide +kernel
theorem d_Rule_readValue_128 : decode prog_8_method_7_code 128 = .ok (.iconst (-1), 1) := by decide +kernel
theorem d_Rule_readValue_129 : decode prog_8_method_7_code 129 = .ok (.ireturn, 1) := by decide +kernel
theorem d_Rule_readValue_130 : decode prog_8_method_7_code 130 = .ok (.aload_n 1, 1) := by decide +kernel
theorem d_Rule_readValue_131 : decode prog_8_method_7_code 131 = .ok (.iload_n 2, 1) := by decide +kernel
theorem d_Rule_readValue_132 : decode prog_8_method_7_code 132 = .ok (.iload_n 3, 1) := by decide +kernel
theorem d_Rule_readValue_133 : decode prog_8_method_7_code 133 = .ok (.invokestatic 87, 3) := by decide +kernel
theorem d_Rule_readValue_136 : decode prog_8_method_7_code 136 = .ok (.ireturn, 1) := by decide +kernel
theorem d_Rule_readValue_137 : decode prog_8_method_7_code 137 = .ok (.iconst (-1), 1) := by decide +kernel
theorem d_Rule_readValue_138 : decode prog_8_method_7_code 138 = .ok (.ireturn, 1) := by decide +kernel
def f_Rule_readValue (a0 : Int32) (a2 : Int32) (a3 : Int32) (M : qM) : Option Int32 := q_ix a2 120 <| if a0 = 0 then (if (a3 - a2) = 1 then (q_bp (f_Pg_isDigit (M.1 291 a2.toNatClampNeg) M) fun x4 => if x4 = 0 then (some (-1)) else (some ((M.1 291 a2.toNatClampNeg) - 48))) else (some (-1))) else if a0 = 1 then (if (a3 - a2) = 1 then (q_bp (f_Pg_isDigit (M.1 291 a2.toNatClampNeg) M) fun x8 => if x8 = 0 then (some (-1)) else (some ((M.1 291 a2.toNatClampNeg) - 48))) else (some (-1))) else if a0 = 2 then (if (a3 - a2) = 1 then (q_bp (f_Pg_isDigit (M.1 291 a2.toNatClampNeg) M) fun x12 => if x12 = 0 then (some (-1)) else (if (M.1 291 a2.toNatClampNeg) = 48 then (some (-1)) else (some ((M.1 291 a2.toNatClampNeg) - 48)))) else (some (-1))) else if a0 = 3 then (if (a3 - a2) = 1 then (q_bp (f_Pg_isOneOf (M.1 291 a2.toNatClampNeg) 10 M) fun x17 => if x17 = 0 then (some (-1)) else (some (M.1 291 a2.toNatClampNeg))) else (some (-1))) else if a0 = 4 then (q_bp (f_Rule_readLength a2 a3 M) fun x20 => some x20) else if a0 = 5 then (q_bp (f_Rule_readLength a2 a3 M) fun x22 => some x22) else if a0 = 6 then (q_bp (f_Rule_readLength a2 a3 M) fun x24 => some x24) else (some (-1))
abbrev rm_Rule_readValue : Room := { frames := 11, cells := 0, slots := 0, locals := 442 }
set_option maxRecDepth 100000 in
set_option maxHeartbeats 4000000 in
theorem c_Rule_readValue {l : Launch} {D : va_G} {dA : Nat → ClassId} {b : Nat} {adK adV : Nat → Nat} (a0 : Int32) (a2 : Int32) (a3 : Int32)  (M : qM) (out : Int32) (hf : f_Rule_readValue a0 a2 a3 M = some out) : CTi l y_Rule_readValue w_Rule_readValue rm_Rule_readValue D (tysX dA) (enX dA b) 367 b (qX adK adV 367 b) [qi a0, qr (some 291), qi a2, qi a3] M (out, M) := by
  refine qm_i (cc := prog_8_method_7_code) (nL := 6) (by decide) rfl (Nat.le_of_ble_eq_true rfl) ?_
  intro p e s m args below meth c Q hx hb hts0 hown hml hK hs hret
  have hts : ∀ w ∈ lw_g, w.before args s = true := fun w h => hts0 w (List.mem_cons_of_mem _ h)
  show QJ p l e rm_Rule_readValue s m args below meth c (qA 367 b) b 6 0 0 Q (qWd D (enX dA b) 367 b) M 0 [(0, qi a0), (1, qr (some 291)), (2, qi a2), (3, qi a3)] []
  unfold f_Rule_readValue at hf
  refine qj_aload_n hx hb d_Rule_readValue_0 rfl 1 rfl ?_
  refine qj_iload_n hx hb d_Rule_readValue_1 rfl 2 rfl ?_
  have hf9 := q_ix_s hf; clear hf; obtain ⟨hi1, hf⟩ := hf9
  refine qj_cald (t0 := 1) hx hb hK (q_in (rfl : tcX 291 = 17) (by decide)) (en_17 (rfl : tcX 291 = 17)) rfl hi1 d_Rule_readValue_2 ?_
  refine qj_istore hx hb d_Rule_readValue_3 (by decide) rfl ?_
  refine qj_iload_n hx hb d_Rule_readValue_5 rfl 4 rfl ?_
  refine qj_iload_n hx hb d_Rule_readValue_6 rfl 3 rfl ?_
  refine qj_isub hx hb d_Rule_readValue_7 ?_
  refine qj_istore hx hb d_Rule_readValue_8 (by decide) rfl ?_
  refine qj_iload_n hx hb d_Rule_readValue_10 rfl 2 rfl ?_
  by_cases hk2 : a0 = 0
  · replace hf := q_if_t hk2 hf
    refine qj_tableIn (off := 41) (tgt := 52) hx hb d_Rule_readValue_11 (by rw [hk2]; decide) (by rw [hk2]; decide) (by rw [hk2] <;> rfl) (by decide) ?_
    refine qj_iload hx hb d_Rule_readValue_52 0 rfl ?_
    refine qj_iconst (v := 1) hx hb d_Rule_readValue_54 (by decide) ?_
    refine qj_icmp_ne (tgt := 74) hx hb d_Rule_readValue_55 (by decide) (fun hc3 => ?_) (fun hc3 => ?_)
    · replace hf := q_if_f hc3 hf
      refine qj_iconst (v := (-1)) hx hb d_Rule_readValue_74 (by decide) ?_
      exact hret _ _ _ _ d_Rule_readValue_75 (congrArg (fun z => (z, M)) (Option.some.inj hf))
    · replace hf := q_if_t hc3 hf
      refine qj_iload hx hb d_Rule_readValue_58 1 rfl ?_
      have hf9 := q_bp_s hf; clear hf; obtain ⟨x4, hx4, hf⟩ := hf9
      refine qc_SNi (st := []) hx hb hml hown hts hK (qX_ok _ _ _ _) hs (c_Pg_isDigit (M.1 291 a2.toNatClampNeg) M _ hx4) ⟨(va_cnB 1 hts (q_good tw_271) rfl rfl rfl (hs.2.2.1 ("PlainPage$Rule", 78, y_Pg_isDigit, "PlainPage") (by decide +kernel)) (hts _ tw_4) (by decide +kernel) ⟨by decide, by decide⟩), (hts _ tw_272), trivial⟩ rfl rfl (Nat.le_of_ble_eq_true rfl) d_Rule_readValue_60 ?_
      refine qj_if_eq (tgt := 74) hx hb d_Rule_readValue_63 (by decide) (fun hc5 => ?_) (fun hc5 => ?_)
      · replace hf := q_if_t hc5 hf
        refine qj_iconst (v := (-1)) hx hb d_Rule_readValue_74 (by decide) ?_
        exact hret _ _ _ _ d_Rule_readValue_75 (congrArg (fun z => (z, M)) (Option.some.inj hf))
      · replace hf := q_if_f hc5 hf
        refine qj_iload hx hb d_Rule_readValue_66 1 rfl ?_
        refine qj_bipush (v := 48) hx hb d_Rule_readValue_68 (by decide) ?_
        refine qj_isub hx hb d_Rule_readValue_70 ?_
        refine qj_goto (tgt := 75) hx hb d_Rule_readValue_71 (by decide) ?_
        exact hret _ _ _ _ d_Rule_readValue_75 (congrArg (fun z => (z, M)) (Option.some.inj hf))
  replace hf := q_if_f hk2 hf
  by_cases hk6 : a0 = 1
  · replace hf := q_if_t hk6 hf
    refine qj_tableIn (off := 41) (tgt := 52) hx hb d_Rule_readValue_11 (by rw [hk6]; decide) (by rw [hk6]; decide) (by rw [hk6] <;> rfl) (by decide) ?_
    refine qj_iload hx hb d_Rule_readValue_52 0 rfl ?_
    refine qj_iconst (v := 1) hx hb d_Rule_readValue_54 (by decide) ?_
    refine qj_icmp_ne (tgt := 74) hx hb d_Rule_readValue_55 (by decide) (fun hc7 => ?_) (fun hc7 => ?_)
    · replace hf := q_if_f hc7 hf
      refine qj_iconst (v := (-1)) hx hb d_Rule_readValue_74 (by decide) ?_
      exact hret _ _ _ _ d_Rule_readValue_75 (congrArg (fun z => (z, M)) (Option.some.inj hf))
    · replace hf := q_if_t hc7 hf
      refine qj_iload hx hb d_Rule_readValue_58 1 rfl ?_
      have hf9 := q_bp_s hf; clear hf; obtain ⟨x8, hx8, hf⟩ := hf9
      refine qc_SNi (st := []) hx hb hml hown hts hK (qX_ok _ _ _ _) hs (c_Pg_isDigit (M.1 291 a2.toNatClampNeg) M _ hx8) ⟨(va_cnB 1 hts (q_good tw_271) rfl rfl rfl (hs.2.2.1 ("PlainPage$Rule", 78, y_Pg_isDigit, "PlainPage") (by decide +kernel)) (hts _ tw_4) (by decide +kernel) ⟨by decide, by decide⟩), (hts _ tw_272), trivial⟩ rfl rfl (Nat.le_of_ble_eq_true rfl) d_Rule_readValue_60 ?_
      refine qj_if_eq (tgt := 74) hx hb d_Rule_readValue_63 (by decide) (fun hc9 => ?_) (fun hc9 => ?_)
      · replace hf := q_if_t hc9 hf
        refine qj_iconst (v := (-1)) hx hb d_Rule_readValue_74 (by decide) ?_
        exact hret _ _ _ _ d_Rule_readValue_75 (congrArg (fun z => (z, M)) (Option.some.inj hf))
      · replace hf := q_if_f hc9 hf
        refine qj_iload hx hb d_Rule_readValue_66 1 rfl ?_
        refine qj_bipush (v := 48) hx hb d_Rule_readValue_68 (by decide) ?_
        refine qj_isub hx hb d_Rule_readValue_70 ?_
        refine qj_goto (tgt := 75) hx hb d_Rule_readValue_71 (by decide) ?_
        exact hret _ _ _ _ d_Rule_readValue_75 (congrArg (fun z => (z, M)) (Option.some.inj hf))
  replace hf := q_if_f hk6 hf
  by_cases hk10 : a0 = 2
  · replace hf := q_if_t hk10 hf
    refine qj_tableIn (off := 65) (tgt := 76) hx hb d_Rule_readValue_11 (by rw [hk10]; decide) (by rw [hk10]; decide) (by rw [hk10] <;> rfl) (by decide) ?_
    refine qj_iload hx hb d_Rule_readValue_76 0 rfl ?_
    refine qj_iconst (v := 1) hx hb d_Rule_readValue_78 (by decide) ?_
    refine qj_icmp_ne (tgt := 105) hx hb d_Rule_readValue_79 (by decide) (fun hc11 => ?_) (fun hc11 => ?_)
    · replace hf := q_if_f hc11 hf
      refine qj_iconst (v := (-1)) hx hb d_Rule_readValue_105 (by decide) ?_
      exact hret _ _ _ _ d_Rule_readValue_106 (congrArg (fun z => (z, M)) (Option.some.inj hf))
    · replace hf := q_if_t hc11 hf
      refine qj_iload hx hb d_Rule_readValue_82 1 rfl ?_
      have hf9 := q_bp_s hf; clear hf; obtain ⟨x12, hx12, hf⟩ := hf9
      refine qc_SNi (st := []) hx hb hml hown hts hK (qX_ok _ _ _ _) hs (c_Pg_isDigit (M.1 291 a2.toNatClampNeg) M _ hx12) ⟨(va_cnB 1 hts (q_good tw_271) rfl rfl rfl (hs.2.2.1 ("PlainPage$Rule", 78, y_Pg_isDigit, "PlainPage") (by decide +kernel)) (hts _ tw_4) (by decide +kernel) ⟨by decide, by decide⟩), (hts _ tw_272), trivial⟩ rfl rfl (Nat.le_of_ble_eq_true rfl) d_Rule_readValue_84 ?_
      refine qj_if_eq (tgt := 105) hx hb d_Rule_readValue_87 (by decide) (fun hc13 => ?_) (fun hc13 => ?_)
      · replace hf := q_if_t hc13 hf
        refine qj_iconst (v := (-1)) hx hb d_Rule_readValue_105 (by decide) ?_
        exact hret _ _ _ _ d_Rule_readValue_106 (congrArg (fun z => (z, M)) (Option.some.inj hf))
      · replace hf := q_if_f hc13 hf
        refine qj_iload hx hb d_Rule_readValue_90 1 rfl ?_
        refine qj_bipush (v := 48) hx hb d_Rule_readValue_92 (by decide) ?_
        refine qj_icmp_eq (tgt := 105) hx hb d_Rule_readValue_94 (by decide) (fun hc14 => ?_) (fun hc14 => ?_)
        · replace hf := q_if_t hc14 hf
          refine qj_iconst (v := (-1)) hx hb d_Rule_readValue_105 (by decide) ?_
          exact hret _ _ _ _ d_Rule_readValue_106 (congrArg (fun z => (z, M)) (Option.some.inj hf))
        · replace hf := q_if_f hc14 hf
          refine qj_iload hx hb d_Rule_readValue_97 1 rfl ?_
          refine qj_bipush (v := 48) hx hb d_Rule_readValue_99 (by decide) ?_
          refine qj_isub hx hb d_Rule_readValue_101 ?_
          refine qj_goto (tgt := 106) hx hb d_Rule_readValue_102 (by decide) ?_
          exact hret _ _ _ _ d_Rule_readValue_106 (congrArg (fun z => (z, M)) (Option.some.inj hf))
  replace hf := q_if_f hk10 hf
  by_cases hk15 : a0 = 3
  · replace hf := q_if_t hk15 hf
    refine qj_tableIn (off := 96) (tgt := 107) hx hb d_Rule_readValue_11 (by rw [hk15]; decide) (by rw [hk15]; decide) (by rw [hk15] <;> rfl) (by decide) ?_
    refine qj_iload hx hb d_Rule_readValue_107 0 rfl ?_
    refine qj_iconst (v := 1) hx hb d_Rule_readValue_109 (by decide) ?_
    refine qj_icmp_ne (tgt := 128) hx hb d_Rule_readValue_110 (by decide) (fun hc16 => ?_) (fun hc16 => ?_)
    · replace hf := q_if_f hc16 hf
      refine qj_iconst (v := (-1)) hx hb d_Rule_readValue_128 (by decide) ?_
      exact hret _ _ _ _ d_Rule_readValue_129 (congrArg (fun z => (z, M)) (Option.some.inj hf))
    · replace hf := q_if_t hc16 hf
      refine qj_iload hx hb d_Rule_readValue_113 1 rfl ?_
      refine qj_ldcS hx hb hown (hs.2.1 ("PlainPage$Rule", 81, "bin", 10) (by decide +kernel)) d_Rule_readValue_115 ?_
      have hf9 := q_bp_s hf; clear hf; obtain ⟨x17, hx17, hf⟩ := hf9
      refine qc_SNi (st := []) hx hb hml hown hts hK (qX_ok _ _ _ _) hs (c_Pg_isOneOf (M.1 291 a2.toNatClampNeg) 10 M _ hx17) ⟨(va_cnB 2 hts (q_good tw_5) rfl rfl rfl (hs.2.2.1 ("PlainPage$Rule", 83, y_Pg_isOneOf, "PlainPage") (by decide +kernel)) (hts _ tw_4) (by decide +kernel) ⟨by decide, by decide⟩), (hts _ tw_6), trivial⟩ rfl rfl (Nat.le_of_ble_eq_true rfl) d_Rule_readValue_117 ?_
      refine qj_if_eq (tgt := 128) hx hb d_Rule_readValue_120 (by decide) (fun hc18 => ?_) (fun hc18 => ?_)
      · replace hf := q_if_t hc18 hf
        refine qj_iconst (v := (-1)) hx hb d_Rule_readValue_128 (by decide) ?_
        exact hret _ _ _ _ d_Rule_readValue_129 (congrArg (fun z => (z, M)) (Option.some.inj hf))
      · replace hf := q_if_f hc18 hf
        refine qj_iload hx hb d_Rule_readValue_123 1 rfl ?_
        refine qj_goto (tgt := 129) hx hb d_Rule_readValue_125 (by decide) ?_
        exact hret _ _ _ _ d_Rule_readValue_129 (congrArg (fun z => (z, M)) (Option.some.inj hf))
  replace hf := q_if_f hk15 hf
  by_cases hk19 : a0 = 4
  · replace hf := q_if_t hk19 hf
    refine qj_tableIn (off := 119) (tgt := 130) hx hb d_Rule_readValue_11 (by rw [hk19]; decide) (by rw [hk19]; decide) (by rw [hk19] <;> rfl) (by decide) ?_
    refine qj_aload_n hx hb d_Rule_readValue_130 rfl 3 rfl ?_
    refine qj_iload_n hx hb d_Rule_readValue_131 rfl 4 rfl ?_
    refine qj_iload_n hx hb d_Rule_readValue_132 rfl 5 rfl ?_
    have hf9 := q_bp_s hf; clear hf; obtain ⟨x20, hx20, hf⟩ := hf9
    refine qc_Si (st := []) hx hb hml hown hts hK (qX_ok _ _ _ _) hs (c_Rule_readLength a2 a3 M _ hx20) ⟨(callB_of 3 hts (q_good tw_273) rfl rfl rfl (hts _ tw_261) (hts _ tw_274) (by decide +kernel) ⟨by decide, by decide⟩), (hts _ tw_275)⟩ rfl rfl (Nat.le_of_ble_eq_true rfl) d_Rule_readValue_133 ?_
    exact hret _ _ _ _ d_Rule_readValue_136 (congrArg (fun z => (z, M)) (Option.some.inj hf))
  replace hf := q_if_f hk19 hf
  by_cases hk21 : a0 = 5
  · replace hf := q_if_t hk21 hf
    refine qj_tableIn (off := 119) (tgt := 130) hx hb d_Rule_readValue_11 (by rw [hk21]; decide) (by rw [hk21]; decide) (by rw [hk21] <;> rfl) (by decide) ?_
    refine qj_aload_n hx hb d_Rule_readValue_130 rfl 3 rfl ?_
    refine qj_iload_n hx hb d_Rule_readValue_131 rfl 4 rfl ?_
    refine qj_iload_n hx hb d_Rule_readValue_132 rfl 5 rfl ?_
    have hf9 := q_bp_s hf; clear hf; obtain ⟨x22, hx22, hf⟩ := hf9
    refine qc_Si (st := []) hx hb hml hown hts hK (qX_ok _ _ _ _) hs (c_Rule_readLength a2 a3 M _ hx22) ⟨(callB_of 3 hts (q_good tw_273) rfl rfl rfl (hts _ tw_261) (hts _ tw_274) (by decide +kernel) ⟨by decide, by decide⟩), (hts _ tw_275)⟩ rfl rfl (Nat.le_of_ble_eq_true rfl) d_Rule_readValue_133 ?_
    exact hret _ _ _ _ d_Rule_readValue_136 (congrArg (fun z => (z, M)) (Option.some.inj hf))
  replace hf := q_if_f hk21 hf
  by_cases hk23 : a0 = 6
  · replace hf := q_if_t hk23 hf
    refine qj_tableIn (off := 119) (tgt := 130) hx hb d_Rule_readValue_11 (by rw [hk23]; decide) (by rw [hk23]; decide) (by rw [hk23] <;> rfl) (by decide) ?_
    refine qj_aload_n hx hb d_Rule_readValue_130 rfl 3 rfl ?_
    refine qj_iload_n hx hb d_Rule_readValue_131 rfl 4 rfl ?_
    refine qj_iload_n hx hb d_Rule_readValue_132 rfl 5 rfl ?_
    have hf9 := q_bp_s hf; clear hf; obtain ⟨x24, hx24, hf⟩ := hf9
    refine qc_Si (st := []) hx hb hml hown hts hK (qX_ok _ _ _ _) hs (c_Rule_readLength a2 a3 M _ hx24) ⟨(callB_of 3 hts (q_good tw_273) rfl rfl rfl (hts _ tw_261) (hts _ tw_274) (by decide +kernel) ⟨by decide, by decide⟩), (hts _ tw_275)⟩ rfl rfl (Nat.le_of_ble_eq_true rfl) d_Rule_readValue_133 ?_
    exact hret _ _ _ _ d_Rule_readValue_136 (congrArg (fun z => (z, M)) (Option.some.inj hf))
  replace hf := q_if_f hk23 hf
  refine qj_tableOut (tgt := 137) hx hb d_Rule_readValue_11 (by have z0 := lv_neT hk2 (a := 0) (by decide); have z1 := lv_neT hk6 (a := 1) (by decide); have z2 := lv_neT hk10 (a := 2) (by decide); have z3 := lv_neT hk15 (a := 3) (by decide); have z4 := lv_neT hk19 (a := 4) (by decide); have z5 := lv_neT hk21 (a := 5) (by decide); have z6 := lv_neT hk23 (a := 6) (by decide); omega) (by decide) ?_
  refine qj_iconst (v := (-1)) hx hb d_Rule_readValue_137 (by decide) ?_
  exact hret _ _ _ _ d_Rule_readValue_138 (congrArg (fun z => (z, M)) (Option.some.inj hf))
theorem d_Rule_readDeclaration_0 : decode prog_8_method_6_code 0 = .ok (.iload_n 3, 1) := by decide +kernel
theorem d_Rule_readDeclaration_1 : decode prog_8_method_6_code 1 = .ok (.iload_n 2, 1) := by decide +kernel
theorem d_Rule_readDeclaration_2 : decode prog_8_method_6_code 2 = .ok (.if_icmp .le 17, 3) := by decide +kernel
theorem d_Rule_readDeclaration_5 : decode prog_8_method_6_code 5 = .ok (.aload_n 1, 1) := by decide +kernel
theorem d_Rule_readDeclaration_6 : decode prog_8_method_6_code 6 = .ok (.iload_n 3, 1) := by decide +kernel
theorem d_Rule_readDeclaration_7 : decode prog_8_method_6_code 7 = .ok (.iconst 1, 1) := by decide +kernel
theorem d_Rule_readDeclaration_8 : decode prog_8_method_6_code 8 = .ok (.isub, 1) := by decide +kernel
theorem d_Rule_readDeclaration_9 : decode prog_8_method_6_code 9 = .ok (.caload, 1) := by decide +kernel
theorem d_Rule_readDeclaration_10 : decode prog_8_method_6_code 10 = .ok (.bipush 33, 2) := by decide +kernel
theorem d_Rule_readDeclaration_12 : decode prog_8_method_6_code 12 = .ok (.if_icmp .ne 7, 3) := by decide +kernel
theorem d_Rule_readDeclaration_15 : decode prog_8_method_6_code 15 = .ok (.iconst 1, 1) := by decide +kernel
theorem d_Rule_readDeclaration_16 : decode prog_8_method_6_code 16 = .ok (.goto 4, 3) := by decide +kernel
theorem d_Rule_readDeclaration_19 : decode prog_8_method_6_code 19 = .ok (.iconst 0, 1) := by decide +kernel
theorem d_Rule_readDeclaration_20 : decode prog_8_method_6_code 20 = .ok (.istore 4, 2) := by decide +kernel
theorem d_Rule_readDeclaration_22 : decode prog_8_method_6_code 22 = .ok (.iload 4, 2) := by decide +kernel
theorem d_Rule_readDeclaration_24 : decode prog_8_method_6_code 24 = .ok (.ifCond .eq 9, 3) := by decide +kernel
theorem d_Rule_readDeclaration_27 : decode prog_8_method_6_code 27 = .ok (.iload_n 3, 1) := by decide +kernel
theorem d_Rule_readDeclaration_28 : decode prog_8_method_6_code 28 = .ok (.iconst 1, 1) := by decide +kernel
theorem d_Rule_readDeclaration_29 : decode prog_8_method_6_code 29 = .ok (.isub, 1) := by decide +kernel
theorem d_Rule_readDeclaration_30 : decode prog_8_method_6_code 30 = .ok (.goto 4, 3) := by decide +kernel
theorem d_Rule_readDeclaration_33 : decode prog_8_method_6_code 33 = .ok (.iload_n 3, 1) := by decide +kernel
theorem d_Rule_readDeclaration_34 : decode prog_8_method_6_code 34 = .ok (.istore 5, 2) := by decide +kernel
theorem d_Rule_readDeclaration_36 : decode prog_8_method_6_code 36 = .ok (.iload 5, 2) := by decide +kernel
theorem d_Rule_readDeclaration_38 : decode prog_8_method_6_code 38 = .ok (.iload_n 2, 1) := by decide +kernel
theorem d_Rule_readDeclaration_39 : decode prog_8_method_6_code 39 = .ok (.isub, 1) := by decide +kernel
theorem d_Rule_readDeclaration_40 : decode prog_8_method_6_code 40 = .ok (.iconst 3, 1) := by decide +kernel
theorem d_Rule_readDeclaration_41 : decode prog_8_method_6_code 41 = .ok (.if_icmp .lt 13, 3) := by decide +kernel
theorem d_Rule_readDeclaration_44 : decode prog_8_method_6_code 44 = .ok (.aload_n 1, 1) := by decide +kernel
theorem d_Rule_readDeclaration_45 : decode prog_8_method_6_code 45 = .ok (.iload_n 2, 1) := by decide +kernel
theorem d_Rule_readDeclaration_46 : decode prog_8_method_6_code 46 = .ok (.iconst 1, 1) := by decide +kernel
theorem d_Rule_readDeclaration_47 : decode prog_8_method_6_code 47 = .ok (.iadd, 1) := by decide +kernel
theorem d_Rule_readDeclaration_48 : decode prog_8_method_6_code 48 = .ok (.caload, 1) := by decide +kernel
theorem d_Rule_readDeclaration_49 : decode prog_8_method_6_code 49 = .ok (.bipush 58, 2) := by decide +kernel
theorem d_Rule_readDeclaration_51 : decode prog_8_method_6_code 51 = .ok (.if_icmp .eq 4, 3) := by decide +kernel
theorem d_Rule_readDeclaration_54 : decode prog_8_method_6_code 54 = .ok (.return_, 1) := by decide +kernel
theorem d_Rule_readDeclaration_55 : decode prog_8_method_6_code 55 = .ok (.ldc 66, 2) := by decide +kernel
theorem d_Rule_readDeclaration_57 : decode prog_8_method_6_code 57 = .ok (.aload_n 1, 1) := by decide +kernel
theorem d_Rule_readDeclaration_58 : decode prog_8_method_6_code 58 = .ok (.iload_n 2, 1) := by decide +kernel
theorem d_Rule_readDeclaration_59 : decode prog_8_method_6_code 59 = .ok (.caload, 1) := by decide +kernel
theorem d_Rule_readDeclaration_60 : decode prog_8_method_6_code 60 = .ok (.invokevirtual 68, 3) := by decide +kernel
theorem d_Rule_readDeclaration_63 : decode prog_8_method_6_code 63 = .ok (.istore 6, 2) := by decide +kernel
theorem d_Rule_readDeclaration_65 : decode prog_8_method_6_code 65 = .ok (.iload 6, 2) := by decide +kernel
theorem d_Rule_readDeclaration_67 : decode prog_8_method_6_code 67 = .ok (.aload_n 1, 1) := by decide +kernel
theorem d_Rule_readDeclaration_68 : decode prog_8_method_6_code 68 = .ok (.iload_n 2, 1) := by decide +kernel
theorem d_Rule_readDeclaration_69 : decode prog_8_method_6_code 69 = .ok (.iconst 2, 1) := by decide +kernel
theorem d_Rule_readDeclaration_70 : decode prog_8_method_6_code 70 = .ok (.iadd, 1) := by decide +kernel
theorem d_Rule_readDeclaration_71 : decode prog_8_method_6_code 71 = .ok (.iload 5, 2) := by decide +kernel
theorem d_Rule_readDeclaration_73 : decode prog_8_method_6_code 73 = .ok (.invokestatic 74, 3) := by decide +kernel
theorem d_Rule_readDeclaration_76 : decode prog_8_method_6_code 76 = .ok (.istore 7, 2) := by decide +kernel
theorem d_Rule_readDeclaration_78 : decode prog_8_method_6_code 78 = .ok (.iload 7, 2) := by decide +kernel
theorem d_Rule_readDeclaration_80 : decode prog_8_method_6_code 80 = .ok (.iconst (-1), 1) := by decide +kernel
theorem d_Rule_readDeclaration_81 : decode prog_8_method_6_code 81 = .ok (.if_icmp .ne 4, 3) := by decide +kernel
theorem d_Rule_readDeclaration_84 : decode prog_8_method_6_code 84 = .ok (.return_, 1) := by decide +kernel
theorem d_Rule_readDeclaration_85 : decode prog_8_method_6_code 85 = .ok (.iload 4, 2) := by decide +kernel
theorem d_Rule_readDeclaration_87 : decode prog_8_method_6_code 87 = .ok (.ifCond .eq 15, 3) := by decide +kernel
theorem d_Rule_readDeclaration_90 : decode prog_8_method_6_code 90 = .ok (.aload_n 0, 1) := by decide +kernel
theorem d_Rule_readDeclaration_91 : decode prog_8_method_6_code 91 = .ok (.getfield 25, 3) := by decide +kernel
theorem d_Rule_readDeclaration_94 : decode prog_8_method_6_code 94 = .ok (.iload 6, 2) := by decide +kernel
theorem d_Rule_readDeclaration_96 : decode prog_8_method_6_code 96 = .ok (.iload 7, 2) := by decide +kernel
theorem d_Rule_readDeclaration_98 : decode prog_8_method_6_code 98 = .ok (.iastore, 1) := by decide +kernel
theorem d_Rule_readDeclaration_99 : decode prog_8_method_6_code 99 = .ok (.goto 12, 3) := by decide +kernel
theorem d_Rule_readDeclaration_102 : decode prog_8_method_6_code 102 = .ok (.aload_n 0, 1) := by decide +kernel
theorem d_Rule_readDeclaration_103 : decode prog_8_method_6_code 103 = .ok (.getfield 22, 3) := by decide +kernel
theorem d_Rule_readDeclaration_106 : decode prog_8_method_6_code 106 = .ok (.iload 6, 2) := by decide +kernel
theorem d_Rule_readDeclaration_108 : decode prog_8_method_6_code 108 = .ok (.iload 7, 2) := by decide +kernel
theorem d_Rule_readDeclaration_110 : decode prog_8_method_6_code 110 = .ok (.iastore, 1) := by decide +kernel
theorem d_Rule_readDeclaration_111 : decode prog_8_method_6_code 111 = .ok (.return_, 1) := by decide +kernel
def f_Rule_readDeclaration (q0 : Nat) (a2 : Int32) (a3 : Int32) (M : qM) : Option qM := q_lt (fun (x1 : Int32) => q_lt (fun (x2 : Int32) => if (x2 - a2) < 3 then (some M) else (q_ix (a2 + 1) 120 <| if (M.1 291 (a2 + 1).toNatClampNeg) = 58 then (q_ix a2 120 <| q_bp (f_indexOf 9 (M.1 291 a2.toNatClampNeg)) fun x7 => q_bp (f_Rule_readValue x7 (a2 + 2) x2 M) fun x8 => if x8 = (-1) then (some M) else (if x1 = 0 then (q_ix x7 7 <| q_lt (qsI M (q0 + 4) x7.toNatClampNeg x8) fun M12 => some M12) else (q_ix x7 7 <| q_lt (qsI M (q0 + 5) x7.toNatClampNeg x8) fun M14 => some M14))) else (some M))) fun (j15 : Int32 → Option qM) => if x1 = 0 then (j15 a3) else (j15 (a3 - 1))) fun (j17 : Int32 → Option qM) => q_lt (j17 0) fun (j18 : Option qM) => if a3 ≤ a2 then (j18) else (q_ix (a3 - 1) 120 <| if (M.1 291 (a3 - 1).toNatClampNeg) = 33 then (j17 1) else (j18))
abbrev rm_Rule_readDeclaration : Room := { frames := 12, cells := 0, slots := 0, locals := 467 }
set_option maxRecDepth 100000 in
set_option maxHeartbeats 4000000 in
theorem c_Rule_readDeclaration {l : Launch} {D : va_G} {dA : Nat → ClassId} {b : Nat} {adK adV : Nat → Nat} (q0 : Nat) (a2 : Int32) (a3 : Int32) (tq0 : tcX q0 = 18) (M : qM) (out : qM) (hf : f_Rule_readDeclaration q0 a2 a3 M = some out) : CTv l y_Rule_readDeclaration w_Rule_readDeclaration rm_Rule_readDeclaration D (tysX dA) (enX dA b) 367 b (qX adK adV 367 b) [qr (some q0), qr (some 291), qi a2, qi a3] M out := by
  refine qm_v (cc := prog_8_method_6_code) (nL := 8) (by decide) rfl (Nat.le_of_ble_eq_true rfl) ?_
  intro p e s m args below meth c Q hx hb hts0 hown hml hK hs hret
  have hts : ∀ w ∈ lw_g, w.before args s = true := fun w h => hts0 w (List.mem_cons_of_mem _ h)
  show QJ p l e rm_Rule_readDeclaration s m args below meth c (qA 367 b) b 8 0 0 Q (qWd D (enX dA b) 367 b) M 0 [(0, qr (some q0)), (1, qr (some 291)), (2, qi a2), (3, qi a3)] []
  unfold f_Rule_readDeclaration at hf
  refine qj_iload_n hx hb d_Rule_readDeclaration_0 rfl 3 rfl ?_
  refine qj_iload_n hx hb d_Rule_readDeclaration_1 rfl 2 rfl ?_
  have hf9 := q_lt_s hf; clear hf; obtain ⟨j17, ej17, hf⟩ := hf9
  have hj17 : ∀ (x1 : Int32), j17 x1 = some out → QJ p l e rm_Rule_readDeclaration s m args below meth c (qA 367 b) b 8 0 0 Q (qWd D (enX dA b) 367 b) M 20 [(0, qr (some q0)), (1, qr (some 291)), (2, qi a2), (3, qi a3)] [qi x1] := by
    clear hf
    intro x1 hf
    rw [ej17] at hf
    refine qj_istore hx hb d_Rule_readDeclaration_20 (by decide) rfl ?_
    refine qj_iload hx hb d_Rule_readDeclaration_22 0 rfl ?_
    have hf9 := q_lt_s hf; clear hf; obtain ⟨j15, ej15, hf⟩ := hf9
    have hj15 : ∀ (x2 : Int32), j15 x2 = some out → QJ p l e rm_Rule_readDeclaration s m args below meth c (qA 367 b) b 8 0 0 Q (qWd D (enX dA b) 367 b) M 34 [(0, qr (some q0)), (1, qr (some 291)), (2, qi a2), (4, qi x1)] [qi x2] := by
      clear hf
      intro x2 hf
      rw [ej15] at hf
      refine qj_istore hx hb d_Rule_readDeclaration_34 (by decide) rfl ?_
      refine qj_iload hx hb d_Rule_readDeclaration_36 0 rfl ?_
      refine qj_iload_n hx hb d_Rule_readDeclaration_38 rfl 3 rfl ?_
      refine qj_isub hx hb d_Rule_readDeclaration_39 ?_
      refine qj_iconst (v := 3) hx hb d_Rule_readDeclaration_40 (by decide) ?_
      refine qj_icmp_lt (tgt := 54) hx hb d_Rule_readDeclaration_41 (by decide) (fun hc3 => ?_) (fun hc3 => ?_)
      · replace hf := q_if_t hc3 hf
        exact hret _ _ _ d_Rule_readDeclaration_54 (Option.some.inj hf)
      · replace hf := q_if_f hc3 hf
        refine qj_aload_n hx hb d_Rule_readDeclaration_44 rfl 2 rfl ?_
        refine qj_iload_n hx hb d_Rule_readDeclaration_45 rfl 3 rfl ?_
        refine qj_iconst (v := 1) hx hb d_Rule_readDeclaration_46 (by decide) ?_
        refine qj_iadd hx hb d_Rule_readDeclaration_47 ?_
        have hf9 := q_ix_s hf; clear hf; obtain ⟨hi4, hf⟩ := hf9
        refine qj_cald (t0 := 1) hx hb hK (q_in (rfl : tcX 291 = 17) (by decide)) (en_17 (rfl : tcX 291 = 17)) rfl hi4 d_Rule_readDeclaration_48 ?_
        refine qj_bipush (v := 58) hx hb d_Rule_readDeclaration_49 (by decide) ?_
        refine qj_icmp_eq (tgt := 55) hx hb d_Rule_readDeclaration_51 (by decide) (fun hc5 => ?_) (fun hc5 => ?_)
        · replace hf := q_if_t hc5 hf
          refine qj_ldcS hx hb hown (hs.2.1 ("PlainPage$Rule", 66, "cbsdmpw", 9) (by decide +kernel)) d_Rule_readDeclaration_55 ?_
          refine qj_aload_n hx hb d_Rule_readDeclaration_57 rfl 2 rfl ?_
          refine qj_iload_n hx hb d_Rule_readDeclaration_58 rfl 3 rfl ?_
          have hf9 := q_ix_s hf; clear hf; obtain ⟨hi6, hf⟩ := hf9
          refine qj_cald (t0 := 1) hx hb hK (q_in (rfl : tcX 291 = 17) (by decide)) (en_17 (rfl : tcX 291 = 17)) rfl hi6 d_Rule_readDeclaration_59 ?_
          have hf9 := q_bp_s hf; clear hf; obtain ⟨x7, hx7, hf⟩ := hf9
          refine qc_ix (st := []) hx hb hml hown hts hK hs (hts _ tw_276) hx7 rfl (Nat.le_of_ble_eq_true rfl) ⟨by decide, by decide⟩ d_Rule_readDeclaration_60 ?_
          refine qj_istore hx hb d_Rule_readDeclaration_63 (by decide) rfl ?_
          refine qj_iload hx hb d_Rule_readDeclaration_65 0 rfl ?_
          refine qj_aload_n hx hb d_Rule_readDeclaration_67 rfl 3 rfl ?_
          refine qj_iload_n hx hb d_Rule_readDeclaration_68 rfl 4 rfl ?_
          refine qj_iconst (v := 2) hx hb d_Rule_readDeclaration_69 (by decide) ?_
          refine qj_iadd hx hb d_Rule_readDeclaration_70 ?_
          refine qj_iload hx hb d_Rule_readDeclaration_71 1 rfl ?_
          have hf9 := q_bp_s hf; clear hf; obtain ⟨x8, hx8, hf⟩ := hf9
          refine qc_Si (st := []) hx hb hml hown hts hK (qX_ok _ _ _ _) hs (c_Rule_readValue x7 (a2 + 2) x2 M _ hx8) ⟨(callB_of 4 hts (q_good tw_277) rfl rfl rfl (hts _ tw_261) (hts _ tw_278) (by decide +kernel) ⟨by decide, by decide⟩), (hts _ tw_279)⟩ rfl rfl (Nat.le_of_ble_eq_true rfl) d_Rule_readDeclaration_73 ?_
          refine qj_istore hx hb d_Rule_readDeclaration_76 (by decide) rfl ?_
          refine qj_iload hx hb d_Rule_readDeclaration_78 0 rfl ?_
          refine qj_iconst (v := (-1)) hx hb d_Rule_readDeclaration_80 (by decide) ?_
          refine qj_icmp_ne (tgt := 85) hx hb d_Rule_readDeclaration_81 (by decide) (fun hc9 => ?_) (fun hc9 => ?_)
          · replace hf := q_if_f hc9 hf
            refine qj_iload hx hb d_Rule_readDeclaration_85 6 rfl ?_
            refine qj_if_eq (tgt := 102) hx hb d_Rule_readDeclaration_87 (by decide) (fun hc10 => ?_) (fun hc10 => ?_)
            · replace hf := q_if_t hc10 hf
              refine qj_aload_n hx hb d_Rule_readDeclaration_102 rfl 3 rfl ?_
              refine qj_get hx hb hts hin_7 hown hK (q_in tq0 (by decide)) (en_18 tq0) rfl 3 (by decide) (hts _ tw_280) (fun _ h => h) (qr (some (q0 + 4))) rfl d_Rule_readDeclaration_103 ?_
              refine qj_iload hx hb d_Rule_readDeclaration_106 1 rfl ?_
              refine qj_iload hx hb d_Rule_readDeclaration_108 0 rfl ?_
              have hf9 := q_ix_s hf; clear hf; obtain ⟨hi11, hf⟩ := hf9
              have hf9 := q_lt_s hf; clear hf; obtain ⟨M12, eM12, hf⟩ := hf9
              refine qj_iast (t0 := 0) hx hb hK (q_in (tc_18_4 tq0) (by decide)) (en_22 (tc_18_4 tq0)) rfl hi11 eM12 d_Rule_readDeclaration_110 ?_
              exact hret _ _ _ d_Rule_readDeclaration_111 (Option.some.inj hf)
            · replace hf := q_if_f hc10 hf
              refine qj_aload_n hx hb d_Rule_readDeclaration_90 rfl 3 rfl ?_
              refine qj_get hx hb hts hin_7 hown hK (q_in tq0 (by decide)) (en_18 tq0) rfl 4 (by decide) (hts _ tw_281) (fun _ h => h) (qr (some (q0 + 5))) rfl d_Rule_readDeclaration_91 ?_
              refine qj_iload hx hb d_Rule_readDeclaration_94 1 rfl ?_
              refine qj_iload hx hb d_Rule_readDeclaration_96 0 rfl ?_
              have hf9 := q_ix_s hf; clear hf; obtain ⟨hi13, hf⟩ := hf9
              have hf9 := q_lt_s hf; clear hf; obtain ⟨M14, eM14, hf⟩ := hf9
              refine qj_iast (t0 := 0) hx hb hK (q_in (tc_18_5 tq0) (by decide)) (en_23 (tc_18_5 tq0)) rfl hi13 eM14 d_Rule_readDeclaration_98 ?_
              refine qj_goto (tgt := 111) hx hb d_Rule_readDeclaration_99 (by decide) ?_
              exact hret _ _ _ d_Rule_readDeclaration_111 (Option.some.inj hf)
          · replace hf := q_if_t hc9 hf
            exact hret _ _ _ d_Rule_readDeclaration_84 (Option.some.inj hf)
        · replace hf := q_if_f hc5 hf
          exact hret _ _ _ d_Rule_readDeclaration_54 (Option.some.inj hf)
    refine qj_if_eq (tgt := 33) hx hb d_Rule_readDeclaration_24 (by decide) (fun hc16 => ?_) (fun hc16 => ?_)
    · replace hf := q_if_t hc16 hf
      refine qj_iload_n hx hb d_Rule_readDeclaration_33 rfl 4 rfl ?_
      refine qj_sub [1, 2, 3, 0] rfl ?_
      exact hj15 a3 hf
    · replace hf := q_if_f hc16 hf
      refine qj_iload_n hx hb d_Rule_readDeclaration_27 rfl 4 rfl ?_
      refine qj_iconst (v := 1) hx hb d_Rule_readDeclaration_28 (by decide) ?_
      refine qj_isub hx hb d_Rule_readDeclaration_29 ?_
      refine qj_goto (tgt := 34) hx hb d_Rule_readDeclaration_30 (by decide) ?_
      refine qj_sub [1, 2, 3, 0] rfl ?_
      exact hj15 (a3 - 1) hf
  have hf9 := q_lt_s hf; clear hf; obtain ⟨j18, ej18, hf⟩ := hf9
  have hj18 : j18 = some out → QJ p l e rm_Rule_readDeclaration s m args below meth c (qA 367 b) b 8 0 0 Q (qWd D (enX dA b) 367 b) M 19 [(0, qr (some q0)), (1, qr (some 291)), (2, qi a2), (3, qi a3)] [] := by
    clear hf
    intro hf
    rw [ej18] at hf
    refine qj_iconst (v := 0) hx hb d_Rule_readDeclaration_19 (by decide) ?_
    exact hj17 0 hf
  refine qj_icmp_le (tgt := 19) hx hb d_Rule_readDeclaration_2 (by decide) (fun hc19 => ?_) (fun hc19 => ?_)
  · replace hf := q_if_t hc19 hf
    exact hj18  hf
  · replace hf := q_if_f hc19 hf
    refine qj_aload_n hx hb d_Rule_readDeclaration_5 rfl 1 rfl ?_
    refine qj_iload_n hx hb d_Rule_readDeclaration_6 rfl 3 rfl ?_
    refine qj_iconst (v := 1) hx hb d_Rule_readDeclaration_7 (by decide) ?_
    refine qj_isub hx hb d_Rule_readDeclaration_8 ?_
    have hf9 := q_ix_s hf; clear hf; obtain ⟨hi20, hf⟩ := hf9
    refine qj_cald (t0 := 1) hx hb hK (q_in (rfl : tcX 291 = 17) (by decide)) (en_17 (rfl : tcX 291 = 17)) rfl hi20 d_Rule_readDeclaration_9 ?_
    refine qj_bipush (v := 33) hx hb d_Rule_readDeclaration_10 (by decide) ?_
    refine qj_icmp_ne (tgt := 19) hx hb d_Rule_readDeclaration_12 (by decide) (fun hc21 => ?_) (fun hc21 => ?_)
    · replace hf := q_if_f hc21 hf
      exact hj18  hf
    · replace hf := q_if_t hc21 hf
      refine qj_iconst (v := 1) hx hb d_Rule_readDeclaration_15 (by decide) ?_
      refine qj_goto (tgt := 20) hx hb d_Rule_readDeclaration_16 (by decide) ?_
      exact hj17 1 hf
theorem d_Rule_readBody_0 : decode prog_8_method_5_code 0 = .ok (.aload_n 0, 1) := by decide +kernel
theorem d_Rule_readBody_1 : decode prog_8_method_5_code 1 = .ok (.getfield 22, 3) := by decide +kernel
theorem d_Rule_readBody_4 : decode prog_8_method_5_code 4 = .ok (.iconst (-1), 1) := by decide +kernel
theorem d_Rule_readBody_5 : decode prog_8_method_5_code 5 = .ok (.invokestatic 56, 3) := by decide +kernel
theorem d_Rule_readBody_8 : decode prog_8_method_5_code 8 = .ok (.aload_n 0, 1) := by decide +kernel
theorem d_Rule_readBody_9 : decode prog_8_method_5_code 9 = .ok (.getfield 25, 3) := by decide +kernel
theorem d_Rule_readBody_12 : decode prog_8_method_5_code 12 = .ok (.iconst (-1), 1) := by decide +kernel
theorem d_Rule_readBody_13 : decode prog_8_method_5_code 13 = .ok (.invokestatic 56, 3) := by decide +kernel
theorem d_Rule_readBody_16 : decode prog_8_method_5_code 16 = .ok (.iconst 0, 1) := by decide +kernel
theorem d_Rule_readBody_17 : decode prog_8_method_5_code 17 = .ok (.istore_n 3, 1) := by decide +kernel
theorem d_Rule_readBody_18 : decode prog_8_method_5_code 18 = .ok (.iconst 0, 1) := by decide +kernel
theorem d_Rule_readBody_19 : decode prog_8_method_5_code 19 = .ok (.istore 4, 2) := by decide +kernel
theorem d_Rule_readBody_21 : decode prog_8_method_5_code 21 = .ok (.iload 4, 2) := by decide +kernel
theorem d_Rule_readBody_23 : decode prog_8_method_5_code 23 = .ok (.iload_n 2, 1) := by decide +kernel
theorem d_Rule_readBody_24 : decode prog_8_method_5_code 24 = .ok (.if_icmp .gt 37, 3) := by decide +kernel
theorem d_Rule_readBody_27 : decode prog_8_method_5_code 27 = .ok (.iload 4, 2) := by decide +kernel
theorem d_Rule_readBody_29 : decode prog_8_method_5_code 29 = .ok (.iload_n 2, 1) := by decide +kernel
theorem d_Rule_readBody_30 : decode prog_8_method_5_code 30 = .ok (.if_icmp .eq 12, 3) := by decide +kernel
theorem d_Rule_readBody_33 : decode prog_8_method_5_code 33 = .ok (.aload_n 1, 1) := by decide +kernel
theorem d_Rule_readBody_34 : decode prog_8_method_5_code 34 = .ok (.iload 4, 2) := by decide +kernel
theorem d_Rule_readBody_36 : decode prog_8_method_5_code 36 = .ok (.caload, 1) := by decide +kernel
theorem d_Rule_readBody_37 : decode prog_8_method_5_code 37 = .ok (.bipush 59, 2) := by decide +kernel
theorem d_Rule_readBody_39 : decode prog_8_method_5_code 39 = .ok (.if_icmp .ne 16, 3) := by decide +kernel
theorem d_Rule_readBody_42 : decode prog_8_method_5_code 42 = .ok (.aload_n 0, 1) := by decide +kernel
theorem d_Rule_readBody_43 : decode prog_8_method_5_code 43 = .ok (.aload_n 1, 1) := by decide +kernel
theorem d_Rule_readBody_44 : decode prog_8_method_5_code 44 = .ok (.iload_n 3, 1) := by decide +kernel
theorem d_Rule_readBody_45 : decode prog_8_method_5_code 45 = .ok (.iload 4, 2) := by decide +kernel
theorem d_Rule_readBody_47 : decode prog_8_method_5_code 47 = .ok (.invokevirtual 62, 3) := by decide +kernel
theorem d_Rule_readBody_50 : decode prog_8_method_5_code 50 = .ok (.iload 4, 2) := by decide +kernel
theorem d_Rule_readBody_52 : decode prog_8_method_5_code 52 = .ok (.iconst 1, 1) := by decide +kernel
theorem d_Rule_readBody_53 : decode prog_8_method_5_code 53 = .ok (.iadd, 1) := by decide +kernel
theorem d_Rule_readBody_54 : decode prog_8_method_5_code 54 = .ok (.istore_n 3, 1) := by decide +kernel
theorem d_Rule_readBody_55 : decode prog_8_method_5_code 55 = .ok (.iinc 4 1, 3) := by decide +kernel
theorem d_Rule_readBody_58 : decode prog_8_method_5_code 58 = .ok (.goto (-37), 3) := by decide +kernel
theorem d_Rule_readBody_61 : decode prog_8_method_5_code 61 = .ok (.return_, 1) := by decide +kernel
def f_Rule_readBody_21 (a2 : Int32) (q0 : Nat) : Nat → (qM → Option qM) → Int32 → Int32 → qM → Option qM
  | 0, _, _, _, _ => none
  | n + 1, K6, x3, x4, M5 => if a2 < x4 then (K6 M5) else (q_lt (q_cv (f_Rule_readDeclaration q0 x3 x4 M5) fun M8 => f_Rule_readBody_21 a2 q0 n K6 (x4 + 1) (x4 + 1) M8) fun (j9 : Option qM) => if x4 = a2 then (j9) else (q_ix x4 120 <| if (M5.1 291 x4.toNatClampNeg) = 59 then (j9) else (f_Rule_readBody_21 a2 q0 n K6 x3 (x4 + 1) M5)))
def f_Rule_readBody (q0 : Nat) (a2 : Int32) (M : qM) : Option qM := q_cv (f_fill 7 (q0 + 4) (-1) M) fun M1 => q_cv (f_fill 7 (q0 + 5) (-1) M1) fun M2 => f_Rule_readBody_21 a2 q0 1000 (fun (M13 : qM) => some M13) 0 0 M2
abbrev rm_Rule_readBody : Room := { frames := 13, cells := 0, slots := 0, locals := 494 }
set_option maxRecDepth 100000 in
set_option maxHeartbeats 4000000 in
theorem c_Rule_readBody {l : Launch} {D : va_G} {dA : Nat → ClassId} {b : Nat} {adK adV : Nat → Nat} (q0 : Nat) (a2 : Int32) (tq0 : tcX q0 = 18) (M : qM) (out : qM) (hf : f_Rule_readBody q0 a2 M = some out) : CTv l y_Rule_readBody w_Rule_readBody rm_Rule_readBody D (tysX dA) (enX dA b) 367 b (qX adK adV 367 b) [qr (some q0), qr (some 291), qi a2] M out := by
  refine qm_v (cc := prog_8_method_5_code) (nL := 5) (by decide) rfl (Nat.le_of_ble_eq_true rfl) ?_
  intro p e s m args below meth c Q hx hb hts0 hown hml hK hs hret
  have hts : ∀ w ∈ lw_g, w.before args s = true := fun w h => hts0 w (List.mem_cons_of_mem _ h)
  show QJ p l e rm_Rule_readBody s m args below meth c (qA 367 b) b 5 0 0 Q (qWd D (enX dA b) 367 b) M 0 [(0, qr (some q0)), (1, qr (some 291)), (2, qi a2)] []
  unfold f_Rule_readBody at hf
  refine qj_aload_n hx hb d_Rule_readBody_0 rfl 0 rfl ?_
  refine qj_get hx hb hts hin_7 hown hK (q_in tq0 (by decide)) (en_18 tq0) rfl 3 (by decide) (hts _ tw_280) (fun _ h => h) (qr (some (q0 + 4))) rfl d_Rule_readBody_1 ?_
  refine qj_iconst (v := (-1)) hx hb d_Rule_readBody_4 (by decide) ?_
  have hf9 := q_cv_s hf; clear hf; obtain ⟨M1, hM1, hf⟩ := hf9
  refine qc_fill (st := []) hx hb hml hown hts hK (qX_ok _ _ _ _) hs (q_in (tc_18_4 tq0) (by decide)) (en_22 (tc_18_4 tq0)) (hts _ tw_282) hM1 rfl (Nat.le_of_ble_eq_true rfl) ⟨by decide, by decide⟩ d_Rule_readBody_5 ?_
  refine qj_aload_n hx hb d_Rule_readBody_8 rfl 0 rfl ?_
  refine qj_get hx hb hts hin_7 hown hK (q_in tq0 (by decide)) (en_18 tq0) rfl 4 (by decide) (hts _ tw_281) (fun _ h => h) (qr (some (q0 + 5))) rfl d_Rule_readBody_9 ?_
  refine qj_iconst (v := (-1)) hx hb d_Rule_readBody_12 (by decide) ?_
  have hf9 := q_cv_s hf; clear hf; obtain ⟨M2, hM2, hf⟩ := hf9
  refine qc_fill (st := []) hx hb hml hown hts hK (qX_ok _ _ _ _) hs (q_in (tc_18_5 tq0) (by decide)) (en_23 (tc_18_5 tq0)) (hts _ tw_282) hM2 rfl (Nat.le_of_ble_eq_true rfl) ⟨by decide, by decide⟩ d_Rule_readBody_13 ?_
  refine qj_iconst (v := 0) hx hb d_Rule_readBody_16 (by decide) ?_
  refine qj_istore_n hx hb d_Rule_readBody_17 rfl (by decide) rfl ?_
  refine qj_iconst (v := 0) hx hb d_Rule_readBody_18 (by decide) ?_
  refine qj_istore hx hb d_Rule_readBody_19 (by decide) rfl ?_
  have hL21 : ∀ (n : Nat) (K6 : qM → Option qM), (∀ (M13 : qM), K6 M13 = some out → QJ p l e rm_Rule_readBody s m args below meth c (qA 367 b) b 5 0 0 Q (qWd D (enX dA b) 367 b) M13 61 [] []) → ∀ (x3 : Int32) (x4 : Int32) (M5 : qM), f_Rule_readBody_21 a2 q0 n K6 x3 x4 M5 = some out → QJ p l e rm_Rule_readBody s m args below meth c (qA 367 b) b 5 0 0 Q (qWd D (enX dA b) 367 b) M5 21 [(0, qr (some q0)), (1, qr (some 291)), (2, qi a2), (3, qi x3), (4, qi x4)] [] := by
    clear hf
    intro n
    induction n with
    | zero =>
      intro K6 hK6 x3 x4 M5 hf
      exact absurd hf (by simp [f_Rule_readBody_21])
    | succ n ih21 =>
      intro K6 hK6 x3 x4 M5 hf
      rw [f_Rule_readBody_21] at hf
      have ih21 := ih21 K6 hK6
      refine qj_iload hx hb d_Rule_readBody_21 4 rfl ?_
      refine qj_iload_n hx hb d_Rule_readBody_23 rfl 2 rfl ?_
      refine qj_icmp_gt (tgt := 61) hx hb d_Rule_readBody_24 (by decide) (fun hc7 => ?_) (fun hc7 => ?_)
      · replace hf := q_if_t hc7 hf
        refine qj_sub [] rfl ?_
        exact hK6 M5 hf
      · replace hf := q_if_f hc7 hf
        refine qj_iload hx hb d_Rule_readBody_27 4 rfl ?_
        refine qj_iload_n hx hb d_Rule_readBody_29 rfl 2 rfl ?_
        have hf9 := q_lt_s hf; clear hf; obtain ⟨j9, ej9, hf⟩ := hf9
        have hj9 : j9 = some out → QJ p l e rm_Rule_readBody s m args below meth c (qA 367 b) b 5 0 0 Q (qWd D (enX dA b) 367 b) M5 42 [(0, qr (some q0)), (1, qr (some 291)), (2, qi a2), (3, qi x3), (4, qi x4)] [] := by
          clear hf
          intro hf
          rw [ej9] at hf
          refine qj_aload_n hx hb d_Rule_readBody_42 rfl 0 rfl ?_
          refine qj_aload_n hx hb d_Rule_readBody_43 rfl 1 rfl ?_
          refine qj_iload_n hx hb d_Rule_readBody_44 rfl 3 rfl ?_
          refine qj_iload hx hb d_Rule_readBody_45 4 rfl ?_
          have hf9 := q_cv_s hf; clear hf; obtain ⟨M8, hM8, hf⟩ := hf9
          refine qc_Vv (st := []) hx hb hml hown hts hK (qX_ok _ _ _ _) hs (c_Rule_readDeclaration q0 x3 x4 tq0 M5 _ hM8) ⟨(callB_of 3 hts (q_good tw_283) rfl rfl rfl (hts _ tw_261) (hts _ tw_284) (by decide +kernel) ⟨by decide, by decide⟩), (hts _ tw_285), (hts _ tw_286)⟩ (q_in tq0 (by decide)) (en_18 tq0) rfl rfl rfl (Nat.le_of_ble_eq_true rfl) d_Rule_readBody_47 ?_
          refine qj_iload hx hb d_Rule_readBody_50 4 rfl ?_
          refine qj_iconst (v := 1) hx hb d_Rule_readBody_52 (by decide) ?_
          refine qj_iadd hx hb d_Rule_readBody_53 ?_
          refine qj_istore_n hx hb d_Rule_readBody_54 rfl (by decide) rfl ?_
          refine qj_iinc (j := 4) (v := x4 + 1) hx hb d_Rule_readBody_55 rfl rfl (by decide) rfl ?_
          refine qj_goto (tgt := 21) hx hb d_Rule_readBody_58 (by decide) ?_
          refine qj_sub [2, 3, 4, 1, 0] rfl ?_
          exact ih21 (x4 + 1) (x4 + 1) M8 hf
        refine qj_icmp_eq (tgt := 42) hx hb d_Rule_readBody_30 (by decide) (fun hc10 => ?_) (fun hc10 => ?_)
        · replace hf := q_if_t hc10 hf
          exact hj9  hf
        · replace hf := q_if_f hc10 hf
          refine qj_aload_n hx hb d_Rule_readBody_33 rfl 1 rfl ?_
          refine qj_iload hx hb d_Rule_readBody_34 4 rfl ?_
          have hf9 := q_ix_s hf; clear hf; obtain ⟨hi11, hf⟩ := hf9
          refine qj_cald (t0 := 1) hx hb hK (q_in (rfl : tcX 291 = 17) (by decide)) (en_17 (rfl : tcX 291 = 17)) rfl hi11 d_Rule_readBody_36 ?_
          refine qj_bipush (v := 59) hx hb d_Rule_readBody_37 (by decide) ?_
          refine qj_icmp_ne (tgt := 55) hx hb d_Rule_readBody_39 (by decide) (fun hc12 => ?_) (fun hc12 => ?_)
          · replace hf := q_if_f hc12 hf
            refine qj_iinc (j := 4) (v := x4 + 1) hx hb d_Rule_readBody_55 rfl rfl (by decide) rfl ?_
            refine qj_goto (tgt := 21) hx hb d_Rule_readBody_58 (by decide) ?_
            refine qj_sub [1, 2, 3, 4, 0] rfl ?_
            exact ih21 x3 (x4 + 1) M5 hf
          · replace hf := q_if_t hc12 hf
            exact hj9  hf
  refine qj_sub [2, 3, 4, 1, 0] rfl ?_
  refine hL21 _ _ (fun M13 hf9 => ?_) 0 0 M2 hf
  clear hf; have hf := hf9; clear hf9
  exact hret _ _ _ d_Rule_readBody_61 (Option.some.inj hf)
theorem d_Sheet_endRule_0 : decode prog_10_method_4_code 0 = .ok (.aload_n 0, 1) := by decide +kernel
theorem d_Sheet_endRule_1 : decode prog_10_method_4_code 1 = .ok (.getfield 41, 3) := by decide +kernel
theorem d_Sheet_endRule_4 : decode prog_10_method_4_code 4 = .ok (.ifCond .eq 42, 3) := by decide +kernel
theorem d_Sheet_endRule_7 : decode prog_10_method_4_code 7 = .ok (.aload_n 0, 1) := by decide +kernel
theorem d_Sheet_endRule_8 : decode prog_10_method_4_code 8 = .ok (.getfield 34, 3) := by decide +kernel
theorem d_Sheet_endRule_11 : decode prog_10_method_4_code 11 = .ok (.bipush 12, 2) := by decide +kernel
theorem d_Sheet_endRule_13 : decode prog_10_method_4_code 13 = .ok (.if_icmp .ge 33, 3) := by decide +kernel
theorem d_Sheet_endRule_16 : decode prog_10_method_4_code 16 = .ok (.aload_n 0, 1) := by decide +kernel
theorem d_Sheet_endRule_17 : decode prog_10_method_4_code 17 = .ok (.getfield 11, 3) := by decide +kernel
theorem d_Sheet_endRule_20 : decode prog_10_method_4_code 20 = .ok (.aload_n 0, 1) := by decide +kernel
theorem d_Sheet_endRule_21 : decode prog_10_method_4_code 21 = .ok (.getfield 34, 3) := by decide +kernel
theorem d_Sheet_endRule_24 : decode prog_10_method_4_code 24 = .ok (.aaload, 1) := by decide +kernel
theorem d_Sheet_endRule_25 : decode prog_10_method_4_code 25 = .ok (.aload_n 0, 1) := by decide +kernel
theorem d_Sheet_endRule_26 : decode prog_10_method_4_code 26 = .ok (.getfield 21, 3) := by decide +kernel
theorem d_Sheet_endRule_29 : decode prog_10_method_4_code 29 = .ok (.aload_n 0, 1) := by decide +kernel
theorem d_Sheet_endRule_30 : decode prog_10_method_4_code 30 = .ok (.getfield 26, 3) := by decide +kernel
theorem d_Sheet_endRule_33 : decode prog_10_method_4_code 33 = .ok (.invokevirtual 47, 3) := by decide +kernel
theorem d_Sheet_endRule_36 : decode prog_10_method_4_code 36 = .ok (.aload_n 0, 1) := by decide +kernel
theorem d_Sheet_endRule_37 : decode prog_10_method_4_code 37 = .ok (.dup, 1) := by decide +kernel
theorem d_Sheet_endRule_38 : decode prog_10_method_4_code 38 = .ok (.getfield 34, 3) := by decide +kernel
theorem d_Sheet_endRule_41 : decode prog_10_method_4_code 41 = .ok (.iconst 1, 1) := by decide +kernel
theorem d_Sheet_endRule_42 : decode prog_10_method_4_code 42 = .ok (.iadd, 1) := by decide +kernel
theorem d_Sheet_endRule_43 : decode prog_10_method_4_code 43 = .ok (.putfield 34, 3) := by decide +kernel
theorem d_Sheet_endRule_46 : decode prog_10_method_4_code 46 = .ok (.aload_n 0, 1) := by decide +kernel
theorem d_Sheet_endRule_47 : decode prog_10_method_4_code 47 = .ok (.iconst 0, 1) := by decide +kernel
theorem d_Sheet_endRule_48 : decode prog_10_method_4_code 48 = .ok (.putfield 26, 3) := by decide +kernel
theorem d_Sheet_endRule_51 : decode prog_10_method_4_code 51 = .ok (.aload_n 0, 1) := by decide +kernel
theorem d_Sheet_endRule_52 : decode prog_10_method_4_code 52 = .ok (.iconst 0, 1) := by decide +kernel
theorem d_Sheet_endRule_53 : decode prog_10_method_4_code 53 = .ok (.putfield 30, 3) := by decide +kernel
theorem d_Sheet_endRule_56 : decode prog_10_method_4_code 56 = .ok (.return_, 1) := by decide +kernel
def f_Sheet_endRule  (M : qM) : Option qM := q_lt (fun (M1 : qM) => q_lt (qsI M1 288 3 0) fun M2 => q_lt (qsI M2 288 4 0) fun M3 => some M3) fun (j4 : qM → Option qM) => if (M.1 288 5) = 0 then (j4 M) else (if 12 ≤ (M.1 288 6) then (j4 M) else (q_ix (M.1 288 6) 12 <| q_lt (292 + 6 * (M.1 288 6).toNatClampNeg) fun o8 => q_cv (f_Rule_readBody o8 (M.1 288 3) M) fun M9 => q_lt (qsI M9 288 6 ((M9.1 288 6) + 1)) fun M10 => j4 M10))
abbrev rm_Sheet_endRule : Room := { frames := 14, cells := 0, slots := 0, locals := 518 }
set_option maxRecDepth 100000 in
set_option maxHeartbeats 4000000 in
theorem c_Sheet_endRule {l : Launch} {D : va_G} {dA : Nat → ClassId} {b : Nat} {adK adV : Nat → Nat}   (M : qM) (out : qM) (hf : f_Sheet_endRule M = some out) : CTv l y_Sheet_endRule w_Sheet_endRule rm_Sheet_endRule D (tysX dA) (enX dA b) 367 b (qX adK adV 367 b) [qr (some 288)] M out := by
  refine qm_v (cc := prog_10_method_4_code) (nL := 1) (by decide) rfl (Nat.le_of_ble_eq_true rfl) ?_
  intro p e s m args below meth c Q hx hb hts0 hown hml hK hs hret
  have hts : ∀ w ∈ lw_g, w.before args s = true := fun w h => hts0 w (List.mem_cons_of_mem _ h)
  show QJ p l e rm_Sheet_endRule s m args below meth c (qA 367 b) b 1 0 0 Q (qWd D (enX dA b) 367 b) M 0 [(0, qr (some 288))] []
  unfold f_Sheet_endRule at hf
  refine qj_aload_n hx hb d_Sheet_endRule_0 rfl 0 rfl ?_
  refine qj_get hx hb hts hin_8 hown hK (q_in (rfl : tcX 288 = 14) (by decide)) (en_14 (rfl : tcX 288 = 14)) rfl 5 (by decide) (hts _ tw_287) (fun _ h => h) (qi (M.1 288 5)) rfl d_Sheet_endRule_1 ?_
  have hf9 := q_lt_s hf; clear hf; obtain ⟨j4, ej4, hf⟩ := hf9
  have hj4 : ∀ (M1 : qM), j4 M1 = some out → QJ p l e rm_Sheet_endRule s m args below meth c (qA 367 b) b 1 0 0 Q (qWd D (enX dA b) 367 b) M1 46 [(0, qr (some 288))] [] := by
    clear hf
    intro M1 hf
    rw [ej4] at hf
    refine qj_aload_n hx hb d_Sheet_endRule_46 rfl 0 rfl ?_
    refine qj_iconst (v := 0) hx hb d_Sheet_endRule_47 (by decide) ?_
    have hf9 := q_lt_s hf; clear hf; obtain ⟨M2, eM2, hf⟩ := hf9
    refine qj_puti (ty := .int) hx hb hts hin_8 ty_8 tyok_8 nm_8 hown hK (q_in (rfl : tcX 288 = 14) (by decide)) (en_14 (rfl : tcX 288 = 14)) rfl 3 (by decide) (hts _ tw_288) (fun _ h => h) rfl (by decide +kernel) rfl rfl (Nat.le_of_ble_eq_true rfl) (sp_14_3 (rfl : tcX 288 = 14)) eM2 d_Sheet_endRule_48 ?_
    refine qj_aload_n hx hb d_Sheet_endRule_51 rfl 0 rfl ?_
    refine qj_iconst (v := 0) hx hb d_Sheet_endRule_52 (by decide) ?_
    have hf9 := q_lt_s hf; clear hf; obtain ⟨M3, eM3, hf⟩ := hf9
    refine qj_puti (ty := .boolean) hx hb hts hin_8 ty_8 tyok_8 nm_8 hown hK (q_in (rfl : tcX 288 = 14) (by decide)) (en_14 (rfl : tcX 288 = 14)) rfl 4 (by decide) (hts _ tw_289) (fun _ h => h) rfl (by decide +kernel) rfl rfl (Nat.le_of_ble_eq_true rfl) (sp_14_4 (rfl : tcX 288 = 14)) eM3 d_Sheet_endRule_53 ?_
    exact hret _ _ _ d_Sheet_endRule_56 (Option.some.inj hf)
  refine qj_if_eq (tgt := 46) hx hb d_Sheet_endRule_4 (by decide) (fun hc5 => ?_) (fun hc5 => ?_)
  · replace hf := q_if_t hc5 hf
    exact hj4 M hf
  · replace hf := q_if_f hc5 hf
    refine qj_aload_n hx hb d_Sheet_endRule_7 rfl 0 rfl ?_
    refine qj_get hx hb hts hin_8 hown hK (q_in (rfl : tcX 288 = 14) (by decide)) (en_14 (rfl : tcX 288 = 14)) rfl 6 (by decide) (hts _ tw_290) (fun _ h => h) (qi (M.1 288 6)) rfl d_Sheet_endRule_8 ?_
    refine qj_bipush (v := 12) hx hb d_Sheet_endRule_11 (by decide) ?_
    refine qj_icmp_ge (tgt := 46) hx hb d_Sheet_endRule_13 (by decide) (fun hc6 => ?_) (fun hc6 => ?_)
    · replace hf := q_if_t hc6 hf
      exact hj4 M hf
    · replace hf := q_if_f hc6 hf
      refine qj_aload_n hx hb d_Sheet_endRule_16 rfl 0 rfl ?_
      refine qj_get hx hb hts hin_8 hown hK (q_in (rfl : tcX 288 = 14) (by decide)) (en_14 (rfl : tcX 288 = 14)) rfl 0 (by decide) (hts _ tw_291) (fun _ h => h) (qr (some 289)) rfl d_Sheet_endRule_17 ?_
      refine qj_aload_n hx hb d_Sheet_endRule_20 rfl 0 rfl ?_
      refine qj_get hx hb hts hin_8 hown hK (q_in (rfl : tcX 288 = 14) (by decide)) (en_14 (rfl : tcX 288 = 14)) rfl 6 (by decide) (hts _ tw_290) (fun _ h => h) (qi (M.1 288 6)) rfl d_Sheet_endRule_21 ?_
      have hf9 := q_ix_s hf; clear hf; obtain ⟨hi7, hf⟩ := hf9
      have hf9 := q_lt_s hf; clear hf; obtain ⟨o8, eo8, hf⟩ := hf9
      have to8 : tcX o8 = 18 := by rw [eo8]; exact tc_e15 hi7
      refine qj_aald (t0 := 5) (f := fun j => some (292 + 6 * j)) hx hb hK (q_in (rfl : tcX 289 = 15) (by decide)) (en_15 (rfl : tcX 289 = 15) _ _) rfl hi7 d_Sheet_endRule_24 ?_
      rw [← eo8]
      refine qj_aload_n hx hb d_Sheet_endRule_25 rfl 0 rfl ?_
      refine qj_get hx hb hts hin_8 hown hK (q_in (rfl : tcX 288 = 14) (by decide)) (en_14 (rfl : tcX 288 = 14)) rfl 2 (by decide) (hts _ tw_292) (fun _ h => h) (qr (some 291)) rfl d_Sheet_endRule_26 ?_
      refine qj_aload_n hx hb d_Sheet_endRule_29 rfl 0 rfl ?_
      refine qj_get hx hb hts hin_8 hown hK (q_in (rfl : tcX 288 = 14) (by decide)) (en_14 (rfl : tcX 288 = 14)) rfl 3 (by decide) (hts _ tw_288) (fun _ h => h) (qi (M.1 288 3)) rfl d_Sheet_endRule_30 ?_
      have hf9 := q_cv_s hf; clear hf; obtain ⟨M9, hM9, hf⟩ := hf9
      refine qc_Vv (st := []) hx hb hml hown hts hK (qX_ok _ _ _ _) hs (c_Rule_readBody o8 (M.1 288 3) to8 M _ hM9) ⟨(callB_of 2 hts (q_good tw_293) rfl rfl rfl (hts _ tw_261) (hts _ tw_294) (by decide +kernel) ⟨by decide, by decide⟩), (hts _ tw_295), (hts _ tw_296)⟩ (q_in to8 (by decide)) (en_18 to8) rfl rfl rfl (Nat.le_of_ble_eq_true rfl) d_Sheet_endRule_33 ?_
      refine qj_aload_n hx hb d_Sheet_endRule_36 rfl 0 rfl ?_
      refine qj_dup hx hb d_Sheet_endRule_37 ?_
      refine qj_get hx hb hts hin_8 hown hK (q_in (rfl : tcX 288 = 14) (by decide)) (en_14 (rfl : tcX 288 = 14)) rfl 6 (by decide) (hts _ tw_290) (fun _ h => h) (qi (M9.1 288 6)) rfl d_Sheet_endRule_38 ?_
      refine qj_iconst (v := 1) hx hb d_Sheet_endRule_41 (by decide) ?_
      refine qj_iadd hx hb d_Sheet_endRule_42 ?_
      have hf9 := q_lt_s hf; clear hf; obtain ⟨M10, eM10, hf⟩ := hf9
      refine qj_puti (ty := .int) hx hb hts hin_8 ty_8 tyok_8 nm_8 hown hK (q_in (rfl : tcX 288 = 14) (by decide)) (en_14 (rfl : tcX 288 = 14)) rfl 6 (by decide) (hts _ tw_290) (fun _ h => h) rfl (by decide +kernel) rfl rfl (Nat.le_of_ble_eq_true rfl) (sp_14_6 (rfl : tcX 288 = 14)) eM10 d_Sheet_endRule_43 ?_
      exact hj4 M10 hf
theorem d_Sheet_type_0 : decode prog_10_method_3_code 0 = .ok (.aload_n 0, 1) := by decide +kernel
theorem d_Sheet_type_1 : decode prog_10_method_3_code 1 = .ok (.getfield 30, 3) := by decide +kernel
theorem d_Sheet_type_4 : decode prog_10_method_3_code 4 = .ok (.ifCond .ne 63, 3) := by decide +kernel
theorem d_Sheet_type_7 : decode prog_10_method_3_code 7 = .ok (.iload_n 1, 1) := by decide +kernel
theorem d_Sheet_type_8 : decode prog_10_method_3_code 8 = .ok (.bipush 123, 2) := by decide +kernel
theorem d_Sheet_type_10 : decode prog_10_method_3_code 10 = .ok (.if_icmp .ne 57, 3) := by decide +kernel
theorem d_Sheet_type_13 : decode prog_10_method_3_code 13 = .ok (.aload_n 0, 1) := by decide +kernel
theorem d_Sheet_type_14 : decode prog_10_method_3_code 14 = .ok (.aload_n 0, 1) := by decide +kernel
theorem d_Sheet_type_15 : decode prog_10_method_3_code 15 = .ok (.getfield 34, 3) := by decide +kernel
theorem d_Sheet_type_18 : decode prog_10_method_3_code 18 = .ok (.bipush 12, 2) := by decide +kernel
theorem d_Sheet_type_20 : decode prog_10_method_3_code 20 = .ok (.if_icmp .ge 30, 3) := by decide +kernel
theorem d_Sheet_type_23 : decode prog_10_method_3_code 23 = .ok (.aload_n 0, 1) := by decide +kernel
theorem d_Sheet_type_24 : decode prog_10_method_3_code 24 = .ok (.getfield 11, 3) := by decide +kernel
theorem d_Sheet_type_27 : decode prog_10_method_3_code 27 = .ok (.aload_n 0, 1) := by decide +kernel
theorem d_Sheet_type_28 : decode prog_10_method_3_code 28 = .ok (.getfield 34, 3) := by decide +kernel
theorem d_Sheet_type_31 : decode prog_10_method_3_code 31 = .ok (.aaload, 1) := by decide +kernel
theorem d_Sheet_type_32 : decode prog_10_method_3_code 32 = .ok (.aload_n 0, 1) := by decide +kernel
theorem d_Sheet_type_33 : decode prog_10_method_3_code 33 = .ok (.getfield 21, 3) := by decide +kernel
theorem d_Sheet_type_36 : decode prog_10_method_3_code 36 = .ok (.aload_n 0, 1) := by decide +kernel
theorem d_Sheet_type_37 : decode prog_10_method_3_code 37 = .ok (.getfield 26, 3) := by decide +kernel
theorem d_Sheet_type_40 : decode prog_10_method_3_code 40 = .ok (.invokevirtual 37, 3) := by decide +kernel
theorem d_Sheet_type_43 : decode prog_10_method_3_code 43 = .ok (.ifCond .eq 7, 3) := by decide +kernel
theorem d_Sheet_type_46 : decode prog_10_method_3_code 46 = .ok (.iconst 1, 1) := by decide +kernel
theorem d_Sheet_type_47 : decode prog_10_method_3_code 47 = .ok (.goto 4, 3) := by decide +kernel
theorem d_Sheet_type_50 : decode prog_10_method_3_code 50 = .ok (.iconst 0, 1) := by decide +kernel
theorem d_Sheet_type_51 : decode prog_10_method_3_code 51 = .ok (.putfield 41, 3) := by decide +kernel
theorem d_Sheet_type_54 : decode prog_10_method_3_code 54 = .ok (.aload_n 0, 1) := by decide +kernel
theorem d_Sheet_type_55 : decode prog_10_method_3_code 55 = .ok (.iconst 0, 1) := by decide +kernel
theorem d_Sheet_type_56 : decode prog_10_method_3_code 56 = .ok (.putfield 26, 3) := by decide +kernel
theorem d_Sheet_type_59 : decode prog_10_method_3_code 59 = .ok (.aload_n 0, 1) := by decide +kernel
theorem d_Sheet_type_60 : decode prog_10_method_3_code 60 = .ok (.iconst 1, 1) := by decide +kernel
theorem d_Sheet_type_61 : decode prog_10_method_3_code 61 = .ok (.putfield 30, 3) := by decide +kernel
theorem d_Sheet_type_64 : decode prog_10_method_3_code 64 = .ok (.goto 65, 3) := by decide +kernel
theorem d_Sheet_type_67 : decode prog_10_method_3_code 67 = .ok (.aload_n 0, 1) := by decide +kernel
theorem d_Sheet_type_68 : decode prog_10_method_3_code 68 = .ok (.getfield 30, 3) := by decide +kernel
theorem d_Sheet_type_71 : decode prog_10_method_3_code 71 = .ok (.ifCond .eq 16, 3) := by decide +kernel
theorem d_Sheet_type_74 : decode prog_10_method_3_code 74 = .ok (.iload_n 1, 1) := by decide +kernel
theorem d_Sheet_type_75 : decode prog_10_method_3_code 75 = .ok (.bipush 125, 2) := by decide +kernel
theorem d_Sheet_type_77 : decode prog_10_method_3_code 77 = .ok (.if_icmp .ne 10, 3) := by decide +kernel
theorem d_Sheet_type_80 : decode prog_10_method_3_code 80 = .ok (.aload_n 0, 1) := by decide +kernel
theorem d_Sheet_type_81 : decode prog_10_method_3_code 81 = .ok (.invokevirtual 44, 3) := by decide +kernel
theorem d_Sheet_type_84 : decode prog_10_method_3_code 84 = .ok (.goto 45, 3) := by decide +kernel
theorem d_Sheet_type_87 : decode prog_10_method_3_code 87 = .ok (.aload_n 0, 1) := by decide +kernel
theorem d_Sheet_type_88 : decode prog_10_method_3_code 88 = .ok (.getfield 26, 3) := by decide +kernel
theorem d_Sheet_type_91 : decode prog_10_method_3_code 91 = .ok (.bipush 120, 2) := by decide +kernel
theorem d_Sheet_type_93 : decode prog_10_method_3_code 93 = .ok (.if_icmp .ge 36, 3) := by decide +kernel
theorem d_Sheet_type_96 : decode prog_10_method_3_code 96 = .ok (.aload_n 0, 1) := by decide +kernel
theorem d_Sheet_type_97 : decode prog_10_method_3_code 97 = .ok (.getfield 30, 3) := by decide +kernel
theorem d_Sheet_type_100 : decode prog_10_method_3_code 100 = .ok (.ifCond .eq 9, 3) := by decide +kernel
theorem d_Sheet_type_103 : decode prog_10_method_3_code 103 = .ok (.iload_n 1, 1) := by decide +kernel
theorem d_Sheet_type_104 : decode prog_10_method_3_code 104 = .ok (.bipush 32, 2) := by decide +kernel
theorem d_Sheet_type_106 : decode prog_10_method_3_code 106 = .ok (.if_icmp .eq 23, 3) := by decide +kernel
theorem d_Sheet_type_109 : decode prog_10_method_3_code 109 = .ok (.aload_n 0, 1) := by decide +kernel
theorem d_Sheet_type_110 : decode prog_10_method_3_code 110 = .ok (.getfield 21, 3) := by decide +kernel
theorem d_Sheet_type_113 : decode prog_10_method_3_code 113 = .ok (.aload_n 0, 1) := by decide +kernel
theorem d_Sheet_type_114 : decode prog_10_method_3_code 114 = .ok (.getfield 26, 3) := by decide +kernel
theorem d_Sheet_type_117 : decode prog_10_method_3_code 117 = .ok (.iload_n 1, 1) := by decide +kernel
theorem d_Sheet_type_118 : decode prog_10_method_3_code 118 = .ok (.castore, 1) := by decide +kernel
theorem d_Sheet_type_119 : decode prog_10_method_3_code 119 = .ok (.aload_n 0, 1) := by decide +kernel
theorem d_Sheet_type_120 : decode prog_10_method_3_code 120 = .ok (.dup, 1) := by decide +kernel
theorem d_Sheet_type_121 : decode prog_10_method_3_code 121 = .ok (.getfield 26, 3) := by decide +kernel
theorem d_Sheet_type_124 : decode prog_10_method_3_code 124 = .ok (.iconst 1, 1) := by decide +kernel
theorem d_Sheet_type_125 : decode prog_10_method_3_code 125 = .ok (.iadd, 1) := by decide +kernel
theorem d_Sheet_type_126 : decode prog_10_method_3_code 126 = .ok (.putfield 26, 3) := by decide +kernel
theorem d_Sheet_type_129 : decode prog_10_method_3_code 129 = .ok (.return_, 1) := by decide +kernel
def f_Sheet_type (a1 : Int32) (M : qM) : Option qM := q_lt (q_lt (if 120 ≤ (M.1 288 3) then (some M) else (q_lt (q_ix (M.1 288 3) 120 <| q_lt (qsI M 291 (M.1 288 3).toNatClampNeg (vp_nar .char a1)) fun M3 => q_lt (qsI M3 288 3 ((M3.1 288 3) + 1)) fun M4 => some M4) fun (j5 : Option qM) => if (M.1 288 4) = 0 then (j5) else (if a1 = 32 then (some M) else (j5)))) fun (j8 : Option qM) => if (M.1 288 4) = 0 then (j8) else (if a1 = 125 then (q_cv (f_Sheet_endRule M) fun M11 => some M11) else (j8))) fun (j12 : Option qM) => if (M.1 288 4) = 0 then (if a1 = 123 then (q_lt (fun (x15 : Int32) (M16 : qM) => q_zk x15 <| q_lt (qsI M16 288 5 x15) fun M17 => q_lt (qsI M17 288 3 0) fun M19 => q_lt (qsI M19 288 4 1) fun M20 => some M20) fun (j21 : Int32 → qM → Option qM) => q_lt (fun (M22 : qM) => j21 0 M22) fun (j23 : qM → Option qM) => if 12 ≤ (M.1 288 6) then (j23 M) else (q_ix (M.1 288 6) 12 <| q_lt (292 + 6 * (M.1 288 6).toNatClampNeg) fun o26 => q_cl (f_Rule_readSelector o26 (M.1 288 3) M) fun x27 M28 => if x27 = 0 then (j23 M28) else (j21 1 M28))) else (j12)) else (j12)
abbrev rm_Sheet_type : Room := { frames := 15, cells := 0, slots := 0, locals := 538 }
set_option maxRecDepth 100000 in
set_option maxHeartbeats 4000000 in
theorem c_Sheet_type {l : Launch} {D : va_G} {dA : Nat → ClassId} {b : Nat} {adK adV : Nat → Nat} (a1 : Int32)  (M : qM) (out : qM) (hf : f_Sheet_type a1 M = some out) : CTv l y_Sheet_type w_Sheet_type rm_Sheet_type D (tysX dA) (enX dA b) 367 b (qX adK adV 367 b) [qr (some 288), qi a1] M out := by
  refine qm_v (cc := prog_10_method_3_code) (nL := 2) (by decide) rfl (Nat.le_of_ble_eq_true rfl) ?_
  intro p e s m args below meth c Q hx hb hts0 hown hml hK hs hret
  have hts : ∀ w ∈ lw_g, w.before args s = true := fun w h => hts0 w (List.mem_cons_of_mem _ h)
  show QJ p l e rm_Sheet_type s m args below meth c (qA 367 b) b 2 0 0 Q (qWd D (enX dA b) 367 b) M 0 [(0, qr (some 288)), (1, qi a1)] []
  unfold f_Sheet_type at hf
  refine qj_aload_n hx hb d_Sheet_type_0 rfl 0 rfl ?_
  refine qj_get hx hb hts hin_8 hown hK (q_in (rfl : tcX 288 = 14) (by decide)) (en_14 (rfl : tcX 288 = 14)) rfl 4 (by decide) (hts _ tw_289) (fun _ h => h) (qi (M.1 288 4)) rfl d_Sheet_type_1 ?_
  have hf9 := q_lt_s hf; clear hf; obtain ⟨j12, ej12, hf⟩ := hf9
  have hj12 : j12 = some out → QJ p l e rm_Sheet_type s m args below meth c (qA 367 b) b 2 0 0 Q (qWd D (enX dA b) 367 b) M 67 [(0, qr (some 288)), (1, qi a1)] [] := by
    clear hf
    intro hf
    rw [ej12] at hf
    refine qj_aload_n hx hb d_Sheet_type_67 rfl 0 rfl ?_
    refine qj_get hx hb hts hin_8 hown hK (q_in (rfl : tcX 288 = 14) (by decide)) (en_14 (rfl : tcX 288 = 14)) rfl 4 (by decide) (hts _ tw_289) (fun _ h => h) (qi (M.1 288 4)) rfl d_Sheet_type_68 ?_
    have hf9 := q_lt_s hf; clear hf; obtain ⟨j8, ej8, hf⟩ := hf9
    have hj8 : j8 = some out → QJ p l e rm_Sheet_type s m args below meth c (qA 367 b) b 2 0 0 Q (qWd D (enX dA b) 367 b) M 87 [(0, qr (some 288)), (1, qi a1)] [] := by
      clear hf
      intro hf
      rw [ej8] at hf
      refine qj_aload_n hx hb d_Sheet_type_87 rfl 0 rfl ?_
      refine qj_get hx hb hts hin_8 hown hK (q_in (rfl : tcX 288 = 14) (by decide)) (en_14 (rfl : tcX 288 = 14)) rfl 3 (by decide) (hts _ tw_288) (fun _ h => h) (qi (M.1 288 3)) rfl d_Sheet_type_88 ?_
      refine qj_bipush (v := 120) hx hb d_Sheet_type_91 (by decide) ?_
      refine qj_icmp_ge (tgt := 129) hx hb d_Sheet_type_93 (by decide) (fun hc1 => ?_) (fun hc1 => ?_)
      · replace hf := q_if_t hc1 hf
        exact hret _ _ _ d_Sheet_type_129 (Option.some.inj hf)
      · replace hf := q_if_f hc1 hf
        refine qj_aload_n hx hb d_Sheet_type_96 rfl 0 rfl ?_
        refine qj_get hx hb hts hin_8 hown hK (q_in (rfl : tcX 288 = 14) (by decide)) (en_14 (rfl : tcX 288 = 14)) rfl 4 (by decide) (hts _ tw_289) (fun _ h => h) (qi (M.1 288 4)) rfl d_Sheet_type_97 ?_
        have hf9 := q_lt_s hf; clear hf; obtain ⟨j5, ej5, hf⟩ := hf9
        have hj5 : j5 = some out → QJ p l e rm_Sheet_type s m args below meth c (qA 367 b) b 2 0 0 Q (qWd D (enX dA b) 367 b) M 109 [(0, qr (some 288)), (1, qi a1)] [] := by
          clear hf
          intro hf
          rw [ej5] at hf
          refine qj_aload_n hx hb d_Sheet_type_109 rfl 0 rfl ?_
          refine qj_get hx hb hts hin_8 hown hK (q_in (rfl : tcX 288 = 14) (by decide)) (en_14 (rfl : tcX 288 = 14)) rfl 2 (by decide) (hts _ tw_292) (fun _ h => h) (qr (some 291)) rfl d_Sheet_type_110 ?_
          refine qj_aload_n hx hb d_Sheet_type_113 rfl 0 rfl ?_
          refine qj_get hx hb hts hin_8 hown hK (q_in (rfl : tcX 288 = 14) (by decide)) (en_14 (rfl : tcX 288 = 14)) rfl 3 (by decide) (hts _ tw_288) (fun _ h => h) (qi (M.1 288 3)) rfl d_Sheet_type_114 ?_
          refine qj_iload_n hx hb d_Sheet_type_117 rfl 1 rfl ?_
          have hf9 := q_ix_s hf; clear hf; obtain ⟨hi2, hf⟩ := hf9
          have hf9 := q_lt_s hf; clear hf; obtain ⟨M3, eM3, hf⟩ := hf9
          refine qj_cast (t0 := 1) hx hb hK (q_in (rfl : tcX 291 = 17) (by decide)) (en_17 (rfl : tcX 291 = 17)) rfl hi2 eM3 d_Sheet_type_118 ?_
          refine qj_aload_n hx hb d_Sheet_type_119 rfl 0 rfl ?_
          refine qj_dup hx hb d_Sheet_type_120 ?_
          refine qj_get hx hb hts hin_8 hown hK (q_in (rfl : tcX 288 = 14) (by decide)) (en_14 (rfl : tcX 288 = 14)) rfl 3 (by decide) (hts _ tw_288) (fun _ h => h) (qi (M3.1 288 3)) rfl d_Sheet_type_121 ?_
          refine qj_iconst (v := 1) hx hb d_Sheet_type_124 (by decide) ?_
          refine qj_iadd hx hb d_Sheet_type_125 ?_
          have hf9 := q_lt_s hf; clear hf; obtain ⟨M4, eM4, hf⟩ := hf9
          refine qj_puti (ty := .int) hx hb hts hin_8 ty_8 tyok_8 nm_8 hown hK (q_in (rfl : tcX 288 = 14) (by decide)) (en_14 (rfl : tcX 288 = 14)) rfl 3 (by decide) (hts _ tw_288) (fun _ h => h) rfl (by decide +kernel) rfl rfl (Nat.le_of_ble_eq_true rfl) (sp_14_3 (rfl : tcX 288 = 14)) eM4 d_Sheet_type_126 ?_
          exact hret _ _ _ d_Sheet_type_129 (Option.some.inj hf)
        refine qj_if_eq (tgt := 109) hx hb d_Sheet_type_100 (by decide) (fun hc6 => ?_) (fun hc6 => ?_)
        · replace hf := q_if_t hc6 hf
          exact hj5  hf
        · replace hf := q_if_f hc6 hf
          refine qj_iload_n hx hb d_Sheet_type_103 rfl 1 rfl ?_
          refine qj_bipush (v := 32) hx hb d_Sheet_type_104 (by decide) ?_
          refine qj_icmp_eq (tgt := 129) hx hb d_Sheet_type_106 (by decide) (fun hc7 => ?_) (fun hc7 => ?_)
          · replace hf := q_if_t hc7 hf
            exact hret _ _ _ d_Sheet_type_129 (Option.some.inj hf)
          · replace hf := q_if_f hc7 hf
            exact hj5  hf
    refine qj_if_eq (tgt := 87) hx hb d_Sheet_type_71 (by decide) (fun hc9 => ?_) (fun hc9 => ?_)
    · replace hf := q_if_t hc9 hf
      exact hj8  hf
    · replace hf := q_if_f hc9 hf
      refine qj_iload_n hx hb d_Sheet_type_74 rfl 1 rfl ?_
      refine qj_bipush (v := 125) hx hb d_Sheet_type_75 (by decide) ?_
      refine qj_icmp_ne (tgt := 87) hx hb d_Sheet_type_77 (by decide) (fun hc10 => ?_) (fun hc10 => ?_)
      · replace hf := q_if_f hc10 hf
        exact hj8  hf
      · replace hf := q_if_t hc10 hf
        refine qj_aload_n hx hb d_Sheet_type_80 rfl 0 rfl ?_
        have hf9 := q_cv_s hf; clear hf; obtain ⟨M11, hM11, hf⟩ := hf9
        refine qc_Vv (st := []) hx hb hml hown hts hK (qX_ok _ _ _ _) hs (c_Sheet_endRule  M _ hM11) ⟨(callB_of 0 hts (q_good tw_298) rfl rfl rfl (hts _ tw_297) (hts _ tw_299) (by decide +kernel) ⟨by decide, by decide⟩), (hts _ tw_300), (hts _ tw_301)⟩ (q_in (rfl : tcX 288 = 14) (by decide)) (en_14 (rfl : tcX 288 = 14)) rfl rfl rfl (Nat.le_of_ble_eq_true rfl) d_Sheet_type_81 ?_
        refine qj_goto (tgt := 129) hx hb d_Sheet_type_84 (by decide) ?_
        exact hret _ _ _ d_Sheet_type_129 (Option.some.inj hf)
  refine qj_if_ne (tgt := 67) hx hb d_Sheet_type_4 (by decide) (fun hc13 => ?_) (fun hc13 => ?_)
  · replace hf := q_if_f hc13 hf
    exact hj12  hf
  · replace hf := q_if_t hc13 hf
    refine qj_iload_n hx hb d_Sheet_type_7 rfl 1 rfl ?_
    refine qj_bipush (v := 123) hx hb d_Sheet_type_8 (by decide) ?_
    refine qj_icmp_ne (tgt := 67) hx hb d_Sheet_type_10 (by decide) (fun hc14 => ?_) (fun hc14 => ?_)
    · replace hf := q_if_f hc14 hf
      exact hj12  hf
    · replace hf := q_if_t hc14 hf
      refine qj_aload_n hx hb d_Sheet_type_13 rfl 0 rfl ?_
      refine qj_aload_n hx hb d_Sheet_type_14 rfl 0 rfl ?_
      refine qj_get hx hb hts hin_8 hown hK (q_in (rfl : tcX 288 = 14) (by decide)) (en_14 (rfl : tcX 288 = 14)) rfl 6 (by decide) (hts _ tw_290) (fun _ h => h) (qi (M.1 288 6)) rfl d_Sheet_type_15 ?_
      refine qj_bipush (v := 12) hx hb d_Sheet_type_18 (by decide) ?_
      have hf9 := q_lt_s hf; clear hf; obtain ⟨j21, ej21, hf⟩ := hf9
      have hj21 : ∀ (x15 : Int32) (M16 : qM), j21 x15 M16 = some out → QJ p l e rm_Sheet_type s m args below meth c (qA 367 b) b 2 0 0 Q (qWd D (enX dA b) 367 b) M16 51 [(0, qr (some 288))] [qi x15, qr (some 288)] := by
        clear hf
        intro x15 M16 hf
        rw [ej21] at hf
        have hf9 := q_zk_s hf; clear hf; obtain ⟨hz18, hf⟩ := hf9
        have hf9 := q_lt_s hf; clear hf; obtain ⟨M17, eM17, hf⟩ := hf9
        refine qj_puti (ty := .boolean) hx hb hts hin_8 ty_8 tyok_8 nm_8 hown hK (q_in (rfl : tcX 288 = 14) (by decide)) (en_14 (rfl : tcX 288 = 14)) rfl 5 (by decide) (hts _ tw_287) (fun _ h => h) rfl (by decide +kernel) (q_zn hz18) (q_zf hz18) (Nat.le_of_ble_eq_true rfl) (sp_14_5 (rfl : tcX 288 = 14)) eM17 d_Sheet_type_51 ?_
        refine qj_aload_n hx hb d_Sheet_type_54 rfl 0 rfl ?_
        refine qj_iconst (v := 0) hx hb d_Sheet_type_55 (by decide) ?_
        have hf9 := q_lt_s hf; clear hf; obtain ⟨M19, eM19, hf⟩ := hf9
        refine qj_puti (ty := .int) hx hb hts hin_8 ty_8 tyok_8 nm_8 hown hK (q_in (rfl : tcX 288 = 14) (by decide)) (en_14 (rfl : tcX 288 = 14)) rfl 3 (by decide) (hts _ tw_288) (fun _ h => h) rfl (by decide +kernel) rfl rfl (Nat.le_of_ble_eq_true rfl) (sp_14_3 (rfl : tcX 288 = 14)) eM19 d_Sheet_type_56 ?_
        refine qj_aload_n hx hb d_Sheet_type_59 rfl 0 rfl ?_
        refine qj_iconst (v := 1) hx hb d_Sheet_type_60 (by decide) ?_
        have hf9 := q_lt_s hf; clear hf; obtain ⟨M20, eM20, hf⟩ := hf9
        refine qj_puti (ty := .boolean) hx hb hts hin_8 ty_8 tyok_8 nm_8 hown hK (q_in (rfl : tcX 288 = 14) (by decide)) (en_14 (rfl : tcX 288 = 14)) rfl 4 (by decide) (hts _ tw_289) (fun _ h => h) rfl (by decide +kernel) rfl rfl (Nat.le_of_ble_eq_true rfl) (sp_14_4 (rfl : tcX 288 = 14)) eM20 d_Sheet_type_61 ?_
        refine qj_goto (tgt := 129) hx hb d_Sheet_type_64 (by decide) ?_
        exact hret _ _ _ d_Sheet_type_129 (Option.some.inj hf)
      have hf9 := q_lt_s hf; clear hf; obtain ⟨j23, ej23, hf⟩ := hf9
      have hj23 : ∀ (M22 : qM), j23 M22 = some out → QJ p l e rm_Sheet_type s m args below meth c (qA 367 b) b 2 0 0 Q (qWd D (enX dA b) 367 b) M22 50 [(0, qr (some 288))] [qr (some 288)] := by
        clear hf
        intro M22 hf
        rw [ej23] at hf
        refine qj_iconst (v := 0) hx hb d_Sheet_type_50 (by decide) ?_
        exact hj21 0 M22 hf
      refine qj_icmp_ge (tgt := 50) hx hb d_Sheet_type_20 (by decide) (fun hc24 => ?_) (fun hc24 => ?_)
      · replace hf := q_if_t hc24 hf
        refine qj_sub [0] rfl ?_
        exact hj23 M hf
      · replace hf := q_if_f hc24 hf
        refine qj_aload_n hx hb d_Sheet_type_23 rfl 0 rfl ?_
        refine qj_get hx hb hts hin_8 hown hK (q_in (rfl : tcX 288 = 14) (by decide)) (en_14 (rfl : tcX 288 = 14)) rfl 0 (by decide) (hts _ tw_291) (fun _ h => h) (qr (some 289)) rfl d_Sheet_type_24 ?_
        refine qj_aload_n hx hb d_Sheet_type_27 rfl 0 rfl ?_
        refine qj_get hx hb hts hin_8 hown hK (q_in (rfl : tcX 288 = 14) (by decide)) (en_14 (rfl : tcX 288 = 14)) rfl 6 (by decide) (hts _ tw_290) (fun _ h => h) (qi (M.1 288 6)) rfl d_Sheet_type_28 ?_
        have hf9 := q_ix_s hf; clear hf; obtain ⟨hi25, hf⟩ := hf9
        have hf9 := q_lt_s hf; clear hf; obtain ⟨o26, eo26, hf⟩ := hf9
        have to26 : tcX o26 = 18 := by rw [eo26]; exact tc_e15 hi25
        refine qj_aald (t0 := 5) (f := fun j => some (292 + 6 * j)) hx hb hK (q_in (rfl : tcX 289 = 15) (by decide)) (en_15 (rfl : tcX 289 = 15) _ _) rfl hi25 d_Sheet_type_31 ?_
        rw [← eo26]
        refine qj_aload_n hx hb d_Sheet_type_32 rfl 0 rfl ?_
        refine qj_get hx hb hts hin_8 hown hK (q_in (rfl : tcX 288 = 14) (by decide)) (en_14 (rfl : tcX 288 = 14)) rfl 2 (by decide) (hts _ tw_292) (fun _ h => h) (qr (some 291)) rfl d_Sheet_type_33 ?_
        refine qj_aload_n hx hb d_Sheet_type_36 rfl 0 rfl ?_
        refine qj_get hx hb hts hin_8 hown hK (q_in (rfl : tcX 288 = 14) (by decide)) (en_14 (rfl : tcX 288 = 14)) rfl 3 (by decide) (hts _ tw_288) (fun _ h => h) (qi (M.1 288 3)) rfl d_Sheet_type_37 ?_
        have hf9 := q_cl_s hf; clear hf; obtain ⟨x27, M28, hx27, hf⟩ := hf9
        refine qc_Vi (st := [qr (some 288)]) hx hb hml hown hts hK (qX_ok _ _ _ _) hs (c_Rule_readSelector o26 (M.1 288 3) to26 M _ hx27) ⟨(callB_of 2 hts (q_good tw_302) rfl rfl rfl (hts _ tw_261) (hts _ tw_303) (by decide +kernel) ⟨by decide, by decide⟩), (hts _ tw_304), (hts _ tw_305)⟩ (q_in to26 (by decide)) (en_18 to26) rfl rfl rfl (Nat.le_of_ble_eq_true rfl) d_Sheet_type_40 ?_
        refine qj_if_eq (tgt := 50) hx hb d_Sheet_type_43 (by decide) (fun hc29 => ?_) (fun hc29 => ?_)
        · replace hf := q_if_t hc29 hf
          refine qj_sub [0] rfl ?_
          exact hj23 M28 hf
        · replace hf := q_if_f hc29 hf
          refine qj_iconst (v := 1) hx hb d_Sheet_type_46 (by decide) ?_
          refine qj_goto (tgt := 51) hx hb d_Sheet_type_47 (by decide) ?_
          refine qj_sub [0] rfl ?_
          exact hj21 1 M28 hf
