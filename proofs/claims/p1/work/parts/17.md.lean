theorem d_Md_lay_0 : decode prog_14_method_65_code 0 = .ok (.aload_n 0, 1) := by decide +kernel
theorem d_Md_lay_1 : decode prog_14_method_65_code 1 = .ok (.iload_n 2, 1) := by decide +kernel
theorem d_Md_lay_2 : decode prog_14_method_65_code 2 = .ok (.putfield 344, 3) := by decide +kernel
theorem d_Md_lay_5 : decode prog_14_method_65_code 5 = .ok (.aload_n 0, 1) := by decide +kernel
theorem d_Md_lay_6 : decode prog_14_method_65_code 6 = .ok (.iconst 0, 1) := by decide +kernel
theorem d_Md_lay_7 : decode prog_14_method_65_code 7 = .ok (.invokevirtual 347, 3) := by decide +kernel
theorem d_Md_lay_10 : decode prog_14_method_65_code 10 = .ok (.iconst 0, 1) := by decide +kernel
theorem d_Md_lay_11 : decode prog_14_method_65_code 11 = .ok (.istore_n 3, 1) := by decide +kernel
theorem d_Md_lay_12 : decode prog_14_method_65_code 12 = .ok (.iconst 0, 1) := by decide +kernel
theorem d_Md_lay_13 : decode prog_14_method_65_code 13 = .ok (.istore 4, 2) := by decide +kernel
theorem d_Md_lay_15 : decode prog_14_method_65_code 15 = .ok (.iconst 0, 1) := by decide +kernel
theorem d_Md_lay_16 : decode prog_14_method_65_code 16 = .ok (.istore 5, 2) := by decide +kernel
theorem d_Md_lay_18 : decode prog_14_method_65_code 18 = .ok (.iload 5, 2) := by decide +kernel
theorem d_Md_lay_20 : decode prog_14_method_65_code 20 = .ok (.aload_n 0, 1) := by decide +kernel
theorem d_Md_lay_21 : decode prog_14_method_65_code 21 = .ok (.getfield 331, 3) := by decide +kernel
theorem d_Md_lay_24 : decode prog_14_method_65_code 24 = .ok (.if_icmp .gt 167, 3) := by decide +kernel
theorem d_Md_lay_27 : decode prog_14_method_65_code 27 = .ok (.iload 5, 2) := by decide +kernel
theorem d_Md_lay_29 : decode prog_14_method_65_code 29 = .ok (.aload_n 0, 1) := by decide +kernel
theorem d_Md_lay_30 : decode prog_14_method_65_code 30 = .ok (.getfield 331, 3) := by decide +kernel
theorem d_Md_lay_33 : decode prog_14_method_65_code 33 = .ok (.if_icmp .ge 17, 3) := by decide +kernel
theorem d_Md_lay_36 : decode prog_14_method_65_code 36 = .ok (.aload_n 0, 1) := by decide +kernel
theorem d_Md_lay_37 : decode prog_14_method_65_code 37 = .ok (.getfield 119, 3) := by decide +kernel
theorem d_Md_lay_40 : decode prog_14_method_65_code 40 = .ok (.iload 5, 2) := by decide +kernel
theorem d_Md_lay_42 : decode prog_14_method_65_code 42 = .ok (.iaload, 1) := by decide +kernel
theorem d_Md_lay_43 : decode prog_14_method_65_code 43 = .ok (.ifCond .ge 7, 3) := by decide +kernel
theorem d_Md_lay_46 : decode prog_14_method_65_code 46 = .ok (.iconst 1, 1) := by decide +kernel
theorem d_Md_lay_47 : decode prog_14_method_65_code 47 = .ok (.goto 4, 3) := by decide +kernel
theorem d_Md_lay_50 : decode prog_14_method_65_code 50 = .ok (.iconst 0, 1) := by decide +kernel
theorem d_Md_lay_51 : decode prog_14_method_65_code 51 = .ok (.istore 6, 2) := by decide +kernel
theorem d_Md_lay_53 : decode prog_14_method_65_code 53 = .ok (.iload 5, 2) := by decide +kernel
theorem d_Md_lay_55 : decode prog_14_method_65_code 55 = .ok (.aload_n 0, 1) := by decide +kernel
theorem d_Md_lay_56 : decode prog_14_method_65_code 56 = .ok (.getfield 331, 3) := by decide +kernel
theorem d_Md_lay_59 : decode prog_14_method_65_code 59 = .ok (.if_icmp .ge 29, 3) := by decide +kernel
theorem d_Md_lay_62 : decode prog_14_method_65_code 62 = .ok (.iload 6, 2) := by decide +kernel
theorem d_Md_lay_64 : decode prog_14_method_65_code 64 = .ok (.ifCond .ne 24, 3) := by decide +kernel
theorem d_Md_lay_67 : decode prog_14_method_65_code 67 = .ok (.aload_n 0, 1) := by decide +kernel
theorem d_Md_lay_68 : decode prog_14_method_65_code 68 = .ok (.getfield 40, 3) := by decide +kernel
theorem d_Md_lay_71 : decode prog_14_method_65_code 71 = .ok (.aload_n 0, 1) := by decide +kernel
theorem d_Md_lay_72 : decode prog_14_method_65_code 72 = .ok (.getfield 119, 3) := by decide +kernel
theorem d_Md_lay_75 : decode prog_14_method_65_code 75 = .ok (.iload 5, 2) := by decide +kernel
theorem d_Md_lay_77 : decode prog_14_method_65_code 77 = .ok (.iaload, 1) := by decide +kernel
theorem d_Md_lay_78 : decode prog_14_method_65_code 78 = .ok (.iaload, 1) := by decide +kernel
theorem d_Md_lay_79 : decode prog_14_method_65_code 79 = .ok (.bipush 32, 2) := by decide +kernel
theorem d_Md_lay_81 : decode prog_14_method_65_code 81 = .ok (.if_icmp .ne 7, 3) := by decide +kernel
theorem d_Md_lay_84 : decode prog_14_method_65_code 84 = .ok (.iconst 1, 1) := by decide +kernel
theorem d_Md_lay_85 : decode prog_14_method_65_code 85 = .ok (.goto 4, 3) := by decide +kernel
theorem d_Md_lay_88 : decode prog_14_method_65_code 88 = .ok (.iconst 0, 1) := by decide +kernel
theorem d_Md_lay_89 : decode prog_14_method_65_code 89 = .ok (.istore 7, 2) := by decide +kernel
theorem d_Md_lay_91 : decode prog_14_method_65_code 91 = .ok (.iload 5, 2) := by decide +kernel
theorem d_Md_lay_93 : decode prog_14_method_65_code 93 = .ok (.aload_n 0, 1) := by decide +kernel
theorem d_Md_lay_94 : decode prog_14_method_65_code 94 = .ok (.getfield 331, 3) := by decide +kernel
theorem d_Md_lay_97 : decode prog_14_method_65_code 97 = .ok (.if_icmp .eq 13, 3) := by decide +kernel
theorem d_Md_lay_100 : decode prog_14_method_65_code 100 = .ok (.iload 6, 2) := by decide +kernel
theorem d_Md_lay_102 : decode prog_14_method_65_code 102 = .ok (.ifCond .ne 8, 3) := by decide +kernel
theorem d_Md_lay_105 : decode prog_14_method_65_code 105 = .ok (.iload 7, 2) := by decide +kernel
theorem d_Md_lay_107 : decode prog_14_method_65_code 107 = .ok (.ifCond .eq 27, 3) := by decide +kernel
theorem d_Md_lay_110 : decode prog_14_method_65_code 110 = .ok (.iload 5, 2) := by decide +kernel
theorem d_Md_lay_112 : decode prog_14_method_65_code 112 = .ok (.iload_n 3, 1) := by decide +kernel
theorem d_Md_lay_113 : decode prog_14_method_65_code 113 = .ok (.if_icmp .le 16, 3) := by decide +kernel
theorem d_Md_lay_116 : decode prog_14_method_65_code 116 = .ok (.aload_n 0, 1) := by decide +kernel
theorem d_Md_lay_117 : decode prog_14_method_65_code 117 = .ok (.iload_n 1, 1) := by decide +kernel
theorem d_Md_lay_118 : decode prog_14_method_65_code 118 = .ok (.iload_n 3, 1) := by decide +kernel
theorem d_Md_lay_119 : decode prog_14_method_65_code 119 = .ok (.iload 5, 2) := by decide +kernel
theorem d_Md_lay_121 : decode prog_14_method_65_code 121 = .ok (.iload 4, 2) := by decide +kernel
theorem d_Md_lay_123 : decode prog_14_method_65_code 123 = .ok (.invokevirtual 350, 3) := by decide +kernel
theorem d_Md_lay_126 : decode prog_14_method_65_code 126 = .ok (.iconst 0, 1) := by decide +kernel
theorem d_Md_lay_127 : decode prog_14_method_65_code 127 = .ok (.istore 4, 2) := by decide +kernel
theorem d_Md_lay_129 : decode prog_14_method_65_code 129 = .ok (.iload 5, 2) := by decide +kernel
theorem d_Md_lay_131 : decode prog_14_method_65_code 131 = .ok (.iconst 1, 1) := by decide +kernel
theorem d_Md_lay_132 : decode prog_14_method_65_code 132 = .ok (.iadd, 1) := by decide +kernel
theorem d_Md_lay_133 : decode prog_14_method_65_code 133 = .ok (.istore_n 3, 1) := by decide +kernel
theorem d_Md_lay_134 : decode prog_14_method_65_code 134 = .ok (.iload 7, 2) := by decide +kernel
theorem d_Md_lay_136 : decode prog_14_method_65_code 136 = .ok (.ifCond .eq 16, 3) := by decide +kernel
theorem d_Md_lay_139 : decode prog_14_method_65_code 139 = .ok (.iload 4, 2) := by decide +kernel
theorem d_Md_lay_141 : decode prog_14_method_65_code 141 = .ok (.ifCond .ne 11, 3) := by decide +kernel
theorem d_Md_lay_144 : decode prog_14_method_65_code 144 = .ok (.aload_n 0, 1) := by decide +kernel
theorem d_Md_lay_145 : decode prog_14_method_65_code 145 = .ok (.iload 5, 2) := by decide +kernel
theorem d_Md_lay_147 : decode prog_14_method_65_code 147 = .ok (.invokevirtual 354, 3) := by decide +kernel
theorem d_Md_lay_150 : decode prog_14_method_65_code 150 = .ok (.istore 4, 2) := by decide +kernel
theorem d_Md_lay_152 : decode prog_14_method_65_code 152 = .ok (.iload 6, 2) := by decide +kernel
theorem d_Md_lay_154 : decode prog_14_method_65_code 154 = .ok (.ifCond .eq 31, 3) := by decide +kernel
theorem d_Md_lay_157 : decode prog_14_method_65_code 157 = .ok (.aload_n 0, 1) := by decide +kernel
theorem d_Md_lay_158 : decode prog_14_method_65_code 158 = .ok (.getfield 357, 3) := by decide +kernel
theorem d_Md_lay_161 : decode prog_14_method_65_code 161 = .ok (.ifCond .ne 13, 3) := by decide +kernel
theorem d_Md_lay_164 : decode prog_14_method_65_code 164 = .ok (.aload_n 0, 1) := by decide +kernel
theorem d_Md_lay_165 : decode prog_14_method_65_code 165 = .ok (.aload_n 0, 1) := by decide +kernel
theorem d_Md_lay_166 : decode prog_14_method_65_code 166 = .ok (.iload 5, 2) := by decide +kernel
theorem d_Md_lay_168 : decode prog_14_method_65_code 168 = .ok (.invokevirtual 354, 3) := by decide +kernel
theorem d_Md_lay_171 : decode prog_14_method_65_code 171 = .ok (.putfield 360, 3) := by decide +kernel
theorem d_Md_lay_174 : decode prog_14_method_65_code 174 = .ok (.aload_n 0, 1) := by decide +kernel
theorem d_Md_lay_175 : decode prog_14_method_65_code 175 = .ok (.iconst 1, 1) := by decide +kernel
theorem d_Md_lay_176 : decode prog_14_method_65_code 176 = .ok (.putfield 357, 3) := by decide +kernel
theorem d_Md_lay_179 : decode prog_14_method_65_code 179 = .ok (.aload_n 0, 1) := by decide +kernel
theorem d_Md_lay_180 : decode prog_14_method_65_code 180 = .ok (.iload 5, 2) := by decide +kernel
theorem d_Md_lay_182 : decode prog_14_method_65_code 182 = .ok (.invokevirtual 363, 3) := by decide +kernel
theorem d_Md_lay_185 : decode prog_14_method_65_code 185 = .ok (.iinc 5 1, 3) := by decide +kernel
theorem d_Md_lay_188 : decode prog_14_method_65_code 188 = .ok (.goto (-170), 3) := by decide +kernel
theorem d_Md_lay_191 : decode prog_14_method_65_code 191 = .ok (.aload_n 0, 1) := by decide +kernel
theorem d_Md_lay_192 : decode prog_14_method_65_code 192 = .ok (.getfield 357, 3) := by decide +kernel
theorem d_Md_lay_195 : decode prog_14_method_65_code 195 = .ok (.ifCond .eq 11, 3) := by decide +kernel
theorem d_Md_lay_198 : decode prog_14_method_65_code 198 = .ok (.aload_n 0, 1) := by decide +kernel
theorem d_Md_lay_199 : decode prog_14_method_65_code 199 = .ok (.aload_n 0, 1) := by decide +kernel
theorem d_Md_lay_200 : decode prog_14_method_65_code 200 = .ok (.getfield 331, 3) := by decide +kernel
theorem d_Md_lay_203 : decode prog_14_method_65_code 203 = .ok (.invokevirtual 363, 3) := by decide +kernel
theorem d_Md_lay_206 : decode prog_14_method_65_code 206 = .ok (.aload_n 0, 1) := by decide +kernel
theorem d_Md_lay_207 : decode prog_14_method_65_code 207 = .ok (.getfield 344, 3) := by decide +kernel
theorem d_Md_lay_210 : decode prog_14_method_65_code 210 = .ok (.ireturn, 1) := by decide +kernel
def f_Md_lay_18 (a1 : Int32) : Nat → (qM → Option (Int32 × qM)) → Int32 → Int32 → Int32 → qM → Option (Int32 × qM)
  | 0, _, _, _, _, _ => none
  | n + 1, K7, x3, x4, x5, M6 => if (M6.1 0 52) < x5 then (K7 M6) else (q_lt (fun (x9 : Int32) => q_lt (fun (x10 : Int32) => q_lt (fun (x11 : Int32) (x12 : Int32) (M13 : qM) => q_lt (fun (x14 : Int32) => if x9 = 0 then (f_Md_lay_18 a1 n K7 x11 x14 (x5 + 1) M13) else (q_lt (fun (M16 : qM) => q_lt (qsI M16 0 57 1) fun M17 => q_cv (f_Md_endLine x5 M17) fun M18 => f_Md_lay_18 a1 n K7 x11 x14 (x5 + 1) M18) fun (j19 : qM → Option (Int32 × qM)) => if (M13.1 0 57) = 0 then (q_bp (f_Md_size x5 M13) fun x21 => q_lt (qsI M13 0 56 x21) fun M22 => j19 M22) else (j19 M13))) fun (j23 : Int32 → Option (Int32 × qM)) => if x10 = 0 then (j23 x12) else (if x12 = 0 then (q_bp (f_Md_size x5 M13) fun x26 => j23 x26) else (j23 x12))) fun (j27 : Int32 → Int32 → qM → Option (Int32 × qM)) => q_lt (if x5 ≤ x3 then (j27 (x5 + 1) x4 M6) else (q_cv (f_Md_putWord a1 x3 x5 x4 M6) fun M29 => j27 (x5 + 1) 0 M29)) fun (j30 : Option (Int32 × qM)) => if x5 = (M6.1 0 52) then (j30) else (if x9 = 0 then (if x10 = 0 then (j27 x3 x4 M6) else (j30)) else (j30))) fun (j34 : Int32 → Option (Int32 × qM)) => q_lt (j34 0) fun (j35 : Option (Int32 × qM)) => if (M6.1 0 52) ≤ x5 then (j35) else (if x9 = 0 then (q_ix x5 200 <| q_ix (M6.1 37 x5.toNatClampNeg) 160 <| if (M6.1 11 (M6.1 37 x5.toNatClampNeg).toNatClampNeg) = 32 then (j34 1) else (j35)) else (j35))) fun (j41 : Int32 → Option (Int32 × qM)) => q_lt (j41 0) fun (j42 : Option (Int32 × qM)) => if (M6.1 0 52) ≤ x5 then (j42) else (q_ix x5 200 <| if 0 ≤ (M6.1 37 x5.toNatClampNeg) then (j42) else (j41 1)))
def f_Md_lay (a1 : Int32) (a2 : Int32) (M : qM) : Option (Int32 × qM) := q_lt (qsI M 0 53 a2) fun M1 => q_cv (f_Md_newLine 0 M1) fun M2 => f_Md_lay_18 a1 1000 (fun (M46 : qM) => if (M46.1 0 57) = 0 then (some (M46.1 0 53, M46)) else (q_cv (f_Md_endLine (M46.1 0 52) M46) fun M48 => some (M48.1 0 53, M48))) 0 0 0 M2
abbrev rm_Md_lay : Room := { frames := 4, cells := 0, slots := 0, locals := 95 }
set_option maxRecDepth 100000 in
set_option maxHeartbeats 4000000 in
theorem c_Md_lay {l : Launch} {D : va_G} {dA : Nat → ClassId} {b : Nat} (a1 : Int32) (a2 : Int32)  (M : qM) (out : Int32 × qM) (hf : f_Md_lay a1 a2 M = some out) : CTi l y_Md_lay w_Md_lay rm_Md_lay D (tysX dA) (enM dA b) 38 b (fun _ => True) [qr (some 0), qi a1, qi a2] M out := by
  refine qm_i (cc := prog_14_method_65_code) (nL := 8) (by decide) rfl (Nat.le_of_ble_eq_true rfl) ?_
  intro p e s m args below meth c Q hx hb hts0 hown hml hK hs hret
  have hts : ∀ w ∈ lw_g, w.before args s = true := fun w h => hts0 w (List.mem_cons_of_mem _ h)
  show QJ p l e rm_Md_lay s m args below meth c (qA 38 b) b 8 0 0 Q (qWd D (enM dA b) 38 b) M 0 [(0, qr (some 0)), (1, qi a1), (2, qi a2)] []
  unfold f_Md_lay at hf
  refine qj_aload_n hx hb d_Md_lay_0 rfl 0 rfl ?_
  refine qj_iload_n hx hb d_Md_lay_1 rfl 2 rfl ?_
  have hf9 := q_lt_s hf; clear hf; obtain ⟨M1, eM1, hf⟩ := hf9
  refine qj_puti (ty := .int) hx hb hts hin_12 ty_12 tyok_12 nm_12 hown hK (by decide) rfl rfl 53 (by decide) (hts _ tw_684) (fun _ h => h) rfl (by decide +kernel) rfl rfl (Nat.le_of_ble_eq_true rfl) sm_53 eM1 d_Md_lay_2 ?_
  refine qj_aload_n hx hb d_Md_lay_5 rfl 0 rfl ?_
  refine qj_iconst (v := 0) hx hb d_Md_lay_6 (by decide) ?_
  have hf9 := q_cv_s hf; clear hf; obtain ⟨M2, hM2, hf⟩ := hf9
  refine qc_Vv (st := []) hx hb hml hown hts hK qT_ok hs (c_Md_newLine 0 M1 _ hM2) ⟨(callB_of 1 hts (q_good tw_690) rfl rfl rfl (hts _ tw_459) (hts _ tw_691) (by decide +kernel) ⟨by decide, by decide⟩), (hts _ tw_692), (hts _ tw_693)⟩ (by decide) rfl rfl rfl rfl (Nat.le_of_ble_eq_true rfl) d_Md_lay_7 ?_
  refine qj_iconst (v := 0) hx hb d_Md_lay_10 (by decide) ?_
  refine qj_istore_n hx hb d_Md_lay_11 rfl (by decide) rfl ?_
  refine qj_iconst (v := 0) hx hb d_Md_lay_12 (by decide) ?_
  refine qj_istore hx hb d_Md_lay_13 (by decide) rfl ?_
  refine qj_iconst (v := 0) hx hb d_Md_lay_15 (by decide) ?_
  refine qj_istore hx hb d_Md_lay_16 (by decide) rfl ?_
  have hL18 : ∀ (n : Nat) (K7 : qM → Option (Int32 × qM)), (∀ (M46 : qM), K7 M46 = some out → QJ p l e rm_Md_lay s m args below meth c (qA 38 b) b 8 0 0 Q (qWd D (enM dA b) 38 b) M46 191 [(0, qr (some 0))] []) → ∀ (x3 : Int32) (x4 : Int32) (x5 : Int32) (M6 : qM), f_Md_lay_18 a1 n K7 x3 x4 x5 M6 = some out → QJ p l e rm_Md_lay s m args below meth c (qA 38 b) b 8 0 0 Q (qWd D (enM dA b) 38 b) M6 18 [(0, qr (some 0)), (1, qi a1), (3, qi x3), (4, qi x4), (5, qi x5)] [] := by
    clear hf
    intro n
    induction n with
    | zero =>
      intro K7 hK7 x3 x4 x5 M6 hf
      exact absurd hf (by simp [f_Md_lay_18])
    | succ n ih18 =>
      intro K7 hK7 x3 x4 x5 M6 hf
      rw [f_Md_lay_18] at hf
      have ih18 := ih18 K7 hK7
      refine qj_iload hx hb d_Md_lay_18 4 rfl ?_
      refine qj_aload_n hx hb d_Md_lay_20 rfl 0 rfl ?_
      refine qj_get hx hb hts hin_12 hown hK (by decide) rfl rfl 52 (by decide) (hts _ tw_677) (fun _ h => h) (qi (M6.1 0 52)) rfl d_Md_lay_21 ?_
      refine qj_icmp_gt (tgt := 191) hx hb d_Md_lay_24 (by decide) (fun hc8 => ?_) (fun hc8 => ?_)
      · replace hf := q_if_t hc8 hf
        refine qj_sub [0] rfl ?_
        exact hK7 M6 hf
      · replace hf := q_if_f hc8 hf
        refine qj_iload hx hb d_Md_lay_27 4 rfl ?_
        refine qj_aload_n hx hb d_Md_lay_29 rfl 0 rfl ?_
        refine qj_get hx hb hts hin_12 hown hK (by decide) rfl rfl 52 (by decide) (hts _ tw_677) (fun _ h => h) (qi (M6.1 0 52)) rfl d_Md_lay_30 ?_
        have hf9 := q_lt_s hf; clear hf; obtain ⟨j41, ej41, hf⟩ := hf9
        have hj41 : ∀ (x9 : Int32), j41 x9 = some out → QJ p l e rm_Md_lay s m args below meth c (qA 38 b) b 8 0 0 Q (qWd D (enM dA b) 38 b) M6 51 [(0, qr (some 0)), (1, qi a1), (3, qi x3), (4, qi x4), (5, qi x5)] [qi x9] := by
          clear hf
          intro x9 hf
          rw [ej41] at hf
          refine qj_istore hx hb d_Md_lay_51 (by decide) rfl ?_
          refine qj_iload hx hb d_Md_lay_53 5 rfl ?_
          refine qj_aload_n hx hb d_Md_lay_55 rfl 1 rfl ?_
          refine qj_get hx hb hts hin_12 hown hK (by decide) rfl rfl 52 (by decide) (hts _ tw_677) (fun _ h => h) (qi (M6.1 0 52)) rfl d_Md_lay_56 ?_
          have hf9 := q_lt_s hf; clear hf; obtain ⟨j34, ej34, hf⟩ := hf9
          have hj34 : ∀ (x10 : Int32), j34 x10 = some out → QJ p l e rm_Md_lay s m args below meth c (qA 38 b) b 8 0 0 Q (qWd D (enM dA b) 38 b) M6 89 [(0, qr (some 0)), (1, qi a1), (3, qi x3), (4, qi x4), (5, qi x5), (6, qi x9)] [qi x10] := by
            clear hf
            intro x10 hf
            rw [ej34] at hf
            refine qj_istore hx hb d_Md_lay_89 (by decide) rfl ?_
            refine qj_iload hx hb d_Md_lay_91 5 rfl ?_
            refine qj_aload_n hx hb d_Md_lay_93 rfl 1 rfl ?_
            refine qj_get hx hb hts hin_12 hown hK (by decide) rfl rfl 52 (by decide) (hts _ tw_677) (fun _ h => h) (qi (M6.1 0 52)) rfl d_Md_lay_94 ?_
            have hf9 := q_lt_s hf; clear hf; obtain ⟨j27, ej27, hf⟩ := hf9
            have hj27 : ∀ (x11 : Int32) (x12 : Int32) (M13 : qM), j27 x11 x12 M13 = some out → QJ p l e rm_Md_lay s m args below meth c (qA 38 b) b 8 0 0 Q (qWd D (enM dA b) 38 b) M13 134 [(0, qr (some 0)), (1, qi a1), (3, qi x11), (4, qi x12), (5, qi x5), (6, qi x9), (7, qi x10)] [] := by
              clear hf
              intro x11 x12 M13 hf
              rw [ej27] at hf
              refine qj_iload hx hb d_Md_lay_134 6 rfl ?_
              have hf9 := q_lt_s hf; clear hf; obtain ⟨j23, ej23, hf⟩ := hf9
              have hj23 : ∀ (x14 : Int32), j23 x14 = some out → QJ p l e rm_Md_lay s m args below meth c (qA 38 b) b 8 0 0 Q (qWd D (enM dA b) 38 b) M13 152 [(0, qr (some 0)), (1, qi a1), (3, qi x11), (4, qi x14), (5, qi x5), (6, qi x9)] [] := by
                clear hf
                intro x14 hf
                rw [ej23] at hf
                refine qj_iload hx hb d_Md_lay_152 5 rfl ?_
                refine qj_if_eq (tgt := 185) hx hb d_Md_lay_154 (by decide) (fun hc15 => ?_) (fun hc15 => ?_)
                · replace hf := q_if_t hc15 hf
                  refine qj_iinc (j := 4) (v := x5 + 1) hx hb d_Md_lay_185 rfl rfl (by decide) rfl ?_
                  refine qj_goto (tgt := 18) hx hb d_Md_lay_188 (by decide) ?_
                  refine qj_sub [1, 2, 3, 4, 0] rfl ?_
                  exact ih18 x11 x14 (x5 + 1) M13 hf
                · replace hf := q_if_f hc15 hf
                  refine qj_aload_n hx hb d_Md_lay_157 rfl 0 rfl ?_
                  refine qj_get hx hb hts hin_12 hown hK (by decide) rfl rfl 57 (by decide) (hts _ tw_682) (fun _ h => h) (qi (M13.1 0 57)) rfl d_Md_lay_158 ?_
                  have hf9 := q_lt_s hf; clear hf; obtain ⟨j19, ej19, hf⟩ := hf9
                  have hj19 : ∀ (M16 : qM), j19 M16 = some out → QJ p l e rm_Md_lay s m args below meth c (qA 38 b) b 8 0 0 Q (qWd D (enM dA b) 38 b) M16 174 [(0, qr (some 0)), (1, qi a1), (3, qi x11), (4, qi x14), (5, qi x5)] [] := by
                    clear hf
                    intro M16 hf
                    rw [ej19] at hf
                    refine qj_aload_n hx hb d_Md_lay_174 rfl 0 rfl ?_
                    refine qj_iconst (v := 1) hx hb d_Md_lay_175 (by decide) ?_
                    have hf9 := q_lt_s hf; clear hf; obtain ⟨M17, eM17, hf⟩ := hf9
                    refine qj_puti (ty := .boolean) hx hb hts hin_12 ty_12 tyok_12 nm_12 hown hK (by decide) rfl rfl 57 (by decide) (hts _ tw_682) (fun _ h => h) rfl (by decide +kernel) rfl rfl (Nat.le_of_ble_eq_true rfl) sm_57 eM17 d_Md_lay_176 ?_
                    refine qj_aload_n hx hb d_Md_lay_179 rfl 0 rfl ?_
                    refine qj_iload hx hb d_Md_lay_180 4 rfl ?_
                    have hf9 := q_cv_s hf; clear hf; obtain ⟨M18, hM18, hf⟩ := hf9
                    refine qc_Vv (st := []) hx hb hml hown hts hK qT_ok hs (c_Md_endLine x5 M17 _ hM18) ⟨(callB_of 1 hts (q_good tw_697) rfl rfl rfl (hts _ tw_459) (hts _ tw_698) (by decide +kernel) ⟨by decide, by decide⟩), (hts _ tw_699), (hts _ tw_700)⟩ (by decide) rfl rfl rfl rfl (Nat.le_of_ble_eq_true rfl) d_Md_lay_182 ?_
                    refine qj_iinc (j := 4) (v := x5 + 1) hx hb d_Md_lay_185 rfl rfl (by decide) rfl ?_
                    refine qj_goto (tgt := 18) hx hb d_Md_lay_188 (by decide) ?_
                    refine qj_sub [1, 2, 3, 4, 0] rfl ?_
                    exact ih18 x11 x14 (x5 + 1) M18 hf
                  refine qj_if_ne (tgt := 174) hx hb d_Md_lay_161 (by decide) (fun hc20 => ?_) (fun hc20 => ?_)
                  · replace hf := q_if_f hc20 hf
                    refine qj_sub [0, 1, 2, 3, 4] rfl ?_
                    exact hj19 M13 hf
                  · replace hf := q_if_t hc20 hf
                    refine qj_aload_n hx hb d_Md_lay_164 rfl 0 rfl ?_
                    refine qj_aload_n hx hb d_Md_lay_165 rfl 0 rfl ?_
                    refine qj_iload hx hb d_Md_lay_166 4 rfl ?_
                    have hf9 := q_bp_s hf; clear hf; obtain ⟨x21, hx21, hf⟩ := hf9
                    refine qc_Vi (st := [qr (some 0)]) hx hb hml hown hts hK qT_ok hs (c_Md_size x5 M13 _ hx21) ⟨(callB_of 1 hts (q_good tw_685) rfl rfl rfl (hts _ tw_459) (hts _ tw_686) (by decide +kernel) ⟨by decide, by decide⟩), (hts _ tw_687), (hts _ tw_688)⟩ (by decide) rfl rfl rfl rfl (Nat.le_of_ble_eq_true rfl) d_Md_lay_168 ?_
                    have hf9 := q_lt_s hf; clear hf; obtain ⟨M22, eM22, hf⟩ := hf9
                    refine qj_puti (ty := .int) hx hb hts hin_12 ty_12 tyok_12 nm_12 hown hK (by decide) rfl rfl 56 (by decide) (hts _ tw_681) (fun _ h => h) rfl (by decide +kernel) rfl rfl (Nat.le_of_ble_eq_true rfl) sm_56 eM22 d_Md_lay_171 ?_
                    refine qj_sub [0, 1, 2, 3, 4] rfl ?_
                    exact hj19 M22 hf
              refine qj_if_eq (tgt := 152) hx hb d_Md_lay_136 (by decide) (fun hc24 => ?_) (fun hc24 => ?_)
              · replace hf := q_if_t hc24 hf
                refine qj_sub [0, 1, 2, 3, 4, 5] rfl ?_
                exact hj23 x12 hf
              · replace hf := q_if_f hc24 hf
                refine qj_iload hx hb d_Md_lay_139 3 rfl ?_
                refine qj_if_ne (tgt := 152) hx hb d_Md_lay_141 (by decide) (fun hc25 => ?_) (fun hc25 => ?_)
                · replace hf := q_if_f hc25 hf
                  refine qj_sub [0, 1, 2, 3, 4, 5] rfl ?_
                  exact hj23 x12 hf
                · replace hf := q_if_t hc25 hf
                  refine qj_aload_n hx hb d_Md_lay_144 rfl 0 rfl ?_
                  refine qj_iload hx hb d_Md_lay_145 4 rfl ?_
                  have hf9 := q_bp_s hf; clear hf; obtain ⟨x26, hx26, hf⟩ := hf9
                  refine qc_Vi (st := []) hx hb hml hown hts hK qT_ok hs (c_Md_size x5 M13 _ hx26) ⟨(callB_of 1 hts (q_good tw_685) rfl rfl rfl (hts _ tw_459) (hts _ tw_686) (by decide +kernel) ⟨by decide, by decide⟩), (hts _ tw_687), (hts _ tw_688)⟩ (by decide) rfl rfl rfl rfl (Nat.le_of_ble_eq_true rfl) d_Md_lay_147 ?_
                  refine qj_istore hx hb d_Md_lay_150 (by decide) rfl ?_
                  refine qj_sub [1, 2, 3, 0, 4, 5] rfl ?_
                  exact hj23 x26 hf
            have hf9 := q_lt_s hf; clear hf; obtain ⟨j30, ej30, hf⟩ := hf9
            have hj30 : j30 = some out → QJ p l e rm_Md_lay s m args below meth c (qA 38 b) b 8 0 0 Q (qWd D (enM dA b) 38 b) M6 110 [(0, qr (some 0)), (1, qi a1), (3, qi x3), (4, qi x4), (5, qi x5), (6, qi x9), (7, qi x10)] [] := by
              clear hf
              intro hf
              rw [ej30] at hf
              refine qj_iload hx hb d_Md_lay_110 4 rfl ?_
              refine qj_iload_n hx hb d_Md_lay_112 rfl 2 rfl ?_
              refine qj_icmp_le (tgt := 129) hx hb d_Md_lay_113 (by decide) (fun hc28 => ?_) (fun hc28 => ?_)
              · replace hf := q_if_t hc28 hf
                refine qj_iload hx hb d_Md_lay_129 4 rfl ?_
                refine qj_iconst (v := 1) hx hb d_Md_lay_131 (by decide) ?_
                refine qj_iadd hx hb d_Md_lay_132 ?_
                refine qj_istore_n hx hb d_Md_lay_133 rfl (by decide) rfl ?_
                refine qj_sub [1, 2, 0, 3, 4, 5, 6] rfl ?_
                exact hj27 (x5 + 1) x4 M6 hf
              · replace hf := q_if_f hc28 hf
                refine qj_aload_n hx hb d_Md_lay_116 rfl 0 rfl ?_
                refine qj_iload_n hx hb d_Md_lay_117 rfl 1 rfl ?_
                refine qj_iload_n hx hb d_Md_lay_118 rfl 2 rfl ?_
                refine qj_iload hx hb d_Md_lay_119 4 rfl ?_
                refine qj_iload hx hb d_Md_lay_121 3 rfl ?_
                have hf9 := q_cv_s hf; clear hf; obtain ⟨M29, hM29, hf⟩ := hf9
                refine qc_Vv (st := []) hx hb hml hown hts hK qT_ok hs (c_Md_putWord a1 x3 x5 x4 M6 _ hM29) ⟨(callB_of 4 hts (q_good tw_701) rfl rfl rfl (hts _ tw_459) (hts _ tw_702) (by decide +kernel) ⟨by decide, by decide⟩), (hts _ tw_703), (hts _ tw_704)⟩ (by decide) rfl rfl rfl rfl (Nat.le_of_ble_eq_true rfl) d_Md_lay_123 ?_
                refine qj_iconst (v := 0) hx hb d_Md_lay_126 (by decide) ?_
                refine qj_istore hx hb d_Md_lay_127 (by decide) rfl ?_
                refine qj_iload hx hb d_Md_lay_129 4 rfl ?_
                refine qj_iconst (v := 1) hx hb d_Md_lay_131 (by decide) ?_
                refine qj_iadd hx hb d_Md_lay_132 ?_
                refine qj_istore_n hx hb d_Md_lay_133 rfl (by decide) rfl ?_
                refine qj_sub [2, 3, 0, 1, 4, 5, 6] rfl ?_
                exact hj27 (x5 + 1) 0 M29 hf
            refine qj_icmp_eq (tgt := 110) hx hb d_Md_lay_97 (by decide) (fun hc31 => ?_) (fun hc31 => ?_)
            · replace hf := q_if_t hc31 hf
              refine qj_sub [1, 2, 3, 4, 5, 6, 0] rfl ?_
              exact hj30  hf
            · replace hf := q_if_f hc31 hf
              refine qj_iload hx hb d_Md_lay_100 6 rfl ?_
              refine qj_if_ne (tgt := 110) hx hb d_Md_lay_102 (by decide) (fun hc32 => ?_) (fun hc32 => ?_)
              · replace hf := q_if_f hc32 hf
                refine qj_sub [1, 2, 3, 4, 5, 6, 0] rfl ?_
                exact hj30  hf
              · replace hf := q_if_t hc32 hf
                refine qj_iload hx hb d_Md_lay_105 0 rfl ?_
                refine qj_if_eq (tgt := 134) hx hb d_Md_lay_107 (by decide) (fun hc33 => ?_) (fun hc33 => ?_)
                · replace hf := q_if_t hc33 hf
                  refine qj_sub [1, 2, 3, 4, 5, 6, 0] rfl ?_
                  exact hj27 x3 x4 M6 hf
                · replace hf := q_if_f hc33 hf
                  refine qj_sub [1, 2, 3, 4, 5, 6, 0] rfl ?_
                  exact hj30  hf
          have hf9 := q_lt_s hf; clear hf; obtain ⟨j35, ej35, hf⟩ := hf9
          have hj35 : j35 = some out → QJ p l e rm_Md_lay s m args below meth c (qA 38 b) b 8 0 0 Q (qWd D (enM dA b) 38 b) M6 88 [(0, qr (some 0)), (1, qi a1), (3, qi x3), (4, qi x4), (5, qi x5), (6, qi x9)] [] := by
            clear hf
            intro hf
            rw [ej35] at hf
            refine qj_iconst (v := 0) hx hb d_Md_lay_88 (by decide) ?_
            exact hj34 0 hf
          refine qj_icmp_ge (tgt := 88) hx hb d_Md_lay_59 (by decide) (fun hc36 => ?_) (fun hc36 => ?_)
          · replace hf := q_if_t hc36 hf
            refine qj_sub [1, 2, 3, 4, 5, 0] rfl ?_
            exact hj35  hf
          · replace hf := q_if_f hc36 hf
            refine qj_iload hx hb d_Md_lay_62 0 rfl ?_
            refine qj_if_ne (tgt := 88) hx hb d_Md_lay_64 (by decide) (fun hc37 => ?_) (fun hc37 => ?_)
            · replace hf := q_if_f hc37 hf
              refine qj_sub [1, 2, 3, 4, 5, 0] rfl ?_
              exact hj35  hf
            · replace hf := q_if_t hc37 hf
              refine qj_aload_n hx hb d_Md_lay_67 rfl 1 rfl ?_
              refine qj_get hx hb hts hin_12 hown hK (by decide) rfl rfl 18 (by decide) (hts _ tw_568) (fun _ h => h) (qr (some 11)) rfl d_Md_lay_68 ?_
              refine qj_aload_n hx hb d_Md_lay_71 rfl 1 rfl ?_
              refine qj_get hx hb hts hin_12 hown hK (by decide) rfl rfl 51 (by decide) (hts _ tw_678) (fun _ h => h) (qr (some 37)) rfl d_Md_lay_72 ?_
              refine qj_iload hx hb d_Md_lay_75 5 rfl ?_
              have hf9 := q_ix_s hf; clear hf; obtain ⟨hi38, hf⟩ := hf9
              refine qj_iald (t0 := 0) hx hb hK (by decide) (fun _ _ => rfl) rfl hi38 d_Md_lay_77 ?_
              have hf9 := q_ix_s hf; clear hf; obtain ⟨hi39, hf⟩ := hf9
              refine qj_iald (t0 := 0) hx hb hK (by decide) (fun _ _ => rfl) rfl hi39 d_Md_lay_78 ?_
              refine qj_bipush (v := 32) hx hb d_Md_lay_79 (by decide) ?_
              refine qj_icmp_ne (tgt := 88) hx hb d_Md_lay_81 (by decide) (fun hc40 => ?_) (fun hc40 => ?_)
              · replace hf := q_if_f hc40 hf
                refine qj_sub [1, 2, 3, 4, 5, 0] rfl ?_
                exact hj35  hf
              · replace hf := q_if_t hc40 hf
                refine qj_iconst (v := 1) hx hb d_Md_lay_84 (by decide) ?_
                refine qj_goto (tgt := 89) hx hb d_Md_lay_85 (by decide) ?_
                refine qj_sub [1, 2, 3, 4, 5, 0] rfl ?_
                exact hj34 1 hf
        have hf9 := q_lt_s hf; clear hf; obtain ⟨j42, ej42, hf⟩ := hf9
        have hj42 : j42 = some out → QJ p l e rm_Md_lay s m args below meth c (qA 38 b) b 8 0 0 Q (qWd D (enM dA b) 38 b) M6 50 [(0, qr (some 0)), (1, qi a1), (3, qi x3), (4, qi x4), (5, qi x5)] [] := by
          clear hf
          intro hf
          rw [ej42] at hf
          refine qj_iconst (v := 0) hx hb d_Md_lay_50 (by decide) ?_
          exact hj41 0 hf
        refine qj_icmp_ge (tgt := 50) hx hb d_Md_lay_33 (by decide) (fun hc43 => ?_) (fun hc43 => ?_)
        · replace hf := q_if_t hc43 hf
          exact hj42  hf
        · replace hf := q_if_f hc43 hf
          refine qj_aload_n hx hb d_Md_lay_36 rfl 0 rfl ?_
          refine qj_get hx hb hts hin_12 hown hK (by decide) rfl rfl 51 (by decide) (hts _ tw_678) (fun _ h => h) (qr (some 37)) rfl d_Md_lay_37 ?_
          refine qj_iload hx hb d_Md_lay_40 4 rfl ?_
          have hf9 := q_ix_s hf; clear hf; obtain ⟨hi44, hf⟩ := hf9
          refine qj_iald (t0 := 0) hx hb hK (by decide) (fun _ _ => rfl) rfl hi44 d_Md_lay_42 ?_
          refine qj_if_ge (tgt := 50) hx hb d_Md_lay_43 (by decide) (fun hc45 => ?_) (fun hc45 => ?_)
          · replace hf := q_if_t hc45 hf
            exact hj42  hf
          · replace hf := q_if_f hc45 hf
            refine qj_iconst (v := 1) hx hb d_Md_lay_46 (by decide) ?_
            refine qj_goto (tgt := 51) hx hb d_Md_lay_47 (by decide) ?_
            exact hj41 1 hf
  refine qj_sub [3, 4, 2, 1, 0] rfl ?_
  refine hL18 _ _ (fun M46 hf9 => ?_) 0 0 0 M2 hf
  clear hf; have hf := hf9; clear hf9
  refine qj_aload_n hx hb d_Md_lay_191 rfl 0 rfl ?_
  refine qj_get hx hb hts hin_12 hown hK (by decide) rfl rfl 57 (by decide) (hts _ tw_682) (fun _ h => h) (qi (M46.1 0 57)) rfl d_Md_lay_192 ?_
  refine qj_if_eq (tgt := 206) hx hb d_Md_lay_195 (by decide) (fun hc47 => ?_) (fun hc47 => ?_)
  · replace hf := q_if_t hc47 hf
    refine qj_aload_n hx hb d_Md_lay_206 rfl 0 rfl ?_
    refine qj_get hx hb hts hin_12 hown hK (by decide) rfl rfl 53 (by decide) (hts _ tw_684) (fun _ h => h) (qi (M46.1 0 53)) rfl d_Md_lay_207 ?_
    exact hret _ _ _ _ d_Md_lay_210 (Option.some.inj hf)
  · replace hf := q_if_f hc47 hf
    refine qj_aload_n hx hb d_Md_lay_198 rfl 0 rfl ?_
    refine qj_aload_n hx hb d_Md_lay_199 rfl 0 rfl ?_
    refine qj_get hx hb hts hin_12 hown hK (by decide) rfl rfl 52 (by decide) (hts _ tw_677) (fun _ h => h) (qi (M46.1 0 52)) rfl d_Md_lay_200 ?_
    have hf9 := q_cv_s hf; clear hf; obtain ⟨M48, hM48, hf⟩ := hf9
    refine qc_Vv (st := []) hx hb hml hown hts hK qT_ok hs (c_Md_endLine (M46.1 0 52) M46 _ hM48) ⟨(callB_of 1 hts (q_good tw_697) rfl rfl rfl (hts _ tw_459) (hts _ tw_698) (by decide +kernel) ⟨by decide, by decide⟩), (hts _ tw_699), (hts _ tw_700)⟩ (by decide) rfl rfl rfl rfl (Nat.le_of_ble_eq_true rfl) d_Md_lay_203 ?_
    refine qj_aload_n hx hb d_Md_lay_206 rfl 0 rfl ?_
    refine qj_get hx hb hts hin_12 hown hK (by decide) rfl rfl 53 (by decide) (hts _ tw_684) (fun _ h => h) (qi (M48.1 0 53)) rfl d_Md_lay_207 ?_
    exact hret _ _ _ _ d_Md_lay_210 (Option.some.inj hf)
theorem d_Md_gather_0 : decode prog_14_method_62_code 0 = .ok (.aload_n 0, 1) := by decide +kernel
theorem d_Md_gather_1 : decode prog_14_method_62_code 1 = .ok (.getfield 16, 3) := by decide +kernel
theorem d_Md_gather_4 : decode prog_14_method_62_code 4 = .ok (.iload_n 1, 1) := by decide +kernel
theorem d_Md_gather_5 : decode prog_14_method_62_code 5 = .ok (.iaload, 1) := by decide +kernel
theorem d_Md_gather_6 : decode prog_14_method_62_code 6 = .ok (.istore_n 2, 1) := by decide +kernel
theorem d_Md_gather_7 : decode prog_14_method_62_code 7 = .ok (.aload_n 0, 1) := by decide +kernel
theorem d_Md_gather_8 : decode prog_14_method_62_code 8 = .ok (.getfield 19, 3) := by decide +kernel
theorem d_Md_gather_11 : decode prog_14_method_62_code 11 = .ok (.iload_n 2, 1) := by decide +kernel
theorem d_Md_gather_12 : decode prog_14_method_62_code 12 = .ok (.iaload, 1) := by decide +kernel
theorem d_Md_gather_13 : decode prog_14_method_62_code 13 = .ok (.bipush 107, 2) := by decide +kernel
theorem d_Md_gather_15 : decode prog_14_method_62_code 15 = .ok (.if_icmp .ne 25, 3) := by decide +kernel
theorem d_Md_gather_18 : decode prog_14_method_62_code 18 = .ok (.aload_n 0, 1) := by decide +kernel
theorem d_Md_gather_19 : decode prog_14_method_62_code 19 = .ok (.getfield 119, 3) := by decide +kernel
theorem d_Md_gather_22 : decode prog_14_method_62_code 22 = .ok (.aload_n 0, 1) := by decide +kernel
theorem d_Md_gather_23 : decode prog_14_method_62_code 23 = .ok (.getfield 331, 3) := by decide +kernel
theorem d_Md_gather_26 : decode prog_14_method_62_code 26 = .ok (.iconst (-1), 1) := by decide +kernel
theorem d_Md_gather_27 : decode prog_14_method_62_code 27 = .ok (.iload_n 1, 1) := by decide +kernel
theorem d_Md_gather_28 : decode prog_14_method_62_code 28 = .ok (.isub, 1) := by decide +kernel
theorem d_Md_gather_29 : decode prog_14_method_62_code 29 = .ok (.iastore, 1) := by decide +kernel
theorem d_Md_gather_30 : decode prog_14_method_62_code 30 = .ok (.aload_n 0, 1) := by decide +kernel
theorem d_Md_gather_31 : decode prog_14_method_62_code 31 = .ok (.dup, 1) := by decide +kernel
theorem d_Md_gather_32 : decode prog_14_method_62_code 32 = .ok (.getfield 331, 3) := by decide +kernel
theorem d_Md_gather_35 : decode prog_14_method_62_code 35 = .ok (.iconst 1, 1) := by decide +kernel
theorem d_Md_gather_36 : decode prog_14_method_62_code 36 = .ok (.iadd, 1) := by decide +kernel
theorem d_Md_gather_37 : decode prog_14_method_62_code 37 = .ok (.putfield 331, 3) := by decide +kernel
theorem d_Md_gather_40 : decode prog_14_method_62_code 40 = .ok (.iconst 0, 1) := by decide +kernel
theorem d_Md_gather_41 : decode prog_14_method_62_code 41 = .ok (.istore_n 3, 1) := by decide +kernel
theorem d_Md_gather_42 : decode prog_14_method_62_code 42 = .ok (.iload_n 3, 1) := by decide +kernel
theorem d_Md_gather_43 : decode prog_14_method_62_code 43 = .ok (.aload_n 0, 1) := by decide +kernel
theorem d_Md_gather_44 : decode prog_14_method_62_code 44 = .ok (.getfield 154, 3) := by decide +kernel
theorem d_Md_gather_47 : decode prog_14_method_62_code 47 = .ok (.if_icmp .ge 49, 3) := by decide +kernel
theorem d_Md_gather_50 : decode prog_14_method_62_code 50 = .ok (.aload_n 0, 1) := by decide +kernel
theorem d_Md_gather_51 : decode prog_14_method_62_code 51 = .ok (.getfield 19, 3) := by decide +kernel
theorem d_Md_gather_54 : decode prog_14_method_62_code 54 = .ok (.iload_n 2, 1) := by decide +kernel
theorem d_Md_gather_55 : decode prog_14_method_62_code 55 = .ok (.iaload, 1) := by decide +kernel
theorem d_Md_gather_56 : decode prog_14_method_62_code 56 = .ok (.iconst 1, 1) := by decide +kernel
theorem d_Md_gather_57 : decode prog_14_method_62_code 57 = .ok (.if_icmp .ne 39, 3) := by decide +kernel
theorem d_Md_gather_60 : decode prog_14_method_62_code 60 = .ok (.aload_n 0, 1) := by decide +kernel
theorem d_Md_gather_61 : decode prog_14_method_62_code 61 = .ok (.getfield 43, 3) := by decide +kernel
theorem d_Md_gather_64 : decode prog_14_method_62_code 64 = .ok (.iload_n 3, 1) := by decide +kernel
theorem d_Md_gather_65 : decode prog_14_method_62_code 65 = .ok (.iaload, 1) := by decide +kernel
theorem d_Md_gather_66 : decode prog_14_method_62_code 66 = .ok (.iload_n 2, 1) := by decide +kernel
theorem d_Md_gather_67 : decode prog_14_method_62_code 67 = .ok (.if_icmp .ne 23, 3) := by decide +kernel
theorem d_Md_gather_70 : decode prog_14_method_62_code 70 = .ok (.aload_n 0, 1) := by decide +kernel
theorem d_Md_gather_71 : decode prog_14_method_62_code 71 = .ok (.getfield 119, 3) := by decide +kernel
theorem d_Md_gather_74 : decode prog_14_method_62_code 74 = .ok (.aload_n 0, 1) := by decide +kernel
theorem d_Md_gather_75 : decode prog_14_method_62_code 75 = .ok (.getfield 331, 3) := by decide +kernel
theorem d_Md_gather_78 : decode prog_14_method_62_code 78 = .ok (.iload_n 3, 1) := by decide +kernel
theorem d_Md_gather_79 : decode prog_14_method_62_code 79 = .ok (.iastore, 1) := by decide +kernel
theorem d_Md_gather_80 : decode prog_14_method_62_code 80 = .ok (.aload_n 0, 1) := by decide +kernel
theorem d_Md_gather_81 : decode prog_14_method_62_code 81 = .ok (.dup, 1) := by decide +kernel
theorem d_Md_gather_82 : decode prog_14_method_62_code 82 = .ok (.getfield 331, 3) := by decide +kernel
theorem d_Md_gather_85 : decode prog_14_method_62_code 85 = .ok (.iconst 1, 1) := by decide +kernel
theorem d_Md_gather_86 : decode prog_14_method_62_code 86 = .ok (.iadd, 1) := by decide +kernel
theorem d_Md_gather_87 : decode prog_14_method_62_code 87 = .ok (.putfield 331, 3) := by decide +kernel
theorem d_Md_gather_90 : decode prog_14_method_62_code 90 = .ok (.iinc 3 1, 3) := by decide +kernel
theorem d_Md_gather_93 : decode prog_14_method_62_code 93 = .ok (.goto (-51), 3) := by decide +kernel
theorem d_Md_gather_96 : decode prog_14_method_62_code 96 = .ok (.return_, 1) := by decide +kernel
def f_Md_gather_42 (M : qM) (a1 : Int32) : Nat → (qM → Option qM) → Int32 → qM → Option qM
  | 0, _, _, _ => none
  | n + 1, K6, x4, M5 => if (M5.1 0 17) ≤ x4 then (K6 M5) else (q_ix (M.1 3 a1.toNatClampNeg) 40 <| if (M5.1 4 (M.1 3 a1.toNatClampNeg).toNatClampNeg) = 1 then (q_ix x4 160 <| if (M5.1 12 x4.toNatClampNeg) = (M.1 3 a1.toNatClampNeg) then (q_ix (M5.1 0 52) 200 <| q_lt (qsI M5 37 (M5.1 0 52).toNatClampNeg x4) fun M13 => q_lt (qsI M13 0 52 ((M13.1 0 52) + 1)) fun M14 => f_Md_gather_42 M a1 n K6 (x4 + 1) M14) else (f_Md_gather_42 M a1 n K6 (x4 + 1) M5)) else (K6 M5))
def f_Md_gather (a1 : Int32) (M : qM) : Option qM := q_ix a1 40 <| q_ix (M.1 3 a1.toNatClampNeg) 40 <| q_lt (fun (M3 : qM) => f_Md_gather_42 M a1 1000 (fun (M15 : qM) => some M15) 0 M3) fun (j16 : qM → Option qM) => if (M.1 4 (M.1 3 a1.toNatClampNeg).toNatClampNeg) = 107 then (q_ix (M.1 0 52) 200 <| q_lt (qsI M 37 (M.1 0 52).toNatClampNeg ((-1) - a1)) fun M19 => q_lt (qsI M19 0 52 ((M19.1 0 52) + 1)) fun M20 => j16 M20) else (j16 M)
abbrev rm_Md_gather : Room := { frames := 0, cells := 0, slots := 0, locals := 0 }
set_option maxRecDepth 100000 in
set_option maxHeartbeats 4000000 in
theorem c_Md_gather {l : Launch} {D : va_G} {dA : Nat → ClassId} {b : Nat} (a1 : Int32)  (M : qM) (out : qM) (hf : f_Md_gather a1 M = some out) : CTv l y_Md_gather w_Md_gather rm_Md_gather D (tysX dA) (enM dA b) 38 b (fun _ => True) [qr (some 0), qi a1] M out := by
  refine qm_v (cc := prog_14_method_62_code) (nL := 4) (by decide) rfl (Nat.le_of_ble_eq_true rfl) ?_
  intro p e s m args below meth c Q hx hb hts0 hown hml hK hs hret
  have hts : ∀ w ∈ lw_g, w.before args s = true := fun w h => hts0 w (List.mem_cons_of_mem _ h)
  show QJ p l e rm_Md_gather s m args below meth c (qA 38 b) b 4 0 0 Q (qWd D (enM dA b) 38 b) M 0 [(0, qr (some 0)), (1, qi a1)] []
  unfold f_Md_gather at hf
  refine qj_aload_n hx hb d_Md_gather_0 rfl 0 rfl ?_
  refine qj_get hx hb hts hin_12 hown hK (by decide) rfl rfl 6 (by decide) (hts _ tw_448) (fun _ h => h) (qr (some 3)) rfl d_Md_gather_1 ?_
  refine qj_iload_n hx hb d_Md_gather_4 rfl 1 rfl ?_
  have hf9 := q_ix_s hf; clear hf; obtain ⟨hi1, hf⟩ := hf9
  refine qj_iald (t0 := 0) hx hb hK (by decide) (fun _ _ => rfl) rfl hi1 d_Md_gather_5 ?_
  refine qj_istore_n hx hb d_Md_gather_6 rfl (by decide) rfl ?_
  refine qj_aload_n hx hb d_Md_gather_7 rfl 1 rfl ?_
  refine qj_get hx hb hts hin_12 hown hK (by decide) rfl rfl 8 (by decide) (hts _ tw_450) (fun _ h => h) (qr (some 4)) rfl d_Md_gather_8 ?_
  refine qj_iload_n hx hb d_Md_gather_11 rfl 0 rfl ?_
  have hf9 := q_ix_s hf; clear hf; obtain ⟨hi2, hf⟩ := hf9
  refine qj_iald (t0 := 0) hx hb hK (by decide) (fun _ _ => rfl) rfl hi2 d_Md_gather_12 ?_
  refine qj_bipush (v := 107) hx hb d_Md_gather_13 (by decide) ?_
  have hf9 := q_lt_s hf; clear hf; obtain ⟨j16, ej16, hf⟩ := hf9
  have hj16 : ∀ (M3 : qM), j16 M3 = some out → QJ p l e rm_Md_gather s m args below meth c (qA 38 b) b 4 0 0 Q (qWd D (enM dA b) 38 b) M3 40 [(0, qr (some 0)), (2, qi (M.1 3 a1.toNatClampNeg))] [] := by
    clear hf
    intro M3 hf
    rw [ej16] at hf
    refine qj_iconst (v := 0) hx hb d_Md_gather_40 (by decide) ?_
    refine qj_istore_n hx hb d_Md_gather_41 rfl (by decide) rfl ?_
    have hL42 : ∀ (n : Nat) (K6 : qM → Option qM), (∀ (M15 : qM), K6 M15 = some out → QJ p l e rm_Md_gather s m args below meth c (qA 38 b) b 4 0 0 Q (qWd D (enM dA b) 38 b) M15 96 [] []) → ∀ (x4 : Int32) (M5 : qM), f_Md_gather_42 M a1 n K6 x4 M5 = some out → QJ p l e rm_Md_gather s m args below meth c (qA 38 b) b 4 0 0 Q (qWd D (enM dA b) 38 b) M5 42 [(0, qr (some 0)), (2, qi (M.1 3 a1.toNatClampNeg)), (3, qi x4)] [] := by
      clear hf
      intro n
      induction n with
      | zero =>
        intro K6 hK6 x4 M5 hf
        exact absurd hf (by simp [f_Md_gather_42])
      | succ n ih42 =>
        intro K6 hK6 x4 M5 hf
        rw [f_Md_gather_42] at hf
        have ih42 := ih42 K6 hK6
        refine qj_iload_n hx hb d_Md_gather_42 rfl 2 rfl ?_
        refine qj_aload_n hx hb d_Md_gather_43 rfl 0 rfl ?_
        refine qj_get hx hb hts hin_12 hown hK (by decide) rfl rfl 17 (by decide) (hts _ tw_456) (fun _ h => h) (qi (M5.1 0 17)) rfl d_Md_gather_44 ?_
        refine qj_icmp_ge (tgt := 96) hx hb d_Md_gather_47 (by decide) (fun hc7 => ?_) (fun hc7 => ?_)
        · replace hf := q_if_t hc7 hf
          refine qj_sub [] rfl ?_
          exact hK6 M5 hf
        · replace hf := q_if_f hc7 hf
          refine qj_aload_n hx hb d_Md_gather_50 rfl 0 rfl ?_
          refine qj_get hx hb hts hin_12 hown hK (by decide) rfl rfl 8 (by decide) (hts _ tw_450) (fun _ h => h) (qr (some 4)) rfl d_Md_gather_51 ?_
          refine qj_iload_n hx hb d_Md_gather_54 rfl 1 rfl ?_
          have hf9 := q_ix_s hf; clear hf; obtain ⟨hi8, hf⟩ := hf9
          refine qj_iald (t0 := 0) hx hb hK (by decide) (fun _ _ => rfl) rfl hi8 d_Md_gather_55 ?_
          refine qj_iconst (v := 1) hx hb d_Md_gather_56 (by decide) ?_
          refine qj_icmp_ne (tgt := 96) hx hb d_Md_gather_57 (by decide) (fun hc9 => ?_) (fun hc9 => ?_)
          · replace hf := q_if_f hc9 hf
            refine qj_sub [] rfl ?_
            exact hK6 M5 hf
          · replace hf := q_if_t hc9 hf
            refine qj_aload_n hx hb d_Md_gather_60 rfl 0 rfl ?_
            refine qj_get hx hb hts hin_12 hown hK (by decide) rfl rfl 19 (by decide) (hts _ tw_569) (fun _ h => h) (qr (some 12)) rfl d_Md_gather_61 ?_
            refine qj_iload_n hx hb d_Md_gather_64 rfl 2 rfl ?_
            have hf9 := q_ix_s hf; clear hf; obtain ⟨hi10, hf⟩ := hf9
            refine qj_iald (t0 := 0) hx hb hK (by decide) (fun _ _ => rfl) rfl hi10 d_Md_gather_65 ?_
            refine qj_iload_n hx hb d_Md_gather_66 rfl 1 rfl ?_
            refine qj_icmp_ne (tgt := 90) hx hb d_Md_gather_67 (by decide) (fun hc11 => ?_) (fun hc11 => ?_)
            · replace hf := q_if_f hc11 hf
              refine qj_iinc (j := 2) (v := x4 + 1) hx hb d_Md_gather_90 rfl rfl (by decide) rfl ?_
              refine qj_goto (tgt := 42) hx hb d_Md_gather_93 (by decide) ?_
              refine qj_sub [1, 2, 0] rfl ?_
              exact ih42 (x4 + 1) M5 hf
            · replace hf := q_if_t hc11 hf
              refine qj_aload_n hx hb d_Md_gather_70 rfl 0 rfl ?_
              refine qj_get hx hb hts hin_12 hown hK (by decide) rfl rfl 51 (by decide) (hts _ tw_678) (fun _ h => h) (qr (some 37)) rfl d_Md_gather_71 ?_
              refine qj_aload_n hx hb d_Md_gather_74 rfl 0 rfl ?_
              refine qj_get hx hb hts hin_12 hown hK (by decide) rfl rfl 52 (by decide) (hts _ tw_677) (fun _ h => h) (qi (M5.1 0 52)) rfl d_Md_gather_75 ?_
              refine qj_iload_n hx hb d_Md_gather_78 rfl 2 rfl ?_
              have hf9 := q_ix_s hf; clear hf; obtain ⟨hi12, hf⟩ := hf9
              have hf9 := q_lt_s hf; clear hf; obtain ⟨M13, eM13, hf⟩ := hf9
              refine qj_iast (t0 := 0) hx hb hK (by decide) (fun _ _ => rfl) rfl hi12 eM13 d_Md_gather_79 ?_
              refine qj_aload_n hx hb d_Md_gather_80 rfl 0 rfl ?_
              refine qj_dup hx hb d_Md_gather_81 ?_
              refine qj_get hx hb hts hin_12 hown hK (by decide) rfl rfl 52 (by decide) (hts _ tw_677) (fun _ h => h) (qi (M13.1 0 52)) rfl d_Md_gather_82 ?_
              refine qj_iconst (v := 1) hx hb d_Md_gather_85 (by decide) ?_
              refine qj_iadd hx hb d_Md_gather_86 ?_
              have hf9 := q_lt_s hf; clear hf; obtain ⟨M14, eM14, hf⟩ := hf9
              refine qj_puti (ty := .int) hx hb hts hin_12 ty_12 tyok_12 nm_12 hown hK (by decide) rfl rfl 52 (by decide) (hts _ tw_677) (fun _ h => h) rfl (by decide +kernel) rfl rfl (Nat.le_of_ble_eq_true rfl) sm_52 eM14 d_Md_gather_87 ?_
              refine qj_iinc (j := 2) (v := x4 + 1) hx hb d_Md_gather_90 rfl rfl (by decide) rfl ?_
              refine qj_goto (tgt := 42) hx hb d_Md_gather_93 (by decide) ?_
              refine qj_sub [1, 2, 0] rfl ?_
              exact ih42 (x4 + 1) M14 hf
    refine qj_sub [1, 2, 0] rfl ?_
    refine hL42 _ _ (fun M15 hf9 => ?_) 0 M3 hf
    clear hf; have hf := hf9; clear hf9
    exact hret _ _ _ d_Md_gather_96 (Option.some.inj hf)
  refine qj_icmp_ne (tgt := 40) hx hb d_Md_gather_15 (by decide) (fun hc17 => ?_) (fun hc17 => ?_)
  · replace hf := q_if_f hc17 hf
    refine qj_sub [1, 0] rfl ?_
    exact hj16 M hf
  · replace hf := q_if_t hc17 hf
    refine qj_aload_n hx hb d_Md_gather_18 rfl 1 rfl ?_
    refine qj_get hx hb hts hin_12 hown hK (by decide) rfl rfl 51 (by decide) (hts _ tw_678) (fun _ h => h) (qr (some 37)) rfl d_Md_gather_19 ?_
    refine qj_aload_n hx hb d_Md_gather_22 rfl 1 rfl ?_
    refine qj_get hx hb hts hin_12 hown hK (by decide) rfl rfl 52 (by decide) (hts _ tw_677) (fun _ h => h) (qi (M.1 0 52)) rfl d_Md_gather_23 ?_
    refine qj_iconst (v := (-1)) hx hb d_Md_gather_26 (by decide) ?_
    refine qj_iload_n hx hb d_Md_gather_27 rfl 2 rfl ?_
    refine qj_isub hx hb d_Md_gather_28 ?_
    have hf9 := q_ix_s hf; clear hf; obtain ⟨hi18, hf⟩ := hf9
    have hf9 := q_lt_s hf; clear hf; obtain ⟨M19, eM19, hf⟩ := hf9
    refine qj_iast (t0 := 0) hx hb hK (by decide) (fun _ _ => rfl) rfl hi18 eM19 d_Md_gather_29 ?_
    refine qj_aload_n hx hb d_Md_gather_30 rfl 1 rfl ?_
    refine qj_dup hx hb d_Md_gather_31 ?_
    refine qj_get hx hb hts hin_12 hown hK (by decide) rfl rfl 52 (by decide) (hts _ tw_677) (fun _ h => h) (qi (M19.1 0 52)) rfl d_Md_gather_32 ?_
    refine qj_iconst (v := 1) hx hb d_Md_gather_35 (by decide) ?_
    refine qj_iadd hx hb d_Md_gather_36 ?_
    have hf9 := q_lt_s hf; clear hf; obtain ⟨M20, eM20, hf⟩ := hf9
    refine qj_puti (ty := .int) hx hb hts hin_12 ty_12 tyok_12 nm_12 hown hK (by decide) rfl rfl 52 (by decide) (hts _ tw_677) (fun _ h => h) rfl (by decide +kernel) rfl rfl (Nat.le_of_ble_eq_true rfl) sm_52 eM20 d_Md_gather_37 ?_
    refine qj_sub [1, 0] rfl ?_
    exact hj16 M20 hf
theorem d_Md_heights_0 : decode prog_14_method_61_code 0 = .ok (.iconst 2, 1) := by decide +kernel
theorem d_Md_heights_1 : decode prog_14_method_61_code 1 = .ok (.aload_n 0, 1) := by decide +kernel
theorem d_Md_heights_2 : decode prog_14_method_61_code 2 = .ok (.iload_n 1, 1) := by decide +kernel
theorem d_Md_heights_3 : decode prog_14_method_61_code 3 = .ok (.iconst 5, 1) := by decide +kernel
theorem d_Md_heights_4 : decode prog_14_method_61_code 4 = .ok (.invokevirtual 325, 3) := by decide +kernel
theorem d_Md_heights_7 : decode prog_14_method_61_code 7 = .ok (.imul, 1) := by decide +kernel
theorem d_Md_heights_8 : decode prog_14_method_61_code 8 = .ok (.istore_n 2, 1) := by decide +kernel
theorem d_Md_heights_9 : decode prog_14_method_61_code 9 = .ok (.aload_n 0, 1) := by decide +kernel
theorem d_Md_heights_10 : decode prog_14_method_61_code 10 = .ok (.getfield 19, 3) := by decide +kernel
theorem d_Md_heights_13 : decode prog_14_method_61_code 13 = .ok (.aload_n 0, 1) := by decide +kernel
theorem d_Md_heights_14 : decode prog_14_method_61_code 14 = .ok (.getfield 16, 3) := by decide +kernel
theorem d_Md_heights_17 : decode prog_14_method_61_code 17 = .ok (.iload_n 1, 1) := by decide +kernel
theorem d_Md_heights_18 : decode prog_14_method_61_code 18 = .ok (.iaload, 1) := by decide +kernel
theorem d_Md_heights_19 : decode prog_14_method_61_code 19 = .ok (.iaload, 1) := by decide +kernel
theorem d_Md_heights_20 : decode prog_14_method_61_code 20 = .ok (.istore_n 3, 1) := by decide +kernel
theorem d_Md_heights_21 : decode prog_14_method_61_code 21 = .ok (.iconst 0, 1) := by decide +kernel
theorem d_Md_heights_22 : decode prog_14_method_61_code 22 = .ok (.istore 4, 2) := by decide +kernel
theorem d_Md_heights_24 : decode prog_14_method_61_code 24 = .ok (.iconst 0, 1) := by decide +kernel
theorem d_Md_heights_25 : decode prog_14_method_61_code 25 = .ok (.istore 5, 2) := by decide +kernel
theorem d_Md_heights_27 : decode prog_14_method_61_code 27 = .ok (.iconst 0, 1) := by decide +kernel
theorem d_Md_heights_28 : decode prog_14_method_61_code 28 = .ok (.istore 6, 2) := by decide +kernel
theorem d_Md_heights_30 : decode prog_14_method_61_code 30 = .ok (.aload_n 0, 1) := by decide +kernel
theorem d_Md_heights_31 : decode prog_14_method_61_code 31 = .ok (.iconst 0, 1) := by decide +kernel
theorem d_Md_heights_32 : decode prog_14_method_61_code 32 = .ok (.putfield 331, 3) := by decide +kernel
theorem d_Md_heights_35 : decode prog_14_method_61_code 35 = .ok (.aload_n 0, 1) := by decide +kernel
theorem d_Md_heights_36 : decode prog_14_method_61_code 36 = .ok (.iload_n 1, 1) := by decide +kernel
theorem d_Md_heights_37 : decode prog_14_method_61_code 37 = .ok (.invokevirtual 205, 3) := by decide +kernel
theorem d_Md_heights_40 : decode prog_14_method_61_code 40 = .ok (.istore 7, 2) := by decide +kernel
theorem d_Md_heights_42 : decode prog_14_method_61_code 42 = .ok (.iload_n 1, 1) := by decide +kernel
theorem d_Md_heights_43 : decode prog_14_method_61_code 43 = .ok (.iconst 1, 1) := by decide +kernel
theorem d_Md_heights_44 : decode prog_14_method_61_code 44 = .ok (.iadd, 1) := by decide +kernel
theorem d_Md_heights_45 : decode prog_14_method_61_code 45 = .ok (.istore 8, 2) := by decide +kernel
theorem d_Md_heights_47 : decode prog_14_method_61_code 47 = .ok (.iload 8, 2) := by decide +kernel
theorem d_Md_heights_49 : decode prog_14_method_61_code 49 = .ok (.iload 7, 2) := by decide +kernel
theorem d_Md_heights_51 : decode prog_14_method_61_code 51 = .ok (.if_icmp .ge 206, 3) := by decide +kernel
theorem d_Md_heights_54 : decode prog_14_method_61_code 54 = .ok (.aload_n 0, 1) := by decide +kernel
theorem d_Md_heights_55 : decode prog_14_method_61_code 55 = .ok (.getfield 92, 3) := by decide +kernel
theorem d_Md_heights_58 : decode prog_14_method_61_code 58 = .ok (.iload 8, 2) := by decide +kernel
theorem d_Md_heights_60 : decode prog_14_method_61_code 60 = .ok (.iaload, 1) := by decide +kernel
theorem d_Md_heights_61 : decode prog_14_method_61_code 61 = .ok (.iload_n 1, 1) := by decide +kernel
theorem d_Md_heights_62 : decode prog_14_method_61_code 62 = .ok (.if_icmp .ne 162, 3) := by decide +kernel
theorem d_Md_heights_65 : decode prog_14_method_61_code 65 = .ok (.aload_n 0, 1) := by decide +kernel
theorem d_Md_heights_66 : decode prog_14_method_61_code 66 = .ok (.getfield 89, 3) := by decide +kernel
theorem d_Md_heights_69 : decode prog_14_method_61_code 69 = .ok (.iload 8, 2) := by decide +kernel
theorem d_Md_heights_71 : decode prog_14_method_61_code 71 = .ok (.baload, 1) := by decide +kernel
theorem d_Md_heights_72 : decode prog_14_method_61_code 72 = .ok (.ifCond .eq 152, 3) := by decide +kernel
theorem d_Md_heights_75 : decode prog_14_method_61_code 75 = .ok (.aload_n 0, 1) := by decide +kernel
theorem d_Md_heights_76 : decode prog_14_method_61_code 76 = .ok (.invokevirtual 334, 3) := by decide +kernel
theorem d_Md_heights_79 : decode prog_14_method_61_code 79 = .ok (.istore 9, 2) := by decide +kernel
theorem d_Md_heights_81 : decode prog_14_method_61_code 81 = .ok (.iload 9, 2) := by decide +kernel
theorem d_Md_heights_83 : decode prog_14_method_61_code 83 = .ok (.ifCond .eq 15, 3) := by decide +kernel
theorem d_Md_heights_86 : decode prog_14_method_61_code 86 = .ok (.aload_n 0, 1) := by decide +kernel
theorem d_Md_heights_87 : decode prog_14_method_61_code 87 = .ok (.iload_n 1, 1) := by decide +kernel
theorem d_Md_heights_88 : decode prog_14_method_61_code 88 = .ok (.iload 4, 2) := by decide +kernel
theorem d_Md_heights_90 : decode prog_14_method_61_code 90 = .ok (.iload 5, 2) := by decide +kernel
theorem d_Md_heights_92 : decode prog_14_method_61_code 92 = .ok (.iadd, 1) := by decide +kernel
theorem d_Md_heights_93 : decode prog_14_method_61_code 93 = .ok (.invokevirtual 338, 3) := by decide +kernel
theorem d_Md_heights_96 : decode prog_14_method_61_code 96 = .ok (.istore 4, 2) := by decide +kernel
theorem d_Md_heights_98 : decode prog_14_method_61_code 98 = .ok (.iload 9, 2) := by decide +kernel
theorem d_Md_heights_100 : decode prog_14_method_61_code 100 = .ok (.ifCond .eq 7, 3) := by decide +kernel
theorem d_Md_heights_103 : decode prog_14_method_61_code 103 = .ok (.iconst 0, 1) := by decide +kernel
theorem d_Md_heights_104 : decode prog_14_method_61_code 104 = .ok (.goto 5, 3) := by decide +kernel
theorem d_Md_heights_107 : decode prog_14_method_61_code 107 = .ok (.iload 5, 2) := by decide +kernel
theorem d_Md_heights_109 : decode prog_14_method_61_code 109 = .ok (.istore 5, 2) := by decide +kernel
theorem d_Md_heights_111 : decode prog_14_method_61_code 111 = .ok (.aload_n 0, 1) := by decide +kernel
theorem d_Md_heights_112 : decode prog_14_method_61_code 112 = .ok (.iconst 0, 1) := by decide +kernel
theorem d_Md_heights_113 : decode prog_14_method_61_code 113 = .ok (.putfield 331, 3) := by decide +kernel
theorem d_Md_heights_116 : decode prog_14_method_61_code 116 = .ok (.aload_n 0, 1) := by decide +kernel
theorem d_Md_heights_117 : decode prog_14_method_61_code 117 = .ok (.getfield 83, 3) := by decide +kernel
theorem d_Md_heights_120 : decode prog_14_method_61_code 120 = .ok (.sipush 160, 3) := by decide +kernel
theorem d_Md_heights_123 : decode prog_14_method_61_code 123 = .ok (.iload 8, 2) := by decide +kernel
theorem d_Md_heights_125 : decode prog_14_method_61_code 125 = .ok (.iadd, 1) := by decide +kernel
theorem d_Md_heights_126 : decode prog_14_method_61_code 126 = .ok (.iaload, 1) := by decide +kernel
theorem d_Md_heights_127 : decode prog_14_method_61_code 127 = .ok (.istore 10, 2) := by decide +kernel
theorem d_Md_heights_129 : decode prog_14_method_61_code 129 = .ok (.aload_n 0, 1) := by decide +kernel
theorem d_Md_heights_130 : decode prog_14_method_61_code 130 = .ok (.getfield 104, 3) := by decide +kernel
theorem d_Md_heights_133 : decode prog_14_method_61_code 133 = .ok (.iload 8, 2) := by decide +kernel
theorem d_Md_heights_135 : decode prog_14_method_61_code 135 = .ok (.iload_n 3, 1) := by decide +kernel
theorem d_Md_heights_136 : decode prog_14_method_61_code 136 = .ok (.bipush 114, 2) := by decide +kernel
theorem d_Md_heights_138 : decode prog_14_method_61_code 138 = .ok (.if_icmp .ne 8, 3) := by decide +kernel
theorem d_Md_heights_141 : decode prog_14_method_61_code 141 = .ok (.iload 10, 2) := by decide +kernel
theorem d_Md_heights_143 : decode prog_14_method_61_code 143 = .ok (.goto 20, 3) := by decide +kernel
theorem d_Md_heights_146 : decode prog_14_method_61_code 146 = .ok (.iload 4, 2) := by decide +kernel
theorem d_Md_heights_148 : decode prog_14_method_61_code 148 = .ok (.iload 5, 2) := by decide +kernel
theorem d_Md_heights_150 : decode prog_14_method_61_code 150 = .ok (.iload 10, 2) := by decide +kernel
theorem d_Md_heights_152 : decode prog_14_method_61_code 152 = .ok (.if_icmp .le 8, 3) := by decide +kernel
theorem d_Md_heights_155 : decode prog_14_method_61_code 155 = .ok (.iload 5, 2) := by decide +kernel
theorem d_Md_heights_157 : decode prog_14_method_61_code 157 = .ok (.goto 5, 3) := by decide +kernel
theorem d_Md_heights_160 : decode prog_14_method_61_code 160 = .ok (.iload 10, 2) := by decide +kernel
theorem d_Md_heights_162 : decode prog_14_method_61_code 162 = .ok (.iadd, 1) := by decide +kernel
theorem d_Md_heights_163 : decode prog_14_method_61_code 163 = .ok (.iastore, 1) := by decide +kernel
theorem d_Md_heights_164 : decode prog_14_method_61_code 164 = .ok (.aload_n 0, 1) := by decide +kernel
theorem d_Md_heights_165 : decode prog_14_method_61_code 165 = .ok (.getfield 104, 3) := by decide +kernel
theorem d_Md_heights_168 : decode prog_14_method_61_code 168 = .ok (.iload 8, 2) := by decide +kernel
theorem d_Md_heights_170 : decode prog_14_method_61_code 170 = .ok (.iaload, 1) := by decide +kernel
theorem d_Md_heights_171 : decode prog_14_method_61_code 171 = .ok (.aload_n 0, 1) := by decide +kernel
theorem d_Md_heights_172 : decode prog_14_method_61_code 172 = .ok (.getfield 101, 3) := by decide +kernel
theorem d_Md_heights_175 : decode prog_14_method_61_code 175 = .ok (.iload 8, 2) := by decide +kernel
theorem d_Md_heights_177 : decode prog_14_method_61_code 177 = .ok (.iaload, 1) := by decide +kernel
theorem d_Md_heights_178 : decode prog_14_method_61_code 178 = .ok (.iadd, 1) := by decide +kernel
theorem d_Md_heights_179 : decode prog_14_method_61_code 179 = .ok (.istore 4, 2) := by decide +kernel
theorem d_Md_heights_181 : decode prog_14_method_61_code 181 = .ok (.iload 6, 2) := by decide +kernel
theorem d_Md_heights_183 : decode prog_14_method_61_code 183 = .ok (.iconst 2, 1) := by decide +kernel
theorem d_Md_heights_184 : decode prog_14_method_61_code 184 = .ok (.iload 10, 2) := by decide +kernel
theorem d_Md_heights_186 : decode prog_14_method_61_code 186 = .ok (.imul, 1) := by decide +kernel
theorem d_Md_heights_187 : decode prog_14_method_61_code 187 = .ok (.aload_n 0, 1) := by decide +kernel
theorem d_Md_heights_188 : decode prog_14_method_61_code 188 = .ok (.getfield 101, 3) := by decide +kernel
theorem d_Md_heights_191 : decode prog_14_method_61_code 191 = .ok (.iload 8, 2) := by decide +kernel
theorem d_Md_heights_193 : decode prog_14_method_61_code 193 = .ok (.iaload, 1) := by decide +kernel
theorem d_Md_heights_194 : decode prog_14_method_61_code 194 = .ok (.iadd, 1) := by decide +kernel
theorem d_Md_heights_195 : decode prog_14_method_61_code 195 = .ok (.if_icmp .le 8, 3) := by decide +kernel
theorem d_Md_heights_198 : decode prog_14_method_61_code 198 = .ok (.iload 6, 2) := by decide +kernel
theorem d_Md_heights_200 : decode prog_14_method_61_code 200 = .ok (.goto 15, 3) := by decide +kernel
theorem d_Md_heights_203 : decode prog_14_method_61_code 203 = .ok (.iconst 2, 1) := by decide +kernel
theorem d_Md_heights_204 : decode prog_14_method_61_code 204 = .ok (.iload 10, 2) := by decide +kernel
theorem d_Md_heights_206 : decode prog_14_method_61_code 206 = .ok (.imul, 1) := by decide +kernel
theorem d_Md_heights_207 : decode prog_14_method_61_code 207 = .ok (.aload_n 0, 1) := by decide +kernel
theorem d_Md_heights_208 : decode prog_14_method_61_code 208 = .ok (.getfield 101, 3) := by decide +kernel
theorem d_Md_heights_211 : decode prog_14_method_61_code 211 = .ok (.iload 8, 2) := by decide +kernel
theorem d_Md_heights_213 : decode prog_14_method_61_code 213 = .ok (.iaload, 1) := by decide +kernel
theorem d_Md_heights_214 : decode prog_14_method_61_code 214 = .ok (.iadd, 1) := by decide +kernel
theorem d_Md_heights_215 : decode prog_14_method_61_code 215 = .ok (.istore 6, 2) := by decide +kernel
theorem d_Md_heights_217 : decode prog_14_method_61_code 217 = .ok (.iload 10, 2) := by decide +kernel
theorem d_Md_heights_219 : decode prog_14_method_61_code 219 = .ok (.istore 5, 2) := by decide +kernel
theorem d_Md_heights_221 : decode prog_14_method_61_code 221 = .ok (.goto 30, 3) := by decide +kernel
theorem d_Md_heights_224 : decode prog_14_method_61_code 224 = .ok (.aload_n 0, 1) := by decide +kernel
theorem d_Md_heights_225 : decode prog_14_method_61_code 225 = .ok (.getfield 92, 3) := by decide +kernel
theorem d_Md_heights_228 : decode prog_14_method_61_code 228 = .ok (.iload 8, 2) := by decide +kernel
theorem d_Md_heights_230 : decode prog_14_method_61_code 230 = .ok (.iaload, 1) := by decide +kernel
theorem d_Md_heights_231 : decode prog_14_method_61_code 231 = .ok (.iload_n 1, 1) := by decide +kernel
theorem d_Md_heights_232 : decode prog_14_method_61_code 232 = .ok (.if_icmp .ne 19, 3) := by decide +kernel
theorem d_Md_heights_235 : decode prog_14_method_61_code 235 = .ok (.aload_n 0, 1) := by decide +kernel
theorem d_Md_heights_236 : decode prog_14_method_61_code 236 = .ok (.getfield 86, 3) := by decide +kernel
theorem d_Md_heights_239 : decode prog_14_method_61_code 239 = .ok (.iload 8, 2) := by decide +kernel
theorem d_Md_heights_241 : decode prog_14_method_61_code 241 = .ok (.baload, 1) := by decide +kernel
theorem d_Md_heights_242 : decode prog_14_method_61_code 242 = .ok (.ifCond .ne 9, 3) := by decide +kernel
theorem d_Md_heights_245 : decode prog_14_method_61_code 245 = .ok (.aload_n 0, 1) := by decide +kernel
theorem d_Md_heights_246 : decode prog_14_method_61_code 246 = .ok (.iload 8, 2) := by decide +kernel
theorem d_Md_heights_248 : decode prog_14_method_61_code 248 = .ok (.invokevirtual 341, 3) := by decide +kernel
theorem d_Md_heights_251 : decode prog_14_method_61_code 251 = .ok (.iinc 8 1, 3) := by decide +kernel
theorem d_Md_heights_254 : decode prog_14_method_61_code 254 = .ok (.goto (-207), 3) := by decide +kernel
theorem d_Md_heights_257 : decode prog_14_method_61_code 257 = .ok (.aload_n 0, 1) := by decide +kernel
theorem d_Md_heights_258 : decode prog_14_method_61_code 258 = .ok (.invokevirtual 334, 3) := by decide +kernel
theorem d_Md_heights_261 : decode prog_14_method_61_code 261 = .ok (.ifCond .eq 18, 3) := by decide +kernel
theorem d_Md_heights_264 : decode prog_14_method_61_code 264 = .ok (.aload_n 0, 1) := by decide +kernel
theorem d_Md_heights_265 : decode prog_14_method_61_code 265 = .ok (.iload_n 1, 1) := by decide +kernel
theorem d_Md_heights_266 : decode prog_14_method_61_code 266 = .ok (.iload 4, 2) := by decide +kernel
theorem d_Md_heights_268 : decode prog_14_method_61_code 268 = .ok (.iload 5, 2) := by decide +kernel
theorem d_Md_heights_270 : decode prog_14_method_61_code 270 = .ok (.iadd, 1) := by decide +kernel
theorem d_Md_heights_271 : decode prog_14_method_61_code 271 = .ok (.invokevirtual 338, 3) := by decide +kernel
theorem d_Md_heights_274 : decode prog_14_method_61_code 274 = .ok (.istore 4, 2) := by decide +kernel
theorem d_Md_heights_276 : decode prog_14_method_61_code 276 = .ok (.iconst 0, 1) := by decide +kernel
theorem d_Md_heights_277 : decode prog_14_method_61_code 277 = .ok (.istore 5, 2) := by decide +kernel
theorem d_Md_heights_279 : decode prog_14_method_61_code 279 = .ok (.aload_n 0, 1) := by decide +kernel
theorem d_Md_heights_280 : decode prog_14_method_61_code 280 = .ok (.getfield 101, 3) := by decide +kernel
theorem d_Md_heights_283 : decode prog_14_method_61_code 283 = .ok (.iload_n 1, 1) := by decide +kernel
theorem d_Md_heights_284 : decode prog_14_method_61_code 284 = .ok (.iload_n 2, 1) := by decide +kernel
theorem d_Md_heights_285 : decode prog_14_method_61_code 285 = .ok (.iload_n 3, 1) := by decide +kernel
theorem d_Md_heights_286 : decode prog_14_method_61_code 286 = .ok (.bipush 104, 2) := by decide +kernel
theorem d_Md_heights_288 : decode prog_14_method_61_code 288 = .ok (.if_icmp .ne 7, 3) := by decide +kernel
theorem d_Md_heights_291 : decode prog_14_method_61_code 291 = .ok (.iconst 1, 1) := by decide +kernel
theorem d_Md_heights_292 : decode prog_14_method_61_code 292 = .ok (.goto 19, 3) := by decide +kernel
theorem d_Md_heights_295 : decode prog_14_method_61_code 295 = .ok (.iload_n 3, 1) := by decide +kernel
theorem d_Md_heights_296 : decode prog_14_method_61_code 296 = .ok (.bipush 114, 2) := by decide +kernel
theorem d_Md_heights_298 : decode prog_14_method_61_code 298 = .ok (.if_icmp .ne 8, 3) := by decide +kernel
theorem d_Md_heights_301 : decode prog_14_method_61_code 301 = .ok (.iload 6, 2) := by decide +kernel
theorem d_Md_heights_303 : decode prog_14_method_61_code 303 = .ok (.goto 8, 3) := by decide +kernel
theorem d_Md_heights_306 : decode prog_14_method_61_code 306 = .ok (.iload 4, 2) := by decide +kernel
theorem d_Md_heights_308 : decode prog_14_method_61_code 308 = .ok (.iload 5, 2) := by decide +kernel
theorem d_Md_heights_310 : decode prog_14_method_61_code 310 = .ok (.iadd, 1) := by decide +kernel
theorem d_Md_heights_311 : decode prog_14_method_61_code 311 = .ok (.iadd, 1) := by decide +kernel
theorem d_Md_heights_312 : decode prog_14_method_61_code 312 = .ok (.iastore, 1) := by decide +kernel
theorem d_Md_heights_313 : decode prog_14_method_61_code 313 = .ok (.return_, 1) := by decide +kernel
def f_Md_heights_47 (x6 : Int32) (a1 : Int32) (x4 : Int32) : Nat → (Int32 → Int32 → Int32 → qM → Option qM) → Int32 → Int32 → Int32 → Int32 → qM → Option qM
  | 0, _, _, _, _, _, _ => none
  | n + 1, K12, x7, x8, x9, x10, M11 => if x6 ≤ x10 then (K12 x7 x8 x9 M11) else (q_ix x10 40 <| q_lt (q_ix x10 40 <| if (M11.1 28 x10.toNatClampNeg) = a1 then (q_ix x10 40 <| if (M11.1 26 x10.toNatClampNeg) = 0 then (q_cv (f_Md_gather x10 M11) fun M19 => f_Md_heights_47 x6 a1 x4 n K12 x7 x8 x9 (x10 + 1) M19) else (f_Md_heights_47 x6 a1 x4 n K12 x7 x8 x9 (x10 + 1) M11)) else (f_Md_heights_47 x6 a1 x4 n K12 x7 x8 x9 (x10 + 1) M11)) fun (j20 : Option qM) => if (M11.1 28 x10.toNatClampNeg) = a1 then (q_ix x10 40 <| if (M11.1 27 x10.toNatClampNeg) = 0 then (j20) else (q_bp (f_Md_runs M11) fun x24 => q_lt (fun (x25 : Int32) (M26 : qM) => q_lt (fun (x27 : Int32) => q_lt (qsI M26 0 52 0) fun M28 => q_ix (160 + x10) 280 <| q_lt (M28.1 25 (160 + x10).toNatClampNeg) fun x30 => q_lt (fun (x31 : Int32) => q_ix x10 40 <| q_lt (qsI M28 32 x10.toNatClampNeg x31) fun M33 => q_ix x10 40 <| q_ix x10 40 <| q_lt ((M33.1 32 x10.toNatClampNeg) + (M33.1 31 x10.toNatClampNeg)) fun x36 => q_ix x10 40 <| q_lt (fun (x38 : Int32) => f_Md_heights_47 x6 a1 x4 n K12 x36 x30 x38 (x10 + 1) M33) fun (j39 : Int32 → Option qM) => if x9 ≤ ((2 * x30) + (M33.1 31 x10.toNatClampNeg)) then (q_ix x10 40 <| j39 ((2 * x30) + (M33.1 31 x10.toNatClampNeg))) else (j39 x9)) fun (j42 : Int32 → Option qM) => if x4 = 114 then (j42 x30) else (if x27 ≤ x30 then (j42 (x25 + x30)) else (j42 (x25 + x27)))) fun (j45 : Int32 → Option qM) => if x24 = 0 then (j45 x8) else (j45 0)) fun (j47 : Int32 → qM → Option qM) => if x24 = 0 then (j47 x7 M11) else (q_cl (f_Md_lay a1 (x7 + x8) M11) fun x49 M50 => j47 x49 M50))) else (j20))
def f_Md_heights (a1 : Int32) (M : qM) : Option qM := q_bp (f_Md_border a1 5 M) fun x1 => q_ix a1 40 <| q_ix (M.1 3 a1.toNatClampNeg) 40 <| q_lt (M.1 4 (M.1 3 a1.toNatClampNeg).toNatClampNeg) fun x4 => q_lt (qsI M 0 52 0) fun M5 => q_bp (f_Md_behind a1 M5) fun x6 => f_Md_heights_47 x6 a1 x4 1000 (fun (x51 : Int32) (x52 : Int32) (x53 : Int32) (M54 : qM) => q_bp (f_Md_runs M54) fun x55 => q_lt (fun (x56 : Int32) (x57 : Int32) (M58 : qM) => q_lt (fun (x59 : Int32) => q_ix a1 40 <| q_lt (qsI M58 31 a1.toNatClampNeg ((2 * x1) + x59)) fun M61 => some M61) fun (j62 : Int32 → Option qM) => if x4 = 104 then (j62 1) else (if x4 = 114 then (j62 x53) else (j62 (x56 + x57)))) fun (j65 : Int32 → Int32 → qM → Option qM) => if x55 = 0 then (j65 x51 x52 M54) else (q_cl (f_Md_lay a1 (x51 + x52) M54) fun x67 M68 => j65 x67 0 M68)) 0 0 0 (a1 + 1) M5
abbrev rm_Md_heights : Room := { frames := 5, cells := 0, slots := 0, locals := 122 }
set_option maxRecDepth 100000 in
set_option maxHeartbeats 4000000 in
theorem c_Md_heights {l : Launch} {D : va_G} {dA : Nat → ClassId} {b : Nat} (a1 : Int32)  (M : qM) (out : qM) (hf : f_Md_heights a1 M = some out) : CTv l y_Md_heights w_Md_heights rm_Md_heights D (tysX dA) (enM dA b) 38 b (fun _ => True) [qr (some 0), qi a1] M out := by
  refine qm_v (cc := prog_14_method_61_code) (nL := 11) (by decide) rfl (Nat.le_of_ble_eq_true rfl) ?_
  intro p e s m args below meth c Q hx hb hts0 hown hml hK hs hret
  have hts : ∀ w ∈ lw_g, w.before args s = true := fun w h => hts0 w (List.mem_cons_of_mem _ h)
  show QJ p l e rm_Md_heights s m args below meth c (qA 38 b) b 11 0 0 Q (qWd D (enM dA b) 38 b) M 0 [(0, qr (some 0)), (1, qi a1)] []
  unfold f_Md_heights at hf
  refine qj_iconst (v := 2) hx hb d_Md_heights_0 (by decide) ?_
  refine qj_aload_n hx hb d_Md_heights_1 rfl 0 rfl ?_
  refine qj_iload_n hx hb d_Md_heights_2 rfl 1 rfl ?_
  refine qj_iconst (v := 5) hx hb d_Md_heights_3 (by decide) ?_
  have hf9 := q_bp_s hf; clear hf; obtain ⟨x1, hx1, hf⟩ := hf9
  refine qc_Vi (st := [qi 2]) hx hb hml hown hts hK qT_ok hs (c_Md_border a1 5 M _ hx1) ⟨(callB_of 2 hts (q_good tw_668) rfl rfl rfl (hts _ tw_459) (hts _ tw_669) (by decide +kernel) ⟨by decide, by decide⟩), (hts _ tw_670), (hts _ tw_671)⟩ (by decide) rfl rfl rfl rfl (Nat.le_of_ble_eq_true rfl) d_Md_heights_4 ?_
  refine qj_imul hx hb d_Md_heights_7 ?_
  refine qj_istore_n hx hb d_Md_heights_8 rfl (by decide) rfl ?_
  refine qj_aload_n hx hb d_Md_heights_9 rfl 1 rfl ?_
  refine qj_get hx hb hts hin_12 hown hK (by decide) rfl rfl 8 (by decide) (hts _ tw_450) (fun _ h => h) (qr (some 4)) rfl d_Md_heights_10 ?_
  refine qj_aload_n hx hb d_Md_heights_13 rfl 1 rfl ?_
  refine qj_get hx hb hts hin_12 hown hK (by decide) rfl rfl 6 (by decide) (hts _ tw_448) (fun _ h => h) (qr (some 3)) rfl d_Md_heights_14 ?_
  refine qj_iload_n hx hb d_Md_heights_17 rfl 2 rfl ?_
  have hf9 := q_ix_s hf; clear hf; obtain ⟨hi2, hf⟩ := hf9
  refine qj_iald (t0 := 0) hx hb hK (by decide) (fun _ _ => rfl) rfl hi2 d_Md_heights_18 ?_
  have hf9 := q_ix_s hf; clear hf; obtain ⟨hi3, hf⟩ := hf9
  refine qj_iald (t0 := 0) hx hb hK (by decide) (fun _ _ => rfl) rfl hi3 d_Md_heights_19 ?_
  have hf9 := q_lt_s hf; clear hf; obtain ⟨x4, ex4, hf⟩ := hf9
  rw [← ex4]
  refine qj_istore_n hx hb d_Md_heights_20 rfl (by decide) rfl ?_
  refine qj_iconst (v := 0) hx hb d_Md_heights_21 (by decide) ?_
  refine qj_istore hx hb d_Md_heights_22 (by decide) rfl ?_
  refine qj_iconst (v := 0) hx hb d_Md_heights_24 (by decide) ?_
  refine qj_istore hx hb d_Md_heights_25 (by decide) rfl ?_
  refine qj_iconst (v := 0) hx hb d_Md_heights_27 (by decide) ?_
  refine qj_istore hx hb d_Md_heights_28 (by decide) rfl ?_
  refine qj_aload_n hx hb d_Md_heights_30 rfl 5 rfl ?_
  refine qj_iconst (v := 0) hx hb d_Md_heights_31 (by decide) ?_
  have hf9 := q_lt_s hf; clear hf; obtain ⟨M5, eM5, hf⟩ := hf9
  refine qj_puti (ty := .int) hx hb hts hin_12 ty_12 tyok_12 nm_12 hown hK (by decide) rfl rfl 52 (by decide) (hts _ tw_677) (fun _ h => h) rfl (by decide +kernel) rfl rfl (Nat.le_of_ble_eq_true rfl) sm_52 eM5 d_Md_heights_32 ?_
  refine qj_aload_n hx hb d_Md_heights_35 rfl 5 rfl ?_
  refine qj_iload_n hx hb d_Md_heights_36 rfl 6 rfl ?_
  have hf9 := q_bp_s hf; clear hf; obtain ⟨x6, hx6, hf⟩ := hf9
  refine qc_Vi (st := []) hx hb hml hown hts hK qT_ok hs (c_Md_behind a1 M5 _ hx6) ⟨(callB_of 1 hts (q_good tw_482) rfl rfl rfl (hts _ tw_459) (hts _ tw_483) (by decide +kernel) ⟨by decide, by decide⟩), (hts _ tw_484), (hts _ tw_485)⟩ (by decide) rfl rfl rfl rfl (Nat.le_of_ble_eq_true rfl) d_Md_heights_37 ?_
  refine qj_istore hx hb d_Md_heights_40 (by decide) rfl ?_
  refine qj_iload_n hx hb d_Md_heights_42 rfl 7 rfl ?_
  refine qj_iconst (v := 1) hx hb d_Md_heights_43 (by decide) ?_
  refine qj_iadd hx hb d_Md_heights_44 ?_
  refine qj_istore hx hb d_Md_heights_45 (by decide) rfl ?_
  have hL47 : ∀ (n : Nat) (K12 : Int32 → Int32 → Int32 → qM → Option qM), (∀ (x51 : Int32) (x52 : Int32) (x53 : Int32) (M54 : qM), K12 x51 x52 x53 M54 = some out → QJ p l e rm_Md_heights s m args below meth c (qA 38 b) b 11 0 0 Q (qWd D (enM dA b) 38 b) M54 257 [(0, qr (some 0)), (1, qi a1), (2, qi (2 * x1)), (3, qi x4), (4, qi x51), (5, qi x52), (6, qi x53)] []) → ∀ (x7 : Int32) (x8 : Int32) (x9 : Int32) (x10 : Int32) (M11 : qM), f_Md_heights_47 x6 a1 x4 n K12 x7 x8 x9 x10 M11 = some out → QJ p l e rm_Md_heights s m args below meth c (qA 38 b) b 11 0 0 Q (qWd D (enM dA b) 38 b) M11 47 [(0, qr (some 0)), (1, qi a1), (2, qi (2 * x1)), (3, qi x4), (4, qi x7), (5, qi x8), (6, qi x9), (7, qi x6), (8, qi x10)] [] := by
    clear hf
    intro n
    induction n with
    | zero =>
      intro K12 hK12 x7 x8 x9 x10 M11 hf
      exact absurd hf (by simp [f_Md_heights_47])
    | succ n ih47 =>
      intro K12 hK12 x7 x8 x9 x10 M11 hf
      rw [f_Md_heights_47] at hf
      have ih47 := ih47 K12 hK12
      refine qj_iload hx hb d_Md_heights_47 8 rfl ?_
      refine qj_iload hx hb d_Md_heights_49 7 rfl ?_
      refine qj_icmp_ge (tgt := 257) hx hb d_Md_heights_51 (by decide) (fun hc13 => ?_) (fun hc13 => ?_)
      · replace hf := q_if_t hc13 hf
        refine qj_sub [0, 1, 2, 3, 4, 5, 6] rfl ?_
        exact hK12 x7 x8 x9 M11 hf
      · replace hf := q_if_f hc13 hf
        refine qj_aload_n hx hb d_Md_heights_54 rfl 0 rfl ?_
        refine qj_get hx hb hts hin_12 hown hK (by decide) rfl rfl 42 (by decide) (hts _ tw_666) (fun _ h => h) (qr (some 28)) rfl d_Md_heights_55 ?_
        refine qj_iload hx hb d_Md_heights_58 8 rfl ?_
        have hf9 := q_ix_s hf; clear hf; obtain ⟨hi14, hf⟩ := hf9
        refine qj_iald (t0 := 0) hx hb hK (by decide) (fun _ _ => rfl) rfl hi14 d_Md_heights_60 ?_
        refine qj_iload_n hx hb d_Md_heights_61 rfl 1 rfl ?_
        have hf9 := q_lt_s hf; clear hf; obtain ⟨j20, ej20, hf⟩ := hf9
        have hj20 : j20 = some out → QJ p l e rm_Md_heights s m args below meth c (qA 38 b) b 11 0 0 Q (qWd D (enM dA b) 38 b) M11 224 [(0, qr (some 0)), (1, qi a1), (2, qi (2 * x1)), (3, qi x4), (4, qi x7), (5, qi x8), (6, qi x9), (7, qi x6), (8, qi x10)] [] := by
          clear hf
          intro hf
          rw [ej20] at hf
          refine qj_aload_n hx hb d_Md_heights_224 rfl 0 rfl ?_
          refine qj_get hx hb hts hin_12 hown hK (by decide) rfl rfl 42 (by decide) (hts _ tw_666) (fun _ h => h) (qr (some 28)) rfl d_Md_heights_225 ?_
          refine qj_iload hx hb d_Md_heights_228 8 rfl ?_
          have hf9 := q_ix_s hf; clear hf; obtain ⟨hi15, hf⟩ := hf9
          refine qj_iald (t0 := 0) hx hb hK (by decide) (fun _ _ => rfl) rfl hi15 d_Md_heights_230 ?_
          refine qj_iload_n hx hb d_Md_heights_231 rfl 1 rfl ?_
          refine qj_icmp_ne (tgt := 251) hx hb d_Md_heights_232 (by decide) (fun hc16 => ?_) (fun hc16 => ?_)
          · replace hf := q_if_f hc16 hf
            refine qj_iinc (j := 8) (v := x10 + 1) hx hb d_Md_heights_251 rfl rfl (by decide) rfl ?_
            refine qj_goto (tgt := 47) hx hb d_Md_heights_254 (by decide) ?_
            refine qj_sub [1, 2, 3, 4, 5, 6, 7, 8, 0] rfl ?_
            exact ih47 x7 x8 x9 (x10 + 1) M11 hf
          · replace hf := q_if_t hc16 hf
            refine qj_aload_n hx hb d_Md_heights_235 rfl 0 rfl ?_
            refine qj_get hx hb hts hin_12 hown hK (by decide) rfl rfl 40 (by decide) (hts _ tw_664) (fun _ h => h) (qr (some 26)) rfl d_Md_heights_236 ?_
            refine qj_iload hx hb d_Md_heights_239 8 rfl ?_
            have hf9 := q_ix_s hf; clear hf; obtain ⟨hi17, hf⟩ := hf9
            refine qj_zald (t0 := 2) hx hb hK (by decide) (fun _ _ => rfl) rfl hi17 d_Md_heights_241 ?_
            refine qj_if_ne (tgt := 251) hx hb d_Md_heights_242 (by decide) (fun hc18 => ?_) (fun hc18 => ?_)
            · replace hf := q_if_f hc18 hf
              refine qj_iinc (j := 8) (v := x10 + 1) hx hb d_Md_heights_251 rfl rfl (by decide) rfl ?_
              refine qj_goto (tgt := 47) hx hb d_Md_heights_254 (by decide) ?_
              refine qj_sub [1, 2, 3, 4, 5, 6, 7, 8, 0] rfl ?_
              exact ih47 x7 x8 x9 (x10 + 1) M11 hf
            · replace hf := q_if_t hc18 hf
              refine qj_aload_n hx hb d_Md_heights_245 rfl 0 rfl ?_
              refine qj_iload hx hb d_Md_heights_246 8 rfl ?_
              have hf9 := q_cv_s hf; clear hf; obtain ⟨M19, hM19, hf⟩ := hf9
              refine qc_Vv (st := []) hx hb hml hown hts hK qT_ok hs (c_Md_gather x10 M11 _ hM19) ⟨(callB_of 1 hts (q_good tw_705) rfl rfl rfl (hts _ tw_459) (hts _ tw_706) (by decide +kernel) ⟨by decide, by decide⟩), (hts _ tw_707), (hts _ tw_708)⟩ (by decide) rfl rfl rfl rfl (Nat.le_of_ble_eq_true rfl) d_Md_heights_248 ?_
              refine qj_iinc (j := 8) (v := x10 + 1) hx hb d_Md_heights_251 rfl rfl (by decide) rfl ?_
              refine qj_goto (tgt := 47) hx hb d_Md_heights_254 (by decide) ?_
              refine qj_sub [1, 2, 3, 4, 5, 6, 7, 8, 0] rfl ?_
              exact ih47 x7 x8 x9 (x10 + 1) M19 hf
        refine qj_icmp_ne (tgt := 224) hx hb d_Md_heights_62 (by decide) (fun hc21 => ?_) (fun hc21 => ?_)
        · replace hf := q_if_f hc21 hf
          exact hj20  hf
        · replace hf := q_if_t hc21 hf
          refine qj_aload_n hx hb d_Md_heights_65 rfl 0 rfl ?_
          refine qj_get hx hb hts hin_12 hown hK (by decide) rfl rfl 41 (by decide) (hts _ tw_665) (fun _ h => h) (qr (some 27)) rfl d_Md_heights_66 ?_
          refine qj_iload hx hb d_Md_heights_69 8 rfl ?_
          have hf9 := q_ix_s hf; clear hf; obtain ⟨hi22, hf⟩ := hf9
          refine qj_zald (t0 := 2) hx hb hK (by decide) (fun _ _ => rfl) rfl hi22 d_Md_heights_71 ?_
          refine qj_if_eq (tgt := 224) hx hb d_Md_heights_72 (by decide) (fun hc23 => ?_) (fun hc23 => ?_)
          · replace hf := q_if_t hc23 hf
            exact hj20  hf
          · replace hf := q_if_f hc23 hf
            refine qj_aload_n hx hb d_Md_heights_75 rfl 0 rfl ?_
            have hf9 := q_bp_s hf; clear hf; obtain ⟨x24, hx24, hf⟩ := hf9
            refine qc_Vi (st := []) hx hb hml hown hts hK qT_ok hs (c_Md_runs  M11 _ hx24) ⟨(callB_of 0 hts (q_good tw_709) rfl rfl rfl (hts _ tw_459) (hts _ tw_710) (by decide +kernel) ⟨by decide, by decide⟩), (hts _ tw_711), (hts _ tw_712)⟩ (by decide) rfl rfl rfl rfl (Nat.le_of_ble_eq_true rfl) d_Md_heights_76 ?_
            refine qj_istore hx hb d_Md_heights_79 (by decide) rfl ?_
            refine qj_iload hx hb d_Md_heights_81 0 rfl ?_
            have hf9 := q_lt_s hf; clear hf; obtain ⟨j47, ej47, hf⟩ := hf9
            have hj47 : ∀ (x25 : Int32) (M26 : qM), j47 x25 M26 = some out → QJ p l e rm_Md_heights s m args below meth c (qA 38 b) b 11 0 0 Q (qWd D (enM dA b) 38 b) M26 98 [(0, qr (some 0)), (1, qi a1), (2, qi (2 * x1)), (3, qi x4), (4, qi x25), (5, qi x8), (6, qi x9), (7, qi x6), (8, qi x10), (9, qi x24)] [] := by
              clear hf
              intro x25 M26 hf
              rw [ej47] at hf
              refine qj_iload hx hb d_Md_heights_98 9 rfl ?_
              have hf9 := q_lt_s hf; clear hf; obtain ⟨j45, ej45, hf⟩ := hf9
              have hj45 : ∀ (x27 : Int32), j45 x27 = some out → QJ p l e rm_Md_heights s m args below meth c (qA 38 b) b 11 0 0 Q (qWd D (enM dA b) 38 b) M26 109 [(0, qr (some 0)), (1, qi a1), (2, qi (2 * x1)), (3, qi x4), (4, qi x25), (6, qi x9), (7, qi x6), (8, qi x10)] [qi x27] := by
                clear hf
                intro x27 hf
                rw [ej45] at hf
                refine qj_istore hx hb d_Md_heights_109 (by decide) rfl ?_
                refine qj_aload_n hx hb d_Md_heights_111 rfl 1 rfl ?_
                refine qj_iconst (v := 0) hx hb d_Md_heights_112 (by decide) ?_
                have hf9 := q_lt_s hf; clear hf; obtain ⟨M28, eM28, hf⟩ := hf9
                refine qj_puti (ty := .int) hx hb hts hin_12 ty_12 tyok_12 nm_12 hown hK (by decide) rfl rfl 52 (by decide) (hts _ tw_677) (fun _ h => h) rfl (by decide +kernel) rfl rfl (Nat.le_of_ble_eq_true rfl) sm_52 eM28 d_Md_heights_113 ?_
                refine qj_aload_n hx hb d_Md_heights_116 rfl 1 rfl ?_
                refine qj_get hx hb hts hin_12 hown hK (by decide) rfl rfl 36 (by decide) (hts _ tw_642) (fun _ h => h) (qr (some 25)) rfl d_Md_heights_117 ?_
                refine qj_sipush (v := 160) hx hb d_Md_heights_120 (by decide) ?_
                refine qj_iload hx hb d_Md_heights_123 8 rfl ?_
                refine qj_iadd hx hb d_Md_heights_125 ?_
                have hf9 := q_ix_s hf; clear hf; obtain ⟨hi29, hf⟩ := hf9
                refine qj_iald (t0 := 0) hx hb hK (by decide) (fun _ _ => rfl) rfl hi29 d_Md_heights_126 ?_
                have hf9 := q_lt_s hf; clear hf; obtain ⟨x30, ex30, hf⟩ := hf9
                rw [← ex30]
                refine qj_istore hx hb d_Md_heights_127 (by decide) rfl ?_
                refine qj_aload_n hx hb d_Md_heights_129 rfl 2 rfl ?_
                refine qj_get hx hb hts hin_12 hown hK (by decide) rfl rfl 46 (by decide) (hts _ tw_713) (fun _ h => h) (qr (some 32)) rfl d_Md_heights_130 ?_
                refine qj_iload hx hb d_Md_heights_133 9 rfl ?_
                refine qj_iload_n hx hb d_Md_heights_135 rfl 5 rfl ?_
                refine qj_bipush (v := 114) hx hb d_Md_heights_136 (by decide) ?_
                have hf9 := q_lt_s hf; clear hf; obtain ⟨j42, ej42, hf⟩ := hf9
                have hj42 : ∀ (x31 : Int32), j42 x31 = some out → QJ p l e rm_Md_heights s m args below meth c (qA 38 b) b 11 0 0 Q (qWd D (enM dA b) 38 b) M28 163 [(0, qr (some 0)), (1, qi a1), (2, qi (2 * x1)), (3, qi x4), (6, qi x9), (7, qi x6), (8, qi x10), (10, qi x30)] [qi x31, qi x10, qr (some 32)] := by
                  clear hf
                  intro x31 hf
                  rw [ej42] at hf
                  have hf9 := q_ix_s hf; clear hf; obtain ⟨hi32, hf⟩ := hf9
                  have hf9 := q_lt_s hf; clear hf; obtain ⟨M33, eM33, hf⟩ := hf9
                  refine qj_iast (t0 := 0) hx hb hK (by decide) (fun _ _ => rfl) rfl hi32 eM33 d_Md_heights_163 ?_
                  refine qj_aload_n hx hb d_Md_heights_164 rfl 0 rfl ?_
                  refine qj_get hx hb hts hin_12 hown hK (by decide) rfl rfl 46 (by decide) (hts _ tw_713) (fun _ h => h) (qr (some 32)) rfl d_Md_heights_165 ?_
                  refine qj_iload hx hb d_Md_heights_168 6 rfl ?_
                  have hf9 := q_ix_s hf; clear hf; obtain ⟨hi34, hf⟩ := hf9
                  refine qj_iald (t0 := 0) hx hb hK (by decide) (fun _ _ => rfl) rfl hi34 d_Md_heights_170 ?_
                  refine qj_aload_n hx hb d_Md_heights_171 rfl 0 rfl ?_
                  refine qj_get hx hb hts hin_12 hown hK (by decide) rfl rfl 45 (by decide) (hts _ tw_714) (fun _ h => h) (qr (some 31)) rfl d_Md_heights_172 ?_
                  refine qj_iload hx hb d_Md_heights_175 6 rfl ?_
                  have hf9 := q_ix_s hf; clear hf; obtain ⟨hi35, hf⟩ := hf9
                  refine qj_iald (t0 := 0) hx hb hK (by decide) (fun _ _ => rfl) rfl hi35 d_Md_heights_177 ?_
                  refine qj_iadd hx hb d_Md_heights_178 ?_
                  have hf9 := q_lt_s hf; clear hf; obtain ⟨x36, ex36, hf⟩ := hf9
                  rw [← ex36]
                  refine qj_istore hx hb d_Md_heights_179 (by decide) rfl ?_
                  refine qj_iload hx hb d_Md_heights_181 5 rfl ?_
                  refine qj_iconst (v := 2) hx hb d_Md_heights_183 (by decide) ?_
                  refine qj_iload hx hb d_Md_heights_184 8 rfl ?_
                  refine qj_imul hx hb d_Md_heights_186 ?_
                  refine qj_aload_n hx hb d_Md_heights_187 rfl 1 rfl ?_
                  refine qj_get hx hb hts hin_12 hown hK (by decide) rfl rfl 45 (by decide) (hts _ tw_714) (fun _ h => h) (qr (some 31)) rfl d_Md_heights_188 ?_
                  refine qj_iload hx hb d_Md_heights_191 7 rfl ?_
                  have hf9 := q_ix_s hf; clear hf; obtain ⟨hi37, hf⟩ := hf9
                  refine qj_iald (t0 := 0) hx hb hK (by decide) (fun _ _ => rfl) rfl hi37 d_Md_heights_193 ?_
                  refine qj_iadd hx hb d_Md_heights_194 ?_
                  have hf9 := q_lt_s hf; clear hf; obtain ⟨j39, ej39, hf⟩ := hf9
                  have hj39 : ∀ (x38 : Int32), j39 x38 = some out → QJ p l e rm_Md_heights s m args below meth c (qA 38 b) b 11 0 0 Q (qWd D (enM dA b) 38 b) M33 215 [(0, qr (some 0)), (1, qi a1), (2, qi (2 * x1)), (3, qi x4), (4, qi x36), (7, qi x6), (8, qi x10), (10, qi x30)] [qi x38] := by
                    clear hf
                    intro x38 hf
                    rw [ej39] at hf
                    refine qj_istore hx hb d_Md_heights_215 (by decide) rfl ?_
                    refine qj_iload hx hb d_Md_heights_217 8 rfl ?_
                    refine qj_istore hx hb d_Md_heights_219 (by decide) rfl ?_
                    refine qj_goto (tgt := 251) hx hb d_Md_heights_221 (by decide) ?_
                    refine qj_iinc (j := 8) (v := x10 + 1) hx hb d_Md_heights_251 rfl rfl (by decide) rfl ?_
                    refine qj_goto (tgt := 47) hx hb d_Md_heights_254 (by decide) ?_
                    refine qj_sub [3, 4, 5, 6, 7, 1, 2, 8, 0] rfl ?_
                    exact ih47 x36 x30 x38 (x10 + 1) M33 hf
                  refine qj_icmp_le (tgt := 203) hx hb d_Md_heights_195 (by decide) (fun hc40 => ?_) (fun hc40 => ?_)
                  · replace hf := q_if_t hc40 hf
                    refine qj_iconst (v := 2) hx hb d_Md_heights_203 (by decide) ?_
                    refine qj_iload hx hb d_Md_heights_204 8 rfl ?_
                    refine qj_imul hx hb d_Md_heights_206 ?_
                    refine qj_aload_n hx hb d_Md_heights_207 rfl 1 rfl ?_
                    refine qj_get hx hb hts hin_12 hown hK (by decide) rfl rfl 45 (by decide) (hts _ tw_714) (fun _ h => h) (qr (some 31)) rfl d_Md_heights_208 ?_
                    refine qj_iload hx hb d_Md_heights_211 7 rfl ?_
                    have hf9 := q_ix_s hf; clear hf; obtain ⟨hi41, hf⟩ := hf9
                    refine qj_iald (t0 := 0) hx hb hK (by decide) (fun _ _ => rfl) rfl hi41 d_Md_heights_213 ?_
                    refine qj_iadd hx hb d_Md_heights_214 ?_
                    refine qj_sub [1, 2, 3, 4, 0, 6, 7, 8] rfl ?_
                    exact hj39 ((2 * x30) + (M33.1 31 x10.toNatClampNeg)) hf
                  · replace hf := q_if_f hc40 hf
                    refine qj_iload hx hb d_Md_heights_198 5 rfl ?_
                    refine qj_goto (tgt := 215) hx hb d_Md_heights_200 (by decide) ?_
                    refine qj_sub [1, 2, 3, 4, 0, 6, 7, 8] rfl ?_
                    exact hj39 x9 hf
                refine qj_icmp_ne (tgt := 146) hx hb d_Md_heights_138 (by decide) (fun hc43 => ?_) (fun hc43 => ?_)
                · replace hf := q_if_f hc43 hf
                  refine qj_iload hx hb d_Md_heights_146 6 rfl ?_
                  refine qj_iload hx hb d_Md_heights_148 1 rfl ?_
                  refine qj_iload hx hb d_Md_heights_150 0 rfl ?_
                  refine qj_icmp_le (tgt := 160) hx hb d_Md_heights_152 (by decide) (fun hc44 => ?_) (fun hc44 => ?_)
                  · replace hf := q_if_t hc44 hf
                    refine qj_iload hx hb d_Md_heights_160 0 rfl ?_
                    refine qj_iadd hx hb d_Md_heights_162 ?_
                    refine qj_sub [2, 3, 4, 5, 7, 8, 9, 0] rfl ?_
                    exact hj42 (x25 + x30) hf
                  · replace hf := q_if_f hc44 hf
                    refine qj_iload hx hb d_Md_heights_155 1 rfl ?_
                    refine qj_goto (tgt := 162) hx hb d_Md_heights_157 (by decide) ?_
                    refine qj_iadd hx hb d_Md_heights_162 ?_
                    refine qj_sub [2, 3, 4, 5, 7, 8, 9, 0] rfl ?_
                    exact hj42 (x25 + x27) hf
                · replace hf := q_if_t hc43 hf
                  refine qj_iload hx hb d_Md_heights_141 0 rfl ?_
                  refine qj_goto (tgt := 163) hx hb d_Md_heights_143 (by decide) ?_
                  refine qj_sub [2, 3, 4, 5, 7, 8, 9, 0] rfl ?_
                  exact hj42 x30 hf
              refine qj_if_eq (tgt := 107) hx hb d_Md_heights_100 (by decide) (fun hc46 => ?_) (fun hc46 => ?_)
              · replace hf := q_if_t hc46 hf
                refine qj_iload hx hb d_Md_heights_107 5 rfl ?_
                refine qj_sub [0, 1, 2, 3, 4, 6, 7, 8] rfl ?_
                exact hj45 x8 hf
              · replace hf := q_if_f hc46 hf
                refine qj_iconst (v := 0) hx hb d_Md_heights_103 (by decide) ?_
                refine qj_goto (tgt := 109) hx hb d_Md_heights_104 (by decide) ?_
                refine qj_sub [0, 1, 2, 3, 4, 6, 7, 8] rfl ?_
                exact hj45 0 hf
            refine qj_if_eq (tgt := 98) hx hb d_Md_heights_83 (by decide) (fun hc48 => ?_) (fun hc48 => ?_)
            · replace hf := q_if_t hc48 hf
              refine qj_sub [1, 2, 3, 4, 5, 6, 7, 8, 9, 0] rfl ?_
              exact hj47 x7 M11 hf
            · replace hf := q_if_f hc48 hf
              refine qj_aload_n hx hb d_Md_heights_86 rfl 1 rfl ?_
              refine qj_iload_n hx hb d_Md_heights_87 rfl 2 rfl ?_
              refine qj_iload hx hb d_Md_heights_88 5 rfl ?_
              refine qj_iload hx hb d_Md_heights_90 6 rfl ?_
              refine qj_iadd hx hb d_Md_heights_92 ?_
              have hf9 := q_cl_s hf; clear hf; obtain ⟨x49, M50, hx49, hf⟩ := hf9
              refine qc_Vi (st := []) hx hb hml hown hts hK qT_ok hs (c_Md_lay a1 (x7 + x8) M11 _ hx49) ⟨(callB_of 2 hts (q_good tw_715) rfl rfl rfl (hts _ tw_459) (hts _ tw_716) (by decide +kernel) ⟨by decide, by decide⟩), (hts _ tw_717), (hts _ tw_718)⟩ (by decide) rfl rfl rfl rfl (Nat.le_of_ble_eq_true rfl) d_Md_heights_93 ?_
              refine qj_istore hx hb d_Md_heights_96 (by decide) rfl ?_
              refine qj_sub [2, 3, 4, 5, 0, 6, 7, 8, 9, 1] rfl ?_
              exact hj47 x49 M50 hf
  refine qj_sub [7, 8, 6, 5, 4, 3, 2, 1, 0] rfl ?_
  refine hL47 _ _ (fun x51 x52 x53 M54 hf9 => ?_) 0 0 0 (a1 + 1) M5 hf
  clear hf; have hf := hf9; clear hf9
  refine qj_aload_n hx hb d_Md_heights_257 rfl 0 rfl ?_
  have hf9 := q_bp_s hf; clear hf; obtain ⟨x55, hx55, hf⟩ := hf9
  refine qc_Vi (st := []) hx hb hml hown hts hK qT_ok hs (c_Md_runs  M54 _ hx55) ⟨(callB_of 0 hts (q_good tw_709) rfl rfl rfl (hts _ tw_459) (hts _ tw_710) (by decide +kernel) ⟨by decide, by decide⟩), (hts _ tw_711), (hts _ tw_712)⟩ (by decide) rfl rfl rfl rfl (Nat.le_of_ble_eq_true rfl) d_Md_heights_258 ?_
  have hf9 := q_lt_s hf; clear hf; obtain ⟨j65, ej65, hf⟩ := hf9
  have hj65 : ∀ (x56 : Int32) (x57 : Int32) (M58 : qM), j65 x56 x57 M58 = some out → QJ p l e rm_Md_heights s m args below meth c (qA 38 b) b 11 0 0 Q (qWd D (enM dA b) 38 b) M58 279 [(0, qr (some 0)), (1, qi a1), (2, qi (2 * x1)), (3, qi x4), (4, qi x56), (5, qi x57), (6, qi x53)] [] := by
    clear hf
    intro x56 x57 M58 hf
    rw [ej65] at hf
    refine qj_aload_n hx hb d_Md_heights_279 rfl 0 rfl ?_
    refine qj_get hx hb hts hin_12 hown hK (by decide) rfl rfl 45 (by decide) (hts _ tw_714) (fun _ h => h) (qr (some 31)) rfl d_Md_heights_280 ?_
    refine qj_iload_n hx hb d_Md_heights_283 rfl 1 rfl ?_
    refine qj_iload_n hx hb d_Md_heights_284 rfl 2 rfl ?_
    refine qj_iload_n hx hb d_Md_heights_285 rfl 3 rfl ?_
    refine qj_bipush (v := 104) hx hb d_Md_heights_286 (by decide) ?_
    have hf9 := q_lt_s hf; clear hf; obtain ⟨j62, ej62, hf⟩ := hf9
    have hj62 : ∀ (x59 : Int32), j62 x59 = some out → QJ p l e rm_Md_heights s m args below meth c (qA 38 b) b 11 0 0 Q (qWd D (enM dA b) 38 b) M58 311 [] [qi x59, qi (2 * x1), qi a1, qr (some 31)] := by
      clear hf
      intro x59 hf
      rw [ej62] at hf
      refine qj_iadd hx hb d_Md_heights_311 ?_
      have hf9 := q_ix_s hf; clear hf; obtain ⟨hi60, hf⟩ := hf9
      have hf9 := q_lt_s hf; clear hf; obtain ⟨M61, eM61, hf⟩ := hf9
      refine qj_iast (t0 := 0) hx hb hK (by decide) (fun _ _ => rfl) rfl hi60 eM61 d_Md_heights_312 ?_
      exact hret _ _ _ d_Md_heights_313 (Option.some.inj hf)
    refine qj_icmp_ne (tgt := 295) hx hb d_Md_heights_288 (by decide) (fun hc63 => ?_) (fun hc63 => ?_)
    · replace hf := q_if_f hc63 hf
      refine qj_iload_n hx hb d_Md_heights_295 rfl 3 rfl ?_
      refine qj_bipush (v := 114) hx hb d_Md_heights_296 (by decide) ?_
      refine qj_icmp_ne (tgt := 306) hx hb d_Md_heights_298 (by decide) (fun hc64 => ?_) (fun hc64 => ?_)
      · replace hf := q_if_f hc64 hf
        refine qj_iload hx hb d_Md_heights_306 4 rfl ?_
        refine qj_iload hx hb d_Md_heights_308 5 rfl ?_
        refine qj_iadd hx hb d_Md_heights_310 ?_
        refine qj_sub [] rfl ?_
        exact hj62 (x56 + x57) hf
      · replace hf := q_if_t hc64 hf
        refine qj_iload hx hb d_Md_heights_301 6 rfl ?_
        refine qj_goto (tgt := 311) hx hb d_Md_heights_303 (by decide) ?_
        refine qj_sub [] rfl ?_
        exact hj62 x53 hf
    · replace hf := q_if_t hc63 hf
      refine qj_iconst (v := 1) hx hb d_Md_heights_291 (by decide) ?_
      refine qj_goto (tgt := 311) hx hb d_Md_heights_292 (by decide) ?_
      refine qj_sub [] rfl ?_
      exact hj62 1 hf
  refine qj_if_eq (tgt := 279) hx hb d_Md_heights_261 (by decide) (fun hc66 => ?_) (fun hc66 => ?_)
  · replace hf := q_if_t hc66 hf
    exact hj65 x51 x52 M54 hf
  · replace hf := q_if_f hc66 hf
    refine qj_aload_n hx hb d_Md_heights_264 rfl 0 rfl ?_
    refine qj_iload_n hx hb d_Md_heights_265 rfl 1 rfl ?_
    refine qj_iload hx hb d_Md_heights_266 4 rfl ?_
    refine qj_iload hx hb d_Md_heights_268 5 rfl ?_
    refine qj_iadd hx hb d_Md_heights_270 ?_
    have hf9 := q_cl_s hf; clear hf; obtain ⟨x67, M68, hx67, hf⟩ := hf9
    refine qc_Vi (st := []) hx hb hml hown hts hK qT_ok hs (c_Md_lay a1 (x51 + x52) M54 _ hx67) ⟨(callB_of 2 hts (q_good tw_715) rfl rfl rfl (hts _ tw_459) (hts _ tw_716) (by decide +kernel) ⟨by decide, by decide⟩), (hts _ tw_717), (hts _ tw_718)⟩ (by decide) rfl rfl rfl rfl (Nat.le_of_ble_eq_true rfl) d_Md_heights_271 ?_
    refine qj_istore hx hb d_Md_heights_274 (by decide) rfl ?_
    refine qj_iconst (v := 0) hx hb d_Md_heights_276 (by decide) ?_
    refine qj_istore hx hb d_Md_heights_277 (by decide) rfl ?_
    refine qj_sub [2, 3, 4, 5, 1, 0, 6] rfl ?_
    exact hj65 x67 0 M68 hf
theorem d_Md_places_0 : decode prog_14_method_69_code 0 = .ok (.aload_n 0, 1) := by decide +kernel
theorem d_Md_places_1 : decode prog_14_method_69_code 1 = .ok (.getfield 104, 3) := by decide +kernel
theorem d_Md_places_4 : decode prog_14_method_69_code 4 = .ok (.iconst 0, 1) := by decide +kernel
theorem d_Md_places_5 : decode prog_14_method_69_code 5 = .ok (.iconst 0, 1) := by decide +kernel
theorem d_Md_places_6 : decode prog_14_method_69_code 6 = .ok (.iastore, 1) := by decide +kernel
theorem d_Md_places_7 : decode prog_14_method_69_code 7 = .ok (.iconst 1, 1) := by decide +kernel
theorem d_Md_places_8 : decode prog_14_method_69_code 8 = .ok (.istore_n 1, 1) := by decide +kernel
theorem d_Md_places_9 : decode prog_14_method_69_code 9 = .ok (.iload_n 1, 1) := by decide +kernel
theorem d_Md_places_10 : decode prog_14_method_69_code 10 = .ok (.aload_n 0, 1) := by decide +kernel
theorem d_Md_places_11 : decode prog_14_method_69_code 11 = .ok (.getfield 142, 3) := by decide +kernel
theorem d_Md_places_14 : decode prog_14_method_69_code 14 = .ok (.if_icmp .ge 50, 3) := by decide +kernel
theorem d_Md_places_17 : decode prog_14_method_69_code 17 = .ok (.aload_n 0, 1) := by decide +kernel
theorem d_Md_places_18 : decode prog_14_method_69_code 18 = .ok (.getfield 89, 3) := by decide +kernel
theorem d_Md_places_21 : decode prog_14_method_69_code 21 = .ok (.iload_n 1, 1) := by decide +kernel
theorem d_Md_places_22 : decode prog_14_method_69_code 22 = .ok (.baload, 1) := by decide +kernel
theorem d_Md_places_23 : decode prog_14_method_69_code 23 = .ok (.ifCond .eq 35, 3) := by decide +kernel
theorem d_Md_places_26 : decode prog_14_method_69_code 26 = .ok (.aload_n 0, 1) := by decide +kernel
theorem d_Md_places_27 : decode prog_14_method_69_code 27 = .ok (.getfield 104, 3) := by decide +kernel
theorem d_Md_places_30 : decode prog_14_method_69_code 30 = .ok (.iload_n 1, 1) := by decide +kernel
theorem d_Md_places_31 : decode prog_14_method_69_code 31 = .ok (.dup2, 1) := by decide +kernel
theorem d_Md_places_32 : decode prog_14_method_69_code 32 = .ok (.iaload, 1) := by decide +kernel
theorem d_Md_places_33 : decode prog_14_method_69_code 33 = .ok (.aload_n 0, 1) := by decide +kernel
theorem d_Md_places_34 : decode prog_14_method_69_code 34 = .ok (.getfield 104, 3) := by decide +kernel
theorem d_Md_places_37 : decode prog_14_method_69_code 37 = .ok (.aload_n 0, 1) := by decide +kernel
theorem d_Md_places_38 : decode prog_14_method_69_code 38 = .ok (.getfield 92, 3) := by decide +kernel
theorem d_Md_places_41 : decode prog_14_method_69_code 41 = .ok (.iload_n 1, 1) := by decide +kernel
theorem d_Md_places_42 : decode prog_14_method_69_code 42 = .ok (.iaload, 1) := by decide +kernel
theorem d_Md_places_43 : decode prog_14_method_69_code 43 = .ok (.iaload, 1) := by decide +kernel
theorem d_Md_places_44 : decode prog_14_method_69_code 44 = .ok (.aload_n 0, 1) := by decide +kernel
theorem d_Md_places_45 : decode prog_14_method_69_code 45 = .ok (.aload_n 0, 1) := by decide +kernel
theorem d_Md_places_46 : decode prog_14_method_69_code 46 = .ok (.getfield 92, 3) := by decide +kernel
theorem d_Md_places_49 : decode prog_14_method_69_code 49 = .ok (.iload_n 1, 1) := by decide +kernel
theorem d_Md_places_50 : decode prog_14_method_69_code 50 = .ok (.iaload, 1) := by decide +kernel
theorem d_Md_places_51 : decode prog_14_method_69_code 51 = .ok (.iconst 5, 1) := by decide +kernel
theorem d_Md_places_52 : decode prog_14_method_69_code 52 = .ok (.invokevirtual 325, 3) := by decide +kernel
theorem d_Md_places_55 : decode prog_14_method_69_code 55 = .ok (.iadd, 1) := by decide +kernel
theorem d_Md_places_56 : decode prog_14_method_69_code 56 = .ok (.iadd, 1) := by decide +kernel
theorem d_Md_places_57 : decode prog_14_method_69_code 57 = .ok (.iastore, 1) := by decide +kernel
theorem d_Md_places_58 : decode prog_14_method_69_code 58 = .ok (.iinc 1 1, 3) := by decide +kernel
theorem d_Md_places_61 : decode prog_14_method_69_code 61 = .ok (.goto (-52), 3) := by decide +kernel
theorem d_Md_places_64 : decode prog_14_method_69_code 64 = .ok (.iconst 0, 1) := by decide +kernel
theorem d_Md_places_65 : decode prog_14_method_69_code 65 = .ok (.istore_n 1, 1) := by decide +kernel
theorem d_Md_places_66 : decode prog_14_method_69_code 66 = .ok (.iload_n 1, 1) := by decide +kernel
theorem d_Md_places_67 : decode prog_14_method_69_code 67 = .ok (.aload_n 0, 1) := by decide +kernel
theorem d_Md_places_68 : decode prog_14_method_69_code 68 = .ok (.getfield 154, 3) := by decide +kernel
theorem d_Md_places_71 : decode prog_14_method_69_code 71 = .ok (.if_icmp .ge 50, 3) := by decide +kernel
theorem d_Md_places_74 : decode prog_14_method_69_code 74 = .ok (.aload_n 0, 1) := by decide +kernel
theorem d_Md_places_75 : decode prog_14_method_69_code 75 = .ok (.getfield 107, 3) := by decide +kernel
theorem d_Md_places_78 : decode prog_14_method_69_code 78 = .ok (.iload_n 1, 1) := by decide +kernel
theorem d_Md_places_79 : decode prog_14_method_69_code 79 = .ok (.baload, 1) := by decide +kernel
theorem d_Md_places_80 : decode prog_14_method_69_code 80 = .ok (.ifCond .eq 35, 3) := by decide +kernel
theorem d_Md_places_83 : decode prog_14_method_69_code 83 = .ok (.aload_n 0, 1) := by decide +kernel
theorem d_Md_places_84 : decode prog_14_method_69_code 84 = .ok (.getfield 113, 3) := by decide +kernel
theorem d_Md_places_87 : decode prog_14_method_69_code 87 = .ok (.iload_n 1, 1) := by decide +kernel
theorem d_Md_places_88 : decode prog_14_method_69_code 88 = .ok (.dup2, 1) := by decide +kernel
theorem d_Md_places_89 : decode prog_14_method_69_code 89 = .ok (.iaload, 1) := by decide +kernel
theorem d_Md_places_90 : decode prog_14_method_69_code 90 = .ok (.aload_n 0, 1) := by decide +kernel
theorem d_Md_places_91 : decode prog_14_method_69_code 91 = .ok (.getfield 104, 3) := by decide +kernel
theorem d_Md_places_94 : decode prog_14_method_69_code 94 = .ok (.aload_n 0, 1) := by decide +kernel
theorem d_Md_places_95 : decode prog_14_method_69_code 95 = .ok (.getfield 116, 3) := by decide +kernel
theorem d_Md_places_98 : decode prog_14_method_69_code 98 = .ok (.iload_n 1, 1) := by decide +kernel
theorem d_Md_places_99 : decode prog_14_method_69_code 99 = .ok (.iaload, 1) := by decide +kernel
theorem d_Md_places_100 : decode prog_14_method_69_code 100 = .ok (.iaload, 1) := by decide +kernel
theorem d_Md_places_101 : decode prog_14_method_69_code 101 = .ok (.aload_n 0, 1) := by decide +kernel
theorem d_Md_places_102 : decode prog_14_method_69_code 102 = .ok (.aload_n 0, 1) := by decide +kernel
theorem d_Md_places_103 : decode prog_14_method_69_code 103 = .ok (.getfield 116, 3) := by decide +kernel
theorem d_Md_places_106 : decode prog_14_method_69_code 106 = .ok (.iload_n 1, 1) := by decide +kernel
theorem d_Md_places_107 : decode prog_14_method_69_code 107 = .ok (.iaload, 1) := by decide +kernel
theorem d_Md_places_108 : decode prog_14_method_69_code 108 = .ok (.iconst 5, 1) := by decide +kernel
theorem d_Md_places_109 : decode prog_14_method_69_code 109 = .ok (.invokevirtual 325, 3) := by decide +kernel
theorem d_Md_places_112 : decode prog_14_method_69_code 112 = .ok (.iadd, 1) := by decide +kernel
theorem d_Md_places_113 : decode prog_14_method_69_code 113 = .ok (.iadd, 1) := by decide +kernel
theorem d_Md_places_114 : decode prog_14_method_69_code 114 = .ok (.iastore, 1) := by decide +kernel
theorem d_Md_places_115 : decode prog_14_method_69_code 115 = .ok (.iinc 1 1, 3) := by decide +kernel
theorem d_Md_places_118 : decode prog_14_method_69_code 118 = .ok (.goto (-52), 3) := by decide +kernel
theorem d_Md_places_121 : decode prog_14_method_69_code 121 = .ok (.return_, 1) := by decide +kernel
def f_Md_places_9  : Nat → (qM → Option qM) → Int32 → qM → Option qM
  | 0, _, _, _ => none
  | n + 1, K5, x3, M4 => if (M4.1 0 5) ≤ x3 then (K5 M4) else (q_ix x3 40 <| if (M4.1 27 x3.toNatClampNeg) = 0 then (f_Md_places_9 n K5 (x3 + 1) M4) else (q_ix x3 40 <| q_ix x3 40 <| q_ix (M4.1 28 x3.toNatClampNeg) 40 <| q_ix x3 40 <| q_bp (f_Md_border (M4.1 28 x3.toNatClampNeg) 5 M4) fun x13 => q_ix x3 40 <| q_lt (qsI M4 32 x3.toNatClampNeg ((M4.1 32 x3.toNatClampNeg) + ((M4.1 32 (M4.1 28 x3.toNatClampNeg).toNatClampNeg) + x13))) fun M15 => f_Md_places_9 n K5 (x3 + 1) M15))
def f_Md_places_66  : Nat → (qM → Option qM) → Int32 → qM → Option qM
  | 0, _, _, _ => none
  | n + 1, K19, x17, M18 => if (M18.1 0 17) ≤ x17 then (K19 M18) else (q_ix x17 160 <| if (M18.1 33 x17.toNatClampNeg) = 0 then (f_Md_places_66 n K19 (x17 + 1) M18) else (q_ix x17 160 <| q_ix x17 160 <| q_ix (M18.1 36 x17.toNatClampNeg) 40 <| q_ix x17 160 <| q_bp (f_Md_border (M18.1 36 x17.toNatClampNeg) 5 M18) fun x27 => q_ix x17 160 <| q_lt (qsI M18 35 x17.toNatClampNeg ((M18.1 35 x17.toNatClampNeg) + ((M18.1 32 (M18.1 36 x17.toNatClampNeg).toNatClampNeg) + x27))) fun M29 => f_Md_places_66 n K19 (x17 + 1) M29))
def f_Md_places  (M : qM) : Option qM := q_ix (0 : Int32) 40 <| q_lt (qsI M 32 (0 : Int32).toNatClampNeg 0) fun M2 => f_Md_places_9 1000 (fun (M16 : qM) => f_Md_places_66 1000 (fun (M30 : qM) => some M30) 0 M16) 1 M2
abbrev rm_Md_places : Room := { frames := 1, cells := 0, slots := 0, locals := 22 }
set_option maxRecDepth 100000 in
set_option maxHeartbeats 4000000 in
theorem c_Md_places {l : Launch} {D : va_G} {dA : Nat → ClassId} {b : Nat}   (M : qM) (out : qM) (hf : f_Md_places M = some out) : CTv l y_Md_places w_Md_places rm_Md_places D (tysX dA) (enM dA b) 38 b (fun _ => True) [qr (some 0)] M out := by
  refine qm_v (cc := prog_14_method_69_code) (nL := 2) (by decide) rfl (Nat.le_of_ble_eq_true rfl) ?_
  intro p e s m args below meth c Q hx hb hts0 hown hml hK hs hret
  have hts : ∀ w ∈ lw_g, w.before args s = true := fun w h => hts0 w (List.mem_cons_of_mem _ h)
  show QJ p l e rm_Md_places s m args below meth c (qA 38 b) b 2 0 0 Q (qWd D (enM dA b) 38 b) M 0 [(0, qr (some 0))] []
  unfold f_Md_places at hf
  refine qj_aload_n hx hb d_Md_places_0 rfl 0 rfl ?_
  refine qj_get hx hb hts hin_12 hown hK (by decide) rfl rfl 46 (by decide) (hts _ tw_713) (fun _ h => h) (qr (some 32)) rfl d_Md_places_1 ?_
  refine qj_iconst (v := 0) hx hb d_Md_places_4 (by decide) ?_
  refine qj_iconst (v := 0) hx hb d_Md_places_5 (by decide) ?_
  have hf9 := q_ix_s hf; clear hf; obtain ⟨hi1, hf⟩ := hf9
  have hf9 := q_lt_s hf; clear hf; obtain ⟨M2, eM2, hf⟩ := hf9
  refine qj_iast (t0 := 0) hx hb hK (by decide) (fun _ _ => rfl) rfl hi1 eM2 d_Md_places_6 ?_
  refine qj_iconst (v := 1) hx hb d_Md_places_7 (by decide) ?_
  refine qj_istore_n hx hb d_Md_places_8 rfl (by decide) rfl ?_
  have hL9 : ∀ (n : Nat) (K5 : qM → Option qM), (∀ (M16 : qM), K5 M16 = some out → QJ p l e rm_Md_places s m args below meth c (qA 38 b) b 2 0 0 Q (qWd D (enM dA b) 38 b) M16 64 [(0, qr (some 0))] []) → ∀ (x3 : Int32) (M4 : qM), f_Md_places_9 n K5 x3 M4 = some out → QJ p l e rm_Md_places s m args below meth c (qA 38 b) b 2 0 0 Q (qWd D (enM dA b) 38 b) M4 9 [(0, qr (some 0)), (1, qi x3)] [] := by
    clear hf
    intro n
    induction n with
    | zero =>
      intro K5 hK5 x3 M4 hf
      exact absurd hf (by simp [f_Md_places_9])
    | succ n ih9 =>
      intro K5 hK5 x3 M4 hf
      rw [f_Md_places_9] at hf
      have ih9 := ih9 K5 hK5
      refine qj_iload_n hx hb d_Md_places_9 rfl 1 rfl ?_
      refine qj_aload_n hx hb d_Md_places_10 rfl 0 rfl ?_
      refine qj_get hx hb hts hin_12 hown hK (by decide) rfl rfl 5 (by decide) (hts _ tw_447) (fun _ h => h) (qi (M4.1 0 5)) rfl d_Md_places_11 ?_
      refine qj_icmp_ge (tgt := 64) hx hb d_Md_places_14 (by decide) (fun hc6 => ?_) (fun hc6 => ?_)
      · replace hf := q_if_t hc6 hf
        refine qj_sub [0] rfl ?_
        exact hK5 M4 hf
      · replace hf := q_if_f hc6 hf
        refine qj_aload_n hx hb d_Md_places_17 rfl 0 rfl ?_
        refine qj_get hx hb hts hin_12 hown hK (by decide) rfl rfl 41 (by decide) (hts _ tw_665) (fun _ h => h) (qr (some 27)) rfl d_Md_places_18 ?_
        refine qj_iload_n hx hb d_Md_places_21 rfl 1 rfl ?_
        have hf9 := q_ix_s hf; clear hf; obtain ⟨hi7, hf⟩ := hf9
        refine qj_zald (t0 := 2) hx hb hK (by decide) (fun _ _ => rfl) rfl hi7 d_Md_places_22 ?_
        refine qj_if_eq (tgt := 58) hx hb d_Md_places_23 (by decide) (fun hc8 => ?_) (fun hc8 => ?_)
        · replace hf := q_if_t hc8 hf
          refine qj_iinc (j := 1) (v := x3 + 1) hx hb d_Md_places_58 rfl rfl (by decide) rfl ?_
          refine qj_goto (tgt := 9) hx hb d_Md_places_61 (by decide) ?_
          refine qj_sub [1, 0] rfl ?_
          exact ih9 (x3 + 1) M4 hf
        · replace hf := q_if_f hc8 hf
          refine qj_aload_n hx hb d_Md_places_26 rfl 0 rfl ?_
          refine qj_get hx hb hts hin_12 hown hK (by decide) rfl rfl 46 (by decide) (hts _ tw_713) (fun _ h => h) (qr (some 32)) rfl d_Md_places_27 ?_
          refine qj_iload_n hx hb d_Md_places_30 rfl 1 rfl ?_
          refine qj_dup2 hx hb d_Md_places_31 ?_
          have hf9 := q_ix_s hf; clear hf; obtain ⟨hi9, hf⟩ := hf9
          refine qj_iald (t0 := 0) hx hb hK (by decide) (fun _ _ => rfl) rfl hi9 d_Md_places_32 ?_
          refine qj_aload_n hx hb d_Md_places_33 rfl 0 rfl ?_
          refine qj_get hx hb hts hin_12 hown hK (by decide) rfl rfl 46 (by decide) (hts _ tw_713) (fun _ h => h) (qr (some 32)) rfl d_Md_places_34 ?_
          refine qj_aload_n hx hb d_Md_places_37 rfl 0 rfl ?_
          refine qj_get hx hb hts hin_12 hown hK (by decide) rfl rfl 42 (by decide) (hts _ tw_666) (fun _ h => h) (qr (some 28)) rfl d_Md_places_38 ?_
          refine qj_iload_n hx hb d_Md_places_41 rfl 1 rfl ?_
          have hf9 := q_ix_s hf; clear hf; obtain ⟨hi10, hf⟩ := hf9
          refine qj_iald (t0 := 0) hx hb hK (by decide) (fun _ _ => rfl) rfl hi10 d_Md_places_42 ?_
          have hf9 := q_ix_s hf; clear hf; obtain ⟨hi11, hf⟩ := hf9
          refine qj_iald (t0 := 0) hx hb hK (by decide) (fun _ _ => rfl) rfl hi11 d_Md_places_43 ?_
          refine qj_aload_n hx hb d_Md_places_44 rfl 0 rfl ?_
          refine qj_aload_n hx hb d_Md_places_45 rfl 0 rfl ?_
          refine qj_get hx hb hts hin_12 hown hK (by decide) rfl rfl 42 (by decide) (hts _ tw_666) (fun _ h => h) (qr (some 28)) rfl d_Md_places_46 ?_
          refine qj_iload_n hx hb d_Md_places_49 rfl 1 rfl ?_
          have hf9 := q_ix_s hf; clear hf; obtain ⟨hi12, hf⟩ := hf9
          refine qj_iald (t0 := 0) hx hb hK (by decide) (fun _ _ => rfl) rfl hi12 d_Md_places_50 ?_
          refine qj_iconst (v := 5) hx hb d_Md_places_51 (by decide) ?_
          have hf9 := q_bp_s hf; clear hf; obtain ⟨x13, hx13, hf⟩ := hf9
          refine qc_Vi (st := [qi (M4.1 32 (M4.1 28 x3.toNatClampNeg).toNatClampNeg), qi (M4.1 32 x3.toNatClampNeg), qi x3, qr (some 32)]) hx hb hml hown hts hK qT_ok hs (c_Md_border (M4.1 28 x3.toNatClampNeg) 5 M4 _ hx13) ⟨(callB_of 2 hts (q_good tw_668) rfl rfl rfl (hts _ tw_459) (hts _ tw_669) (by decide +kernel) ⟨by decide, by decide⟩), (hts _ tw_670), (hts _ tw_671)⟩ (by decide) rfl rfl rfl rfl (Nat.le_of_ble_eq_true rfl) d_Md_places_52 ?_
          refine qj_iadd hx hb d_Md_places_55 ?_
          refine qj_iadd hx hb d_Md_places_56 ?_
          have hf9 := q_ix_s hf; clear hf; obtain ⟨hi14, hf⟩ := hf9
          have hf9 := q_lt_s hf; clear hf; obtain ⟨M15, eM15, hf⟩ := hf9
          refine qj_iast (t0 := 0) hx hb hK (by decide) (fun _ _ => rfl) rfl hi14 eM15 d_Md_places_57 ?_
          refine qj_iinc (j := 1) (v := x3 + 1) hx hb d_Md_places_58 rfl rfl (by decide) rfl ?_
          refine qj_goto (tgt := 9) hx hb d_Md_places_61 (by decide) ?_
          refine qj_sub [1, 0] rfl ?_
          exact ih9 (x3 + 1) M15 hf
  refine qj_sub [1, 0] rfl ?_
  refine hL9 _ _ (fun M16 hf9 => ?_) 1 M2 hf
  clear hf; have hf := hf9; clear hf9
  refine qj_iconst (v := 0) hx hb d_Md_places_64 (by decide) ?_
  refine qj_istore_n hx hb d_Md_places_65 rfl (by decide) rfl ?_
  have hL66 : ∀ (n : Nat) (K19 : qM → Option qM), (∀ (M30 : qM), K19 M30 = some out → QJ p l e rm_Md_places s m args below meth c (qA 38 b) b 2 0 0 Q (qWd D (enM dA b) 38 b) M30 121 [] []) → ∀ (x17 : Int32) (M18 : qM), f_Md_places_66 n K19 x17 M18 = some out → QJ p l e rm_Md_places s m args below meth c (qA 38 b) b 2 0 0 Q (qWd D (enM dA b) 38 b) M18 66 [(0, qr (some 0)), (1, qi x17)] [] := by
    clear hf
    intro n
    induction n with
    | zero =>
      intro K19 hK19 x17 M18 hf
      exact absurd hf (by simp [f_Md_places_66])
    | succ n ih66 =>
      intro K19 hK19 x17 M18 hf
      rw [f_Md_places_66] at hf
      have ih66 := ih66 K19 hK19
      refine qj_iload_n hx hb d_Md_places_66 rfl 1 rfl ?_
      refine qj_aload_n hx hb d_Md_places_67 rfl 0 rfl ?_
      refine qj_get hx hb hts hin_12 hown hK (by decide) rfl rfl 17 (by decide) (hts _ tw_456) (fun _ h => h) (qi (M18.1 0 17)) rfl d_Md_places_68 ?_
      refine qj_icmp_ge (tgt := 121) hx hb d_Md_places_71 (by decide) (fun hc20 => ?_) (fun hc20 => ?_)
      · replace hf := q_if_t hc20 hf
        refine qj_sub [] rfl ?_
        exact hK19 M18 hf
      · replace hf := q_if_f hc20 hf
        refine qj_aload_n hx hb d_Md_places_74 rfl 0 rfl ?_
        refine qj_get hx hb hts hin_12 hown hK (by decide) rfl rfl 47 (by decide) (hts _ tw_694) (fun _ h => h) (qr (some 33)) rfl d_Md_places_75 ?_
        refine qj_iload_n hx hb d_Md_places_78 rfl 1 rfl ?_
        have hf9 := q_ix_s hf; clear hf; obtain ⟨hi21, hf⟩ := hf9
        refine qj_zald (t0 := 2) hx hb hK (by decide) (fun _ _ => rfl) rfl hi21 d_Md_places_79 ?_
        refine qj_if_eq (tgt := 115) hx hb d_Md_places_80 (by decide) (fun hc22 => ?_) (fun hc22 => ?_)
        · replace hf := q_if_t hc22 hf
          refine qj_iinc (j := 1) (v := x17 + 1) hx hb d_Md_places_115 rfl rfl (by decide) rfl ?_
          refine qj_goto (tgt := 66) hx hb d_Md_places_118 (by decide) ?_
          refine qj_sub [1, 0] rfl ?_
          exact ih66 (x17 + 1) M18 hf
        · replace hf := q_if_f hc22 hf
          refine qj_aload_n hx hb d_Md_places_83 rfl 0 rfl ?_
          refine qj_get hx hb hts hin_12 hown hK (by decide) rfl rfl 49 (by decide) (hts _ tw_683) (fun _ h => h) (qr (some 35)) rfl d_Md_places_84 ?_
          refine qj_iload_n hx hb d_Md_places_87 rfl 1 rfl ?_
          refine qj_dup2 hx hb d_Md_places_88 ?_
          have hf9 := q_ix_s hf; clear hf; obtain ⟨hi23, hf⟩ := hf9
          refine qj_iald (t0 := 0) hx hb hK (by decide) (fun _ _ => rfl) rfl hi23 d_Md_places_89 ?_
          refine qj_aload_n hx hb d_Md_places_90 rfl 0 rfl ?_
          refine qj_get hx hb hts hin_12 hown hK (by decide) rfl rfl 46 (by decide) (hts _ tw_713) (fun _ h => h) (qr (some 32)) rfl d_Md_places_91 ?_
          refine qj_aload_n hx hb d_Md_places_94 rfl 0 rfl ?_
          refine qj_get hx hb hts hin_12 hown hK (by decide) rfl rfl 50 (by decide) (hts _ tw_695) (fun _ h => h) (qr (some 36)) rfl d_Md_places_95 ?_
          refine qj_iload_n hx hb d_Md_places_98 rfl 1 rfl ?_
          have hf9 := q_ix_s hf; clear hf; obtain ⟨hi24, hf⟩ := hf9
          refine qj_iald (t0 := 0) hx hb hK (by decide) (fun _ _ => rfl) rfl hi24 d_Md_places_99 ?_
          have hf9 := q_ix_s hf; clear hf; obtain ⟨hi25, hf⟩ := hf9
          refine qj_iald (t0 := 0) hx hb hK (by decide) (fun _ _ => rfl) rfl hi25 d_Md_places_100 ?_
          refine qj_aload_n hx hb d_Md_places_101 rfl 0 rfl ?_
          refine qj_aload_n hx hb d_Md_places_102 rfl 0 rfl ?_
          refine qj_get hx hb hts hin_12 hown hK (by decide) rfl rfl 50 (by decide) (hts _ tw_695) (fun _ h => h) (qr (some 36)) rfl d_Md_places_103 ?_
          refine qj_iload_n hx hb d_Md_places_106 rfl 1 rfl ?_
          have hf9 := q_ix_s hf; clear hf; obtain ⟨hi26, hf⟩ := hf9
          refine qj_iald (t0 := 0) hx hb hK (by decide) (fun _ _ => rfl) rfl hi26 d_Md_places_107 ?_
          refine qj_iconst (v := 5) hx hb d_Md_places_108 (by decide) ?_
          have hf9 := q_bp_s hf; clear hf; obtain ⟨x27, hx27, hf⟩ := hf9
          refine qc_Vi (st := [qi (M18.1 32 (M18.1 36 x17.toNatClampNeg).toNatClampNeg), qi (M18.1 35 x17.toNatClampNeg), qi x17, qr (some 35)]) hx hb hml hown hts hK qT_ok hs (c_Md_border (M18.1 36 x17.toNatClampNeg) 5 M18 _ hx27) ⟨(callB_of 2 hts (q_good tw_668) rfl rfl rfl (hts _ tw_459) (hts _ tw_669) (by decide +kernel) ⟨by decide, by decide⟩), (hts _ tw_670), (hts _ tw_671)⟩ (by decide) rfl rfl rfl rfl (Nat.le_of_ble_eq_true rfl) d_Md_places_109 ?_
          refine qj_iadd hx hb d_Md_places_112 ?_
          refine qj_iadd hx hb d_Md_places_113 ?_
          have hf9 := q_ix_s hf; clear hf; obtain ⟨hi28, hf⟩ := hf9
          have hf9 := q_lt_s hf; clear hf; obtain ⟨M29, eM29, hf⟩ := hf9
          refine qj_iast (t0 := 0) hx hb hK (by decide) (fun _ _ => rfl) rfl hi28 eM29 d_Md_places_114 ?_
          refine qj_iinc (j := 1) (v := x17 + 1) hx hb d_Md_places_115 rfl rfl (by decide) rfl ?_
          refine qj_goto (tgt := 66) hx hb d_Md_places_118 (by decide) ?_
          refine qj_sub [1, 0] rfl ?_
          exact ih66 (x17 + 1) M29 hf
  refine qj_sub [1, 0] rfl ?_
  refine hL66 _ _ (fun M30 hf9 => ?_) 0 M16 hf
  clear hf; have hf := hf9; clear hf9
  exact hret _ _ _ d_Md_places_121 (Option.some.inj hf)
theorem d_Md_layout_0 : decode prog_14_method_57_code 0 = .ok (.iload_n 1, 1) := by decide +kernel
theorem d_Md_layout_1 : decode prog_14_method_57_code 1 = .ok (.iconst 1, 1) := by decide +kernel
theorem d_Md_layout_2 : decode prog_14_method_57_code 2 = .ok (.if_icmp .lt 16, 3) := by decide +kernel
theorem d_Md_layout_5 : decode prog_14_method_57_code 5 = .ok (.iload_n 1, 1) := by decide +kernel
theorem d_Md_layout_6 : decode prog_14_method_57_code 6 = .ok (.bipush 64, 2) := by decide +kernel
theorem d_Md_layout_8 : decode prog_14_method_57_code 8 = .ok (.if_icmp .gt 10, 3) := by decide +kernel
theorem d_Md_layout_11 : decode prog_14_method_57_code 11 = .ok (.aload_n 0, 1) := by decide +kernel
theorem d_Md_layout_12 : decode prog_14_method_57_code 12 = .ok (.getfield 129, 3) := by decide +kernel
theorem d_Md_layout_15 : decode prog_14_method_57_code 15 = .ok (.ifCond .eq 5, 3) := by decide +kernel
theorem d_Md_layout_18 : decode prog_14_method_57_code 18 = .ok (.iconst (-1), 1) := by decide +kernel
theorem d_Md_layout_19 : decode prog_14_method_57_code 19 = .ok (.ireturn, 1) := by decide +kernel
theorem d_Md_layout_20 : decode prog_14_method_57_code 20 = .ok (.aload_n 0, 1) := by decide +kernel
theorem d_Md_layout_21 : decode prog_14_method_57_code 21 = .ok (.invokevirtual 307, 3) := by decide +kernel
theorem d_Md_layout_24 : decode prog_14_method_57_code 24 = .ok (.aload_n 0, 1) := by decide +kernel
theorem d_Md_layout_25 : decode prog_14_method_57_code 25 = .ok (.iconst 1, 1) := by decide +kernel
theorem d_Md_layout_26 : decode prog_14_method_57_code 26 = .ok (.putfield 133, 3) := by decide +kernel
theorem d_Md_layout_29 : decode prog_14_method_57_code 29 = .ok (.aload_n 0, 1) := by decide +kernel
theorem d_Md_layout_30 : decode prog_14_method_57_code 30 = .ok (.iload_n 1, 1) := by decide +kernel
theorem d_Md_layout_31 : decode prog_14_method_57_code 31 = .ok (.putfield 310, 3) := by decide +kernel
theorem d_Md_layout_34 : decode prog_14_method_57_code 34 = .ok (.aload_n 0, 1) := by decide +kernel
theorem d_Md_layout_35 : decode prog_14_method_57_code 35 = .ok (.iconst 0, 1) := by decide +kernel
theorem d_Md_layout_36 : decode prog_14_method_57_code 36 = .ok (.putfield 313, 3) := by decide +kernel
theorem d_Md_layout_39 : decode prog_14_method_57_code 39 = .ok (.iconst 0, 1) := by decide +kernel
theorem d_Md_layout_40 : decode prog_14_method_57_code 40 = .ok (.istore_n 2, 1) := by decide +kernel
theorem d_Md_layout_41 : decode prog_14_method_57_code 41 = .ok (.iload_n 2, 1) := by decide +kernel
theorem d_Md_layout_42 : decode prog_14_method_57_code 42 = .ok (.aload_n 0, 1) := by decide +kernel
theorem d_Md_layout_43 : decode prog_14_method_57_code 43 = .ok (.getfield 154, 3) := by decide +kernel
theorem d_Md_layout_46 : decode prog_14_method_57_code 46 = .ok (.if_icmp .ge 16, 3) := by decide +kernel
theorem d_Md_layout_49 : decode prog_14_method_57_code 49 = .ok (.aload_n 0, 1) := by decide +kernel
theorem d_Md_layout_50 : decode prog_14_method_57_code 50 = .ok (.getfield 107, 3) := by decide +kernel
theorem d_Md_layout_53 : decode prog_14_method_57_code 53 = .ok (.iload_n 2, 1) := by decide +kernel
theorem d_Md_layout_54 : decode prog_14_method_57_code 54 = .ok (.iconst 0, 1) := by decide +kernel
theorem d_Md_layout_55 : decode prog_14_method_57_code 55 = .ok (.bastore, 1) := by decide +kernel
theorem d_Md_layout_56 : decode prog_14_method_57_code 56 = .ok (.iinc 2 1, 3) := by decide +kernel
theorem d_Md_layout_59 : decode prog_14_method_57_code 59 = .ok (.goto (-18), 3) := by decide +kernel
theorem d_Md_layout_62 : decode prog_14_method_57_code 62 = .ok (.iconst 0, 1) := by decide +kernel
theorem d_Md_layout_63 : decode prog_14_method_57_code 63 = .ok (.istore_n 2, 1) := by decide +kernel
theorem d_Md_layout_64 : decode prog_14_method_57_code 64 = .ok (.iload_n 2, 1) := by decide +kernel
theorem d_Md_layout_65 : decode prog_14_method_57_code 65 = .ok (.aload_n 0, 1) := by decide +kernel
theorem d_Md_layout_66 : decode prog_14_method_57_code 66 = .ok (.getfield 142, 3) := by decide +kernel
theorem d_Md_layout_69 : decode prog_14_method_57_code 69 = .ok (.if_icmp .ge 15, 3) := by decide +kernel
theorem d_Md_layout_72 : decode prog_14_method_57_code 72 = .ok (.aload_n 0, 1) := by decide +kernel
theorem d_Md_layout_73 : decode prog_14_method_57_code 73 = .ok (.iload_n 2, 1) := by decide +kernel
theorem d_Md_layout_74 : decode prog_14_method_57_code 74 = .ok (.iload_n 1, 1) := by decide +kernel
theorem d_Md_layout_75 : decode prog_14_method_57_code 75 = .ok (.invokevirtual 316, 3) := by decide +kernel
theorem d_Md_layout_78 : decode prog_14_method_57_code 78 = .ok (.iinc 2 1, 3) := by decide +kernel
theorem d_Md_layout_81 : decode prog_14_method_57_code 81 = .ok (.goto (-17), 3) := by decide +kernel
theorem d_Md_layout_84 : decode prog_14_method_57_code 84 = .ok (.aload_n 0, 1) := by decide +kernel
theorem d_Md_layout_85 : decode prog_14_method_57_code 85 = .ok (.getfield 142, 3) := by decide +kernel
theorem d_Md_layout_88 : decode prog_14_method_57_code 88 = .ok (.iconst 1, 1) := by decide +kernel
theorem d_Md_layout_89 : decode prog_14_method_57_code 89 = .ok (.isub, 1) := by decide +kernel
theorem d_Md_layout_90 : decode prog_14_method_57_code 90 = .ok (.istore_n 2, 1) := by decide +kernel
theorem d_Md_layout_91 : decode prog_14_method_57_code 91 = .ok (.iload_n 2, 1) := by decide +kernel
theorem d_Md_layout_92 : decode prog_14_method_57_code 92 = .ok (.ifCond .lt 23, 3) := by decide +kernel
theorem d_Md_layout_95 : decode prog_14_method_57_code 95 = .ok (.aload_n 0, 1) := by decide +kernel
theorem d_Md_layout_96 : decode prog_14_method_57_code 96 = .ok (.getfield 89, 3) := by decide +kernel
theorem d_Md_layout_99 : decode prog_14_method_57_code 99 = .ok (.iload_n 2, 1) := by decide +kernel
theorem d_Md_layout_100 : decode prog_14_method_57_code 100 = .ok (.baload, 1) := by decide +kernel
theorem d_Md_layout_101 : decode prog_14_method_57_code 101 = .ok (.ifCond .eq 8, 3) := by decide +kernel
theorem d_Md_layout_104 : decode prog_14_method_57_code 104 = .ok (.aload_n 0, 1) := by decide +kernel
theorem d_Md_layout_105 : decode prog_14_method_57_code 105 = .ok (.iload_n 2, 1) := by decide +kernel
theorem d_Md_layout_106 : decode prog_14_method_57_code 106 = .ok (.invokevirtual 319, 3) := by decide +kernel
theorem d_Md_layout_109 : decode prog_14_method_57_code 109 = .ok (.iinc 2 (-1), 3) := by decide +kernel
theorem d_Md_layout_112 : decode prog_14_method_57_code 112 = .ok (.goto (-21), 3) := by decide +kernel
theorem d_Md_layout_115 : decode prog_14_method_57_code 115 = .ok (.aload_n 0, 1) := by decide +kernel
theorem d_Md_layout_116 : decode prog_14_method_57_code 116 = .ok (.invokevirtual 322, 3) := by decide +kernel
theorem d_Md_layout_119 : decode prog_14_method_57_code 119 = .ok (.aload_n 0, 1) := by decide +kernel
theorem d_Md_layout_120 : decode prog_14_method_57_code 120 = .ok (.getfield 101, 3) := by decide +kernel
theorem d_Md_layout_123 : decode prog_14_method_57_code 123 = .ok (.iconst 0, 1) := by decide +kernel
theorem d_Md_layout_124 : decode prog_14_method_57_code 124 = .ok (.iaload, 1) := by decide +kernel
theorem d_Md_layout_125 : decode prog_14_method_57_code 125 = .ok (.ireturn, 1) := by decide +kernel
def f_Md_layout_41  : Nat → (qM → Option (Int32 × qM)) → Int32 → qM → Option (Int32 × qM)
  | 0, _, _, _ => none
  | n + 1, K10, x8, M9 => if (M9.1 0 17) ≤ x8 then (K10 M9) else (q_ix x8 160 <| q_lt (qsI M9 33 x8.toNatClampNeg 0) fun M13 => f_Md_layout_41 n K10 (x8 + 1) M13)
def f_Md_layout_64 (a1 : Int32) : Nat → (qM → Option (Int32 × qM)) → Int32 → qM → Option (Int32 × qM)
  | 0, _, _, _ => none
  | n + 1, K17, x15, M16 => if (M16.1 0 5) ≤ x15 then (K17 M16) else (q_cv (f_Md_widths x15 a1 M16) fun M19 => f_Md_layout_64 a1 n K17 (x15 + 1) M19)
def f_Md_layout_91  : Nat → (qM → Option (Int32 × qM)) → Int32 → qM → Option (Int32 × qM)
  | 0, _, _, _ => none
  | n + 1, K23, x21, M22 => if x21 < 0 then (K23 M22) else (q_ix x21 40 <| if (M22.1 27 x21.toNatClampNeg) = 0 then (f_Md_layout_91 n K23 (x21 + (-1)) M22) else (q_cv (f_Md_heights x21 M22) fun M27 => f_Md_layout_91 n K23 (x21 + (-1)) M27))
def f_Md_layout (a1 : Int32) (M : qM) : Option (Int32 × qM) := if a1 < 1 then (some ((-1), M)) else (if 64 < a1 then (some ((-1), M)) else (if (M.1 0 4) = 0 then (q_cv (f_Md_style M) fun M4 => q_lt (qsI M4 0 37 1) fun M5 => q_lt (qsI M5 0 38 a1) fun M6 => q_lt (qsI M6 0 39 0) fun M7 => f_Md_layout_41 1000 (fun (M14 : qM) => f_Md_layout_64 a1 1000 (fun (M20 : qM) => f_Md_layout_91 1000 (fun (M28 : qM) => q_cv (f_Md_places M28) fun M29 => q_ix (0 : Int32) 40 <| some (M29.1 31 (0 : Int32).toNatClampNeg, M29)) ((M20.1 0 5) - 1) M20) 0 M14) 0 M7) else (some ((-1), M))))
abbrev rm_Md_layout : Room := { frames := 6, cells := 0, slots := 0, locals := 152 }
set_option maxRecDepth 100000 in
set_option maxHeartbeats 4000000 in
theorem c_Md_layout {l : Launch} {D : va_G} {dA : Nat → ClassId} {b : Nat} (a1 : Int32)  (M : qM) (out : Int32 × qM) (hf : f_Md_layout a1 M = some out) : CTi l y_Md_layout w_Md_layout rm_Md_layout D (tysX dA) (enM dA b) 38 b (fun _ => True) [qr (some 0), qi a1] M out := by
  refine qm_i (cc := prog_14_method_57_code) (nL := 3) (by decide) rfl (Nat.le_of_ble_eq_true rfl) ?_
  intro p e s m args below meth c Q hx hb hts0 hown hml hK hs hret
  have hts : ∀ w ∈ lw_g, w.before args s = true := fun w h => hts0 w (List.mem_cons_of_mem _ h)
  show QJ p l e rm_Md_layout s m args below meth c (qA 38 b) b 3 0 0 Q (qWd D (enM dA b) 38 b) M 0 [(0, qr (some 0)), (1, qi a1)] []
  unfold f_Md_layout at hf
  refine qj_iload_n hx hb d_Md_layout_0 rfl 1 rfl ?_
  refine qj_iconst (v := 1) hx hb d_Md_layout_1 (by decide) ?_
  refine qj_icmp_lt (tgt := 18) hx hb d_Md_layout_2 (by decide) (fun hc1 => ?_) (fun hc1 => ?_)
  · replace hf := q_if_t hc1 hf
    refine qj_iconst (v := (-1)) hx hb d_Md_layout_18 (by decide) ?_
    exact hret _ _ _ _ d_Md_layout_19 (Option.some.inj hf)
  · replace hf := q_if_f hc1 hf
    refine qj_iload_n hx hb d_Md_layout_5 rfl 1 rfl ?_
    refine qj_bipush (v := 64) hx hb d_Md_layout_6 (by decide) ?_
    refine qj_icmp_gt (tgt := 18) hx hb d_Md_layout_8 (by decide) (fun hc2 => ?_) (fun hc2 => ?_)
    · replace hf := q_if_t hc2 hf
      refine qj_iconst (v := (-1)) hx hb d_Md_layout_18 (by decide) ?_
      exact hret _ _ _ _ d_Md_layout_19 (Option.some.inj hf)
    · replace hf := q_if_f hc2 hf
      refine qj_aload_n hx hb d_Md_layout_11 rfl 0 rfl ?_
      refine qj_get hx hb hts hin_12 hown hK (by decide) rfl rfl 4 (by decide) (hts _ tw_446) (fun _ h => h) (qi (M.1 0 4)) rfl d_Md_layout_12 ?_
      refine qj_if_eq (tgt := 20) hx hb d_Md_layout_15 (by decide) (fun hc3 => ?_) (fun hc3 => ?_)
      · replace hf := q_if_t hc3 hf
        refine qj_aload_n hx hb d_Md_layout_20 rfl 0 rfl ?_
        have hf9 := q_cv_s hf; clear hf; obtain ⟨M4, hM4, hf⟩ := hf9
        refine qc_Vv (st := []) hx hb hml hown hts hK qT_ok hs (c_Md_style  M _ hM4) ⟨(callB_of 0 hts (q_good tw_660) rfl rfl rfl (hts _ tw_459) (hts _ tw_661) (by decide +kernel) ⟨by decide, by decide⟩), (hts _ tw_662), (hts _ tw_663)⟩ (by decide) rfl rfl rfl rfl (Nat.le_of_ble_eq_true rfl) d_Md_layout_21 ?_
        refine qj_aload_n hx hb d_Md_layout_24 rfl 0 rfl ?_
        refine qj_iconst (v := 1) hx hb d_Md_layout_25 (by decide) ?_
        have hf9 := q_lt_s hf; clear hf; obtain ⟨M5, eM5, hf⟩ := hf9
        refine qj_puti (ty := .boolean) hx hb hts hin_12 ty_12 tyok_12 nm_12 hown hK (by decide) rfl rfl 37 (by decide) (hts _ tw_586) (fun _ h => h) rfl (by decide +kernel) rfl rfl (Nat.le_of_ble_eq_true rfl) sm_37 eM5 d_Md_layout_26 ?_
        refine qj_aload_n hx hb d_Md_layout_29 rfl 0 rfl ?_
        refine qj_iload_n hx hb d_Md_layout_30 rfl 1 rfl ?_
        have hf9 := q_lt_s hf; clear hf; obtain ⟨M6, eM6, hf⟩ := hf9
        refine qj_puti (ty := .int) hx hb hts hin_12 ty_12 tyok_12 nm_12 hown hK (by decide) rfl rfl 38 (by decide) (hts _ tw_719) (fun _ h => h) rfl (by decide +kernel) rfl rfl (Nat.le_of_ble_eq_true rfl) sm_38 eM6 d_Md_layout_31 ?_
        refine qj_aload_n hx hb d_Md_layout_34 rfl 0 rfl ?_
        refine qj_iconst (v := 0) hx hb d_Md_layout_35 (by decide) ?_
        have hf9 := q_lt_s hf; clear hf; obtain ⟨M7, eM7, hf⟩ := hf9
        refine qj_puti (ty := .int) hx hb hts hin_12 ty_12 tyok_12 nm_12 hown hK (by decide) rfl rfl 39 (by decide) (hts _ tw_689) (fun _ h => h) rfl (by decide +kernel) rfl rfl (Nat.le_of_ble_eq_true rfl) sm_39 eM7 d_Md_layout_36 ?_
        refine qj_iconst (v := 0) hx hb d_Md_layout_39 (by decide) ?_
        refine qj_istore_n hx hb d_Md_layout_40 rfl (by decide) rfl ?_
        have hL41 : ∀ (n : Nat) (K10 : qM → Option (Int32 × qM)), (∀ (M14 : qM), K10 M14 = some out → QJ p l e rm_Md_layout s m args below meth c (qA 38 b) b 3 0 0 Q (qWd D (enM dA b) 38 b) M14 62 [(0, qr (some 0)), (1, qi a1)] []) → ∀ (x8 : Int32) (M9 : qM), f_Md_layout_41 n K10 x8 M9 = some out → QJ p l e rm_Md_layout s m args below meth c (qA 38 b) b 3 0 0 Q (qWd D (enM dA b) 38 b) M9 41 [(0, qr (some 0)), (1, qi a1), (2, qi x8)] [] := by
          clear hf
          intro n
          induction n with
          | zero =>
            intro K10 hK10 x8 M9 hf
            exact absurd hf (by simp [f_Md_layout_41])
          | succ n ih41 =>
            intro K10 hK10 x8 M9 hf
            rw [f_Md_layout_41] at hf
            have ih41 := ih41 K10 hK10
            refine qj_iload_n hx hb d_Md_layout_41 rfl 2 rfl ?_
            refine qj_aload_n hx hb d_Md_layout_42 rfl 0 rfl ?_
            refine qj_get hx hb hts hin_12 hown hK (by decide) rfl rfl 17 (by decide) (hts _ tw_456) (fun _ h => h) (qi (M9.1 0 17)) rfl d_Md_layout_43 ?_
            refine qj_icmp_ge (tgt := 62) hx hb d_Md_layout_46 (by decide) (fun hc11 => ?_) (fun hc11 => ?_)
            · replace hf := q_if_t hc11 hf
              refine qj_sub [0, 1] rfl ?_
              exact hK10 M9 hf
            · replace hf := q_if_f hc11 hf
              refine qj_aload_n hx hb d_Md_layout_49 rfl 0 rfl ?_
              refine qj_get hx hb hts hin_12 hown hK (by decide) rfl rfl 47 (by decide) (hts _ tw_694) (fun _ h => h) (qr (some 33)) rfl d_Md_layout_50 ?_
              refine qj_iload_n hx hb d_Md_layout_53 rfl 2 rfl ?_
              refine qj_iconst (v := 0) hx hb d_Md_layout_54 (by decide) ?_
              have hf9 := q_ix_s hf; clear hf; obtain ⟨hi12, hf⟩ := hf9
              have hf9 := q_lt_s hf; clear hf; obtain ⟨M13, eM13, hf⟩ := hf9
              refine qj_zast (t0 := 2) hx hb hK (by decide) (fun _ _ => rfl) rfl hi12 (Or.inl rfl) eM13 d_Md_layout_55 ?_
              refine qj_iinc (j := 2) (v := x8 + 1) hx hb d_Md_layout_56 rfl rfl (by decide) rfl ?_
              refine qj_goto (tgt := 41) hx hb d_Md_layout_59 (by decide) ?_
              refine qj_sub [1, 2, 0] rfl ?_
              exact ih41 (x8 + 1) M13 hf
        refine qj_sub [1, 2, 0] rfl ?_
        refine hL41 _ _ (fun M14 hf9 => ?_) 0 M7 hf
        clear hf; have hf := hf9; clear hf9
        refine qj_iconst (v := 0) hx hb d_Md_layout_62 (by decide) ?_
        refine qj_istore_n hx hb d_Md_layout_63 rfl (by decide) rfl ?_
        have hL64 : ∀ (n : Nat) (K17 : qM → Option (Int32 × qM)), (∀ (M20 : qM), K17 M20 = some out → QJ p l e rm_Md_layout s m args below meth c (qA 38 b) b 3 0 0 Q (qWd D (enM dA b) 38 b) M20 84 [(0, qr (some 0))] []) → ∀ (x15 : Int32) (M16 : qM), f_Md_layout_64 a1 n K17 x15 M16 = some out → QJ p l e rm_Md_layout s m args below meth c (qA 38 b) b 3 0 0 Q (qWd D (enM dA b) 38 b) M16 64 [(0, qr (some 0)), (1, qi a1), (2, qi x15)] [] := by
          clear hf
          intro n
          induction n with
          | zero =>
            intro K17 hK17 x15 M16 hf
            exact absurd hf (by simp [f_Md_layout_64])
          | succ n ih64 =>
            intro K17 hK17 x15 M16 hf
            rw [f_Md_layout_64] at hf
            have ih64 := ih64 K17 hK17
            refine qj_iload_n hx hb d_Md_layout_64 rfl 2 rfl ?_
            refine qj_aload_n hx hb d_Md_layout_65 rfl 0 rfl ?_
            refine qj_get hx hb hts hin_12 hown hK (by decide) rfl rfl 5 (by decide) (hts _ tw_447) (fun _ h => h) (qi (M16.1 0 5)) rfl d_Md_layout_66 ?_
            refine qj_icmp_ge (tgt := 84) hx hb d_Md_layout_69 (by decide) (fun hc18 => ?_) (fun hc18 => ?_)
            · replace hf := q_if_t hc18 hf
              refine qj_sub [0] rfl ?_
              exact hK17 M16 hf
            · replace hf := q_if_f hc18 hf
              refine qj_aload_n hx hb d_Md_layout_72 rfl 0 rfl ?_
              refine qj_iload_n hx hb d_Md_layout_73 rfl 2 rfl ?_
              refine qj_iload_n hx hb d_Md_layout_74 rfl 1 rfl ?_
              have hf9 := q_cv_s hf; clear hf; obtain ⟨M19, hM19, hf⟩ := hf9
              refine qc_Vv (st := []) hx hb hml hown hts hK qT_ok hs (c_Md_widths x15 a1 M16 _ hM19) ⟨(callB_of 2 hts (q_good tw_720) rfl rfl rfl (hts _ tw_459) (hts _ tw_721) (by decide +kernel) ⟨by decide, by decide⟩), (hts _ tw_722), (hts _ tw_723)⟩ (by decide) rfl rfl rfl rfl (Nat.le_of_ble_eq_true rfl) d_Md_layout_75 ?_
              refine qj_iinc (j := 2) (v := x15 + 1) hx hb d_Md_layout_78 rfl rfl (by decide) rfl ?_
              refine qj_goto (tgt := 64) hx hb d_Md_layout_81 (by decide) ?_
              refine qj_sub [1, 2, 0] rfl ?_
              exact ih64 (x15 + 1) M19 hf
        refine qj_sub [1, 2, 0] rfl ?_
        refine hL64 _ _ (fun M20 hf9 => ?_) 0 M14 hf
        clear hf; have hf := hf9; clear hf9
        refine qj_aload_n hx hb d_Md_layout_84 rfl 0 rfl ?_
        refine qj_get hx hb hts hin_12 hown hK (by decide) rfl rfl 5 (by decide) (hts _ tw_447) (fun _ h => h) (qi (M20.1 0 5)) rfl d_Md_layout_85 ?_
        refine qj_iconst (v := 1) hx hb d_Md_layout_88 (by decide) ?_
        refine qj_isub hx hb d_Md_layout_89 ?_
        refine qj_istore_n hx hb d_Md_layout_90 rfl (by decide) rfl ?_
        have hL91 : ∀ (n : Nat) (K23 : qM → Option (Int32 × qM)), (∀ (M28 : qM), K23 M28 = some out → QJ p l e rm_Md_layout s m args below meth c (qA 38 b) b 3 0 0 Q (qWd D (enM dA b) 38 b) M28 115 [(0, qr (some 0))] []) → ∀ (x21 : Int32) (M22 : qM), f_Md_layout_91 n K23 x21 M22 = some out → QJ p l e rm_Md_layout s m args below meth c (qA 38 b) b 3 0 0 Q (qWd D (enM dA b) 38 b) M22 91 [(0, qr (some 0)), (2, qi x21)] [] := by
          clear hf
          intro n
          induction n with
          | zero =>
            intro K23 hK23 x21 M22 hf
            exact absurd hf (by simp [f_Md_layout_91])
          | succ n ih91 =>
            intro K23 hK23 x21 M22 hf
            rw [f_Md_layout_91] at hf
            have ih91 := ih91 K23 hK23
            refine qj_iload_n hx hb d_Md_layout_91 rfl 1 rfl ?_
            refine qj_if_lt (tgt := 115) hx hb d_Md_layout_92 (by decide) (fun hc24 => ?_) (fun hc24 => ?_)
            · replace hf := q_if_t hc24 hf
              refine qj_sub [0] rfl ?_
              exact hK23 M22 hf
            · replace hf := q_if_f hc24 hf
              refine qj_aload_n hx hb d_Md_layout_95 rfl 0 rfl ?_
              refine qj_get hx hb hts hin_12 hown hK (by decide) rfl rfl 41 (by decide) (hts _ tw_665) (fun _ h => h) (qr (some 27)) rfl d_Md_layout_96 ?_
              refine qj_iload_n hx hb d_Md_layout_99 rfl 1 rfl ?_
              have hf9 := q_ix_s hf; clear hf; obtain ⟨hi25, hf⟩ := hf9
              refine qj_zald (t0 := 2) hx hb hK (by decide) (fun _ _ => rfl) rfl hi25 d_Md_layout_100 ?_
              refine qj_if_eq (tgt := 109) hx hb d_Md_layout_101 (by decide) (fun hc26 => ?_) (fun hc26 => ?_)
              · replace hf := q_if_t hc26 hf
                refine qj_iinc (j := 1) (v := x21 + (-1)) hx hb d_Md_layout_109 rfl rfl (by decide) rfl ?_
                refine qj_goto (tgt := 91) hx hb d_Md_layout_112 (by decide) ?_
                refine qj_sub [1, 0] rfl ?_
                exact ih91 (x21 + (-1)) M22 hf
              · replace hf := q_if_f hc26 hf
                refine qj_aload_n hx hb d_Md_layout_104 rfl 0 rfl ?_
                refine qj_iload_n hx hb d_Md_layout_105 rfl 1 rfl ?_
                have hf9 := q_cv_s hf; clear hf; obtain ⟨M27, hM27, hf⟩ := hf9
                refine qc_Vv (st := []) hx hb hml hown hts hK qT_ok hs (c_Md_heights x21 M22 _ hM27) ⟨(callB_of 1 hts (q_good tw_724) rfl rfl rfl (hts _ tw_459) (hts _ tw_725) (by decide +kernel) ⟨by decide, by decide⟩), (hts _ tw_726), (hts _ tw_727)⟩ (by decide) rfl rfl rfl rfl (Nat.le_of_ble_eq_true rfl) d_Md_layout_106 ?_
                refine qj_iinc (j := 1) (v := x21 + (-1)) hx hb d_Md_layout_109 rfl rfl (by decide) rfl ?_
                refine qj_goto (tgt := 91) hx hb d_Md_layout_112 (by decide) ?_
                refine qj_sub [1, 0] rfl ?_
                exact ih91 (x21 + (-1)) M27 hf
        refine qj_sub [1, 0] rfl ?_
        refine hL91 _ _ (fun M28 hf9 => ?_) ((M20.1 0 5) - 1) M20 hf
        clear hf; have hf := hf9; clear hf9
        refine qj_aload_n hx hb d_Md_layout_115 rfl 0 rfl ?_
        have hf9 := q_cv_s hf; clear hf; obtain ⟨M29, hM29, hf⟩ := hf9
        refine qc_Vv (st := []) hx hb hml hown hts hK qT_ok hs (c_Md_places  M28 _ hM29) ⟨(callB_of 0 hts (q_good tw_728) rfl rfl rfl (hts _ tw_459) (hts _ tw_729) (by decide +kernel) ⟨by decide, by decide⟩), (hts _ tw_730), (hts _ tw_731)⟩ (by decide) rfl rfl rfl rfl (Nat.le_of_ble_eq_true rfl) d_Md_layout_116 ?_
        refine qj_aload_n hx hb d_Md_layout_119 rfl 0 rfl ?_
        refine qj_get hx hb hts hin_12 hown hK (by decide) rfl rfl 45 (by decide) (hts _ tw_714) (fun _ h => h) (qr (some 31)) rfl d_Md_layout_120 ?_
        refine qj_iconst (v := 0) hx hb d_Md_layout_123 (by decide) ?_
        have hf9 := q_ix_s hf; clear hf; obtain ⟨hi30, hf⟩ := hf9
        refine qj_iald (t0 := 0) hx hb hK (by decide) (fun _ _ => rfl) rfl hi30 d_Md_layout_124 ?_
        exact hret _ _ _ _ d_Md_layout_125 (Option.some.inj hf)
      · replace hf := q_if_f hc3 hf
        refine qj_iconst (v := (-1)) hx hb d_Md_layout_18 (by decide) ?_
        exact hret _ _ _ _ d_Md_layout_19 (Option.some.inj hf)
