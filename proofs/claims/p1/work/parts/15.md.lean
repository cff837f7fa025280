theorem d_Md_declared_0 : decode prog_14_method_52_code 0 = .ok (.aload_n 0, 1) := by decide +kernel
theorem d_Md_declared_1 : decode prog_14_method_52_code 1 = .ok (.getfield 71, 3) := by decide +kernel
theorem d_Md_declared_4 : decode prog_14_method_52_code 4 = .ok (.iconst 2, 1) := by decide +kernel
theorem d_Md_declared_5 : decode prog_14_method_52_code 5 = .ok (.iaload, 1) := by decide +kernel
theorem d_Md_declared_6 : decode prog_14_method_52_code 6 = .ok (.istore_n 3, 1) := by decide +kernel
theorem d_Md_declared_7 : decode prog_14_method_52_code 7 = .ok (.iload_n 1, 1) := by decide +kernel
theorem d_Md_declared_8 : decode prog_14_method_52_code 8 = .ok (.ifCond .lt 24, 3) := by decide +kernel
theorem d_Md_declared_11 : decode prog_14_method_52_code 11 = .ok (.iload_n 2, 1) := by decide +kernel
theorem d_Md_declared_12 : decode prog_14_method_52_code 12 = .ok (.iconst 3, 1) := by decide +kernel
theorem d_Md_declared_13 : decode prog_14_method_52_code 13 = .ok (.if_icmp .lt 19, 3) := by decide +kernel
theorem d_Md_declared_16 : decode prog_14_method_52_code 16 = .ok (.iload_n 2, 1) := by decide +kernel
theorem d_Md_declared_17 : decode prog_14_method_52_code 17 = .ok (.iconst 4, 1) := by decide +kernel
theorem d_Md_declared_18 : decode prog_14_method_52_code 18 = .ok (.if_icmp .gt 14, 3) := by decide +kernel
theorem d_Md_declared_21 : decode prog_14_method_52_code 21 = .ok (.aload_n 0, 1) := by decide +kernel
theorem d_Md_declared_22 : decode prog_14_method_52_code 22 = .ok (.getfield 71, 3) := by decide +kernel
theorem d_Md_declared_25 : decode prog_14_method_52_code 25 = .ok (.iconst 1, 1) := by decide +kernel
theorem d_Md_declared_26 : decode prog_14_method_52_code 26 = .ok (.iaload, 1) := by decide +kernel
theorem d_Md_declared_27 : decode prog_14_method_52_code 27 = .ok (.bipush 58, 2) := by decide +kernel
theorem d_Md_declared_29 : decode prog_14_method_52_code 29 = .ok (.if_icmp .eq 5, 3) := by decide +kernel
theorem d_Md_declared_32 : decode prog_14_method_52_code 32 = .ok (.iconst (-1), 1) := by decide +kernel
theorem d_Md_declared_33 : decode prog_14_method_52_code 33 = .ok (.ireturn, 1) := by decide +kernel
theorem d_Md_declared_34 : decode prog_14_method_52_code 34 = .ok (.iload_n 1, 1) := by decide +kernel
theorem d_Md_declared_35 : decode prog_14_method_52_code 35 = .ok (.iconst 3, 1) := by decide +kernel
theorem d_Md_declared_36 : decode prog_14_method_52_code 36 = .ok (.if_icmp .ne 32, 3) := by decide +kernel
theorem d_Md_declared_39 : decode prog_14_method_52_code 39 = .ok (.iload_n 2, 1) := by decide +kernel
theorem d_Md_declared_40 : decode prog_14_method_52_code 40 = .ok (.iconst 3, 1) := by decide +kernel
theorem d_Md_declared_41 : decode prog_14_method_52_code 41 = .ok (.if_icmp .ne 25, 3) := by decide +kernel
theorem d_Md_declared_44 : decode prog_14_method_52_code 44 = .ok (.iload_n 3, 1) := by decide +kernel
theorem d_Md_declared_45 : decode prog_14_method_52_code 45 = .ok (.bipush 98, 2) := by decide +kernel
theorem d_Md_declared_47 : decode prog_14_method_52_code 47 = .ok (.if_icmp .eq 15, 3) := by decide +kernel
theorem d_Md_declared_50 : decode prog_14_method_52_code 50 = .ok (.iload_n 3, 1) := by decide +kernel
theorem d_Md_declared_51 : decode prog_14_method_52_code 51 = .ok (.bipush 105, 2) := by decide +kernel
theorem d_Md_declared_53 : decode prog_14_method_52_code 53 = .ok (.if_icmp .eq 9, 3) := by decide +kernel
theorem d_Md_declared_56 : decode prog_14_method_52_code 56 = .ok (.iload_n 3, 1) := by decide +kernel
theorem d_Md_declared_57 : decode prog_14_method_52_code 57 = .ok (.bipush 110, 2) := by decide +kernel
theorem d_Md_declared_59 : decode prog_14_method_52_code 59 = .ok (.if_icmp .ne 7, 3) := by decide +kernel
theorem d_Md_declared_62 : decode prog_14_method_52_code 62 = .ok (.iload_n 3, 1) := by decide +kernel
theorem d_Md_declared_63 : decode prog_14_method_52_code 63 = .ok (.goto 4, 3) := by decide +kernel
theorem d_Md_declared_66 : decode prog_14_method_52_code 66 = .ok (.iconst (-1), 1) := by decide +kernel
theorem d_Md_declared_67 : decode prog_14_method_52_code 67 = .ok (.ireturn, 1) := by decide +kernel
theorem d_Md_declared_68 : decode prog_14_method_52_code 68 = .ok (.iload_n 3, 1) := by decide +kernel
theorem d_Md_declared_69 : decode prog_14_method_52_code 69 = .ok (.invokestatic 284, 3) := by decide +kernel
theorem d_Md_declared_72 : decode prog_14_method_52_code 72 = .ok (.ifCond .eq 14, 3) := by decide +kernel
theorem d_Md_declared_75 : decode prog_14_method_52_code 75 = .ok (.iload_n 1, 1) := by decide +kernel
theorem d_Md_declared_76 : decode prog_14_method_52_code 76 = .ok (.iconst 2, 1) := by decide +kernel
theorem d_Md_declared_77 : decode prog_14_method_52_code 77 = .ok (.if_icmp .ne 11, 3) := by decide +kernel
theorem d_Md_declared_80 : decode prog_14_method_52_code 80 = .ok (.iload_n 3, 1) := by decide +kernel
theorem d_Md_declared_81 : decode prog_14_method_52_code 81 = .ok (.bipush 48, 2) := by decide +kernel
theorem d_Md_declared_83 : decode prog_14_method_52_code 83 = .ok (.if_icmp .ne 5, 3) := by decide +kernel
theorem d_Md_declared_86 : decode prog_14_method_52_code 86 = .ok (.iconst (-1), 1) := by decide +kernel
theorem d_Md_declared_87 : decode prog_14_method_52_code 87 = .ok (.ireturn, 1) := by decide +kernel
theorem d_Md_declared_88 : decode prog_14_method_52_code 88 = .ok (.iload_n 2, 1) := by decide +kernel
theorem d_Md_declared_89 : decode prog_14_method_52_code 89 = .ok (.iconst 3, 1) := by decide +kernel
theorem d_Md_declared_90 : decode prog_14_method_52_code 90 = .ok (.if_icmp .ne 8, 3) := by decide +kernel
theorem d_Md_declared_93 : decode prog_14_method_52_code 93 = .ok (.iload_n 3, 1) := by decide +kernel
theorem d_Md_declared_94 : decode prog_14_method_52_code 94 = .ok (.bipush 48, 2) := by decide +kernel
theorem d_Md_declared_96 : decode prog_14_method_52_code 96 = .ok (.isub, 1) := by decide +kernel
theorem d_Md_declared_97 : decode prog_14_method_52_code 97 = .ok (.ireturn, 1) := by decide +kernel
theorem d_Md_declared_98 : decode prog_14_method_52_code 98 = .ok (.iload_n 1, 1) := by decide +kernel
theorem d_Md_declared_99 : decode prog_14_method_52_code 99 = .ok (.iconst 4, 1) := by decide +kernel
theorem d_Md_declared_100 : decode prog_14_method_52_code 100 = .ok (.if_icmp .lt 35, 3) := by decide +kernel
theorem d_Md_declared_103 : decode prog_14_method_52_code 103 = .ok (.aload_n 0, 1) := by decide +kernel
theorem d_Md_declared_104 : decode prog_14_method_52_code 104 = .ok (.getfield 71, 3) := by decide +kernel
theorem d_Md_declared_107 : decode prog_14_method_52_code 107 = .ok (.iconst 3, 1) := by decide +kernel
theorem d_Md_declared_108 : decode prog_14_method_52_code 108 = .ok (.iaload, 1) := by decide +kernel
theorem d_Md_declared_109 : decode prog_14_method_52_code 109 = .ok (.invokestatic 284, 3) := by decide +kernel
theorem d_Md_declared_112 : decode prog_14_method_52_code 112 = .ok (.ifCond .eq 23, 3) := by decide +kernel
theorem d_Md_declared_115 : decode prog_14_method_52_code 115 = .ok (.bipush 10, 2) := by decide +kernel
theorem d_Md_declared_117 : decode prog_14_method_52_code 117 = .ok (.iload_n 3, 1) := by decide +kernel
theorem d_Md_declared_118 : decode prog_14_method_52_code 118 = .ok (.bipush 48, 2) := by decide +kernel
theorem d_Md_declared_120 : decode prog_14_method_52_code 120 = .ok (.isub, 1) := by decide +kernel
theorem d_Md_declared_121 : decode prog_14_method_52_code 121 = .ok (.imul, 1) := by decide +kernel
theorem d_Md_declared_122 : decode prog_14_method_52_code 122 = .ok (.aload_n 0, 1) := by decide +kernel
theorem d_Md_declared_123 : decode prog_14_method_52_code 123 = .ok (.getfield 71, 3) := by decide +kernel
theorem d_Md_declared_126 : decode prog_14_method_52_code 126 = .ok (.iconst 3, 1) := by decide +kernel
theorem d_Md_declared_127 : decode prog_14_method_52_code 127 = .ok (.iaload, 1) := by decide +kernel
theorem d_Md_declared_128 : decode prog_14_method_52_code 128 = .ok (.iadd, 1) := by decide +kernel
theorem d_Md_declared_129 : decode prog_14_method_52_code 129 = .ok (.bipush 48, 2) := by decide +kernel
theorem d_Md_declared_131 : decode prog_14_method_52_code 131 = .ok (.isub, 1) := by decide +kernel
theorem d_Md_declared_132 : decode prog_14_method_52_code 132 = .ok (.goto 4, 3) := by decide +kernel
theorem d_Md_declared_135 : decode prog_14_method_52_code 135 = .ok (.iconst (-1), 1) := by decide +kernel
theorem d_Md_declared_136 : decode prog_14_method_52_code 136 = .ok (.ireturn, 1) := by decide +kernel
def f_Md_declared (a1 : Int32) (a2 : Int32) (M : qM) : Option Int32 := q_ix (2 : Int32) 120 <| q_lt (M.1 21 (2 : Int32).toNatClampNeg) fun x2 => if a1 < 0 then (some (-1)) else (if a2 < 3 then (some (-1)) else (if 4 < a2 then (some (-1)) else (q_ix (1 : Int32) 120 <| if (M.1 21 (1 : Int32).toNatClampNeg) = 58 then (if a1 = 3 then (if a2 = 3 then (if x2 = 98 then (some x2) else (if x2 = 105 then (some x2) else (if x2 = 110 then (some x2) else (some (-1))))) else (some (-1))) else (q_bp (f_Md_digit x2 M) fun x9 => if x9 = 0 then (some (-1)) else (q_lt (if a2 = 3 then (some (x2 - 48)) else (if a1 < 4 then (some (-1)) else (q_ix (3 : Int32) 120 <| q_bp (f_Md_digit (M.1 21 (3 : Int32).toNatClampNeg) M) fun x14 => if x14 = 0 then (some (-1)) else (q_ix (3 : Int32) 120 <| some (((10 * (x2 - 48)) + (M.1 21 (3 : Int32).toNatClampNeg)) - 48))))) fun (j17 : Option Int32) => if a1 = 2 then (if x2 = 48 then (some (-1)) else (j17)) else (j17)))) else (some (-1)))))
abbrev rm_Md_declared : Room := { frames := 1, cells := 0, slots := 0, locals := 20 }
set_option maxRecDepth 100000 in
set_option maxHeartbeats 4000000 in
theorem c_Md_declared {l : Launch} {D : va_G} {dA : Nat → ClassId} {b : Nat} (a1 : Int32) (a2 : Int32)  (M : qM) (out : Int32) (hf : f_Md_declared a1 a2 M = some out) : CTi l y_Md_declared w_Md_declared rm_Md_declared D (tysX dA) (enM dA b) 38 b (fun _ => True) [qr (some 0), qi a1, qi a2] M (out, M) := by
  refine qm_i (cc := prog_14_method_52_code) (nL := 4) (by decide) rfl (Nat.le_of_ble_eq_true rfl) ?_
  intro p e s m args below meth c Q hx hb hts0 hown hml hK hs hret
  have hts : ∀ w ∈ lw_g, w.before args s = true := fun w h => hts0 w (List.mem_cons_of_mem _ h)
  show QJ p l e rm_Md_declared s m args below meth c (qA 38 b) b 4 0 0 Q (qWd D (enM dA b) 38 b) M 0 [(0, qr (some 0)), (1, qi a1), (2, qi a2)] []
  unfold f_Md_declared at hf
  refine qj_aload_n hx hb d_Md_declared_0 rfl 0 rfl ?_
  refine qj_get hx hb hts hin_12 hown hK (by decide) rfl rfl 31 (by decide) (hts _ tw_632) (fun _ h => h) (qr (some 21)) rfl d_Md_declared_1 ?_
  refine qj_iconst (v := 2) hx hb d_Md_declared_4 (by decide) ?_
  have hf9 := q_ix_s hf; clear hf; obtain ⟨hi1, hf⟩ := hf9
  refine qj_iald (t0 := 0) hx hb hK (by decide) (fun _ _ => rfl) rfl hi1 d_Md_declared_5 ?_
  have hf9 := q_lt_s hf; clear hf; obtain ⟨x2, ex2, hf⟩ := hf9
  rw [← ex2]
  refine qj_istore_n hx hb d_Md_declared_6 rfl (by decide) rfl ?_
  refine qj_iload_n hx hb d_Md_declared_7 rfl 2 rfl ?_
  refine qj_if_lt (tgt := 32) hx hb d_Md_declared_8 (by decide) (fun hc3 => ?_) (fun hc3 => ?_)
  · replace hf := q_if_t hc3 hf
    refine qj_iconst (v := (-1)) hx hb d_Md_declared_32 (by decide) ?_
    exact hret _ _ _ _ d_Md_declared_33 (congrArg (fun z => (z, M)) (Option.some.inj hf))
  · replace hf := q_if_f hc3 hf
    refine qj_iload_n hx hb d_Md_declared_11 rfl 3 rfl ?_
    refine qj_iconst (v := 3) hx hb d_Md_declared_12 (by decide) ?_
    refine qj_icmp_lt (tgt := 32) hx hb d_Md_declared_13 (by decide) (fun hc4 => ?_) (fun hc4 => ?_)
    · replace hf := q_if_t hc4 hf
      refine qj_iconst (v := (-1)) hx hb d_Md_declared_32 (by decide) ?_
      exact hret _ _ _ _ d_Md_declared_33 (congrArg (fun z => (z, M)) (Option.some.inj hf))
    · replace hf := q_if_f hc4 hf
      refine qj_iload_n hx hb d_Md_declared_16 rfl 3 rfl ?_
      refine qj_iconst (v := 4) hx hb d_Md_declared_17 (by decide) ?_
      refine qj_icmp_gt (tgt := 32) hx hb d_Md_declared_18 (by decide) (fun hc5 => ?_) (fun hc5 => ?_)
      · replace hf := q_if_t hc5 hf
        refine qj_iconst (v := (-1)) hx hb d_Md_declared_32 (by decide) ?_
        exact hret _ _ _ _ d_Md_declared_33 (congrArg (fun z => (z, M)) (Option.some.inj hf))
      · replace hf := q_if_f hc5 hf
        refine qj_aload_n hx hb d_Md_declared_21 rfl 1 rfl ?_
        refine qj_get hx hb hts hin_12 hown hK (by decide) rfl rfl 31 (by decide) (hts _ tw_632) (fun _ h => h) (qr (some 21)) rfl d_Md_declared_22 ?_
        refine qj_iconst (v := 1) hx hb d_Md_declared_25 (by decide) ?_
        have hf9 := q_ix_s hf; clear hf; obtain ⟨hi6, hf⟩ := hf9
        refine qj_iald (t0 := 0) hx hb hK (by decide) (fun _ _ => rfl) rfl hi6 d_Md_declared_26 ?_
        refine qj_bipush (v := 58) hx hb d_Md_declared_27 (by decide) ?_
        refine qj_icmp_eq (tgt := 34) hx hb d_Md_declared_29 (by decide) (fun hc7 => ?_) (fun hc7 => ?_)
        · replace hf := q_if_t hc7 hf
          refine qj_iload_n hx hb d_Md_declared_34 rfl 2 rfl ?_
          refine qj_iconst (v := 3) hx hb d_Md_declared_35 (by decide) ?_
          refine qj_icmp_ne (tgt := 68) hx hb d_Md_declared_36 (by decide) (fun hc8 => ?_) (fun hc8 => ?_)
          · replace hf := q_if_f hc8 hf
            refine qj_iload_n hx hb d_Md_declared_68 rfl 0 rfl ?_
            have hf9 := q_bp_s hf; clear hf; obtain ⟨x9, hx9, hf⟩ := hf9
            refine qc_Si (st := []) hx hb hml hown hts hK qT_ok hs (c_Md_digit x2 M _ hx9) ⟨(callB_of 1 hts (q_good tw_633) rfl rfl rfl (hts _ tw_459) (hts _ tw_634) (by decide +kernel) ⟨by decide, by decide⟩), (hts _ tw_635)⟩ rfl rfl (Nat.le_of_ble_eq_true rfl) d_Md_declared_69 ?_
            refine qj_if_eq (tgt := 86) hx hb d_Md_declared_72 (by decide) (fun hc10 => ?_) (fun hc10 => ?_)
            · replace hf := q_if_t hc10 hf
              refine qj_iconst (v := (-1)) hx hb d_Md_declared_86 (by decide) ?_
              exact hret _ _ _ _ d_Md_declared_87 (congrArg (fun z => (z, M)) (Option.some.inj hf))
            · replace hf := q_if_f hc10 hf
              refine qj_iload_n hx hb d_Md_declared_75 rfl 2 rfl ?_
              refine qj_iconst (v := 2) hx hb d_Md_declared_76 (by decide) ?_
              have hf9 := q_lt_s hf; clear hf; obtain ⟨j17, ej17, hf⟩ := hf9
              have hj17 : j17 = some out → QJ p l e rm_Md_declared s m args below meth c (qA 38 b) b 4 0 0 Q (qWd D (enM dA b) 38 b) M 88 [(0, qr (some 0)), (1, qi a1), (2, qi a2), (3, qi x2)] [] := by
                clear hf
                intro hf
                rw [ej17] at hf
                refine qj_iload_n hx hb d_Md_declared_88 rfl 2 rfl ?_
                refine qj_iconst (v := 3) hx hb d_Md_declared_89 (by decide) ?_
                refine qj_icmp_ne (tgt := 98) hx hb d_Md_declared_90 (by decide) (fun hc11 => ?_) (fun hc11 => ?_)
                · replace hf := q_if_f hc11 hf
                  refine qj_iload_n hx hb d_Md_declared_98 rfl 1 rfl ?_
                  refine qj_iconst (v := 4) hx hb d_Md_declared_99 (by decide) ?_
                  refine qj_icmp_lt (tgt := 135) hx hb d_Md_declared_100 (by decide) (fun hc12 => ?_) (fun hc12 => ?_)
                  · replace hf := q_if_t hc12 hf
                    refine qj_iconst (v := (-1)) hx hb d_Md_declared_135 (by decide) ?_
                    exact hret _ _ _ _ d_Md_declared_136 (congrArg (fun z => (z, M)) (Option.some.inj hf))
                  · replace hf := q_if_f hc12 hf
                    refine qj_aload_n hx hb d_Md_declared_103 rfl 0 rfl ?_
                    refine qj_get hx hb hts hin_12 hown hK (by decide) rfl rfl 31 (by decide) (hts _ tw_632) (fun _ h => h) (qr (some 21)) rfl d_Md_declared_104 ?_
                    refine qj_iconst (v := 3) hx hb d_Md_declared_107 (by decide) ?_
                    have hf9 := q_ix_s hf; clear hf; obtain ⟨hi13, hf⟩ := hf9
                    refine qj_iald (t0 := 0) hx hb hK (by decide) (fun _ _ => rfl) rfl hi13 d_Md_declared_108 ?_
                    have hf9 := q_bp_s hf; clear hf; obtain ⟨x14, hx14, hf⟩ := hf9
                    refine qc_Si (st := []) hx hb hml hown hts hK qT_ok hs (c_Md_digit (M.1 21 (3 : Int32).toNatClampNeg) M _ hx14) ⟨(callB_of 1 hts (q_good tw_633) rfl rfl rfl (hts _ tw_459) (hts _ tw_634) (by decide +kernel) ⟨by decide, by decide⟩), (hts _ tw_635)⟩ rfl rfl (Nat.le_of_ble_eq_true rfl) d_Md_declared_109 ?_
                    refine qj_if_eq (tgt := 135) hx hb d_Md_declared_112 (by decide) (fun hc15 => ?_) (fun hc15 => ?_)
                    · replace hf := q_if_t hc15 hf
                      refine qj_iconst (v := (-1)) hx hb d_Md_declared_135 (by decide) ?_
                      exact hret _ _ _ _ d_Md_declared_136 (congrArg (fun z => (z, M)) (Option.some.inj hf))
                    · replace hf := q_if_f hc15 hf
                      refine qj_bipush (v := 10) hx hb d_Md_declared_115 (by decide) ?_
                      refine qj_iload_n hx hb d_Md_declared_117 rfl 3 rfl ?_
                      refine qj_bipush (v := 48) hx hb d_Md_declared_118 (by decide) ?_
                      refine qj_isub hx hb d_Md_declared_120 ?_
                      refine qj_imul hx hb d_Md_declared_121 ?_
                      refine qj_aload_n hx hb d_Md_declared_122 rfl 0 rfl ?_
                      refine qj_get hx hb hts hin_12 hown hK (by decide) rfl rfl 31 (by decide) (hts _ tw_632) (fun _ h => h) (qr (some 21)) rfl d_Md_declared_123 ?_
                      refine qj_iconst (v := 3) hx hb d_Md_declared_126 (by decide) ?_
                      have hf9 := q_ix_s hf; clear hf; obtain ⟨hi16, hf⟩ := hf9
                      refine qj_iald (t0 := 0) hx hb hK (by decide) (fun _ _ => rfl) rfl hi16 d_Md_declared_127 ?_
                      refine qj_iadd hx hb d_Md_declared_128 ?_
                      refine qj_bipush (v := 48) hx hb d_Md_declared_129 (by decide) ?_
                      refine qj_isub hx hb d_Md_declared_131 ?_
                      refine qj_goto (tgt := 136) hx hb d_Md_declared_132 (by decide) ?_
                      exact hret _ _ _ _ d_Md_declared_136 (congrArg (fun z => (z, M)) (Option.some.inj hf))
                · replace hf := q_if_t hc11 hf
                  refine qj_iload_n hx hb d_Md_declared_93 rfl 3 rfl ?_
                  refine qj_bipush (v := 48) hx hb d_Md_declared_94 (by decide) ?_
                  refine qj_isub hx hb d_Md_declared_96 ?_
                  exact hret _ _ _ _ d_Md_declared_97 (congrArg (fun z => (z, M)) (Option.some.inj hf))
              refine qj_icmp_ne (tgt := 88) hx hb d_Md_declared_77 (by decide) (fun hc18 => ?_) (fun hc18 => ?_)
              · replace hf := q_if_f hc18 hf
                refine qj_sub [1, 2, 3, 0] rfl ?_
                exact hj17  hf
              · replace hf := q_if_t hc18 hf
                refine qj_iload_n hx hb d_Md_declared_80 rfl 0 rfl ?_
                refine qj_bipush (v := 48) hx hb d_Md_declared_81 (by decide) ?_
                refine qj_icmp_ne (tgt := 88) hx hb d_Md_declared_83 (by decide) (fun hc19 => ?_) (fun hc19 => ?_)
                · replace hf := q_if_f hc19 hf
                  refine qj_sub [1, 2, 3, 0] rfl ?_
                  exact hj17  hf
                · replace hf := q_if_t hc19 hf
                  refine qj_iconst (v := (-1)) hx hb d_Md_declared_86 (by decide) ?_
                  exact hret _ _ _ _ d_Md_declared_87 (congrArg (fun z => (z, M)) (Option.some.inj hf))
          · replace hf := q_if_t hc8 hf
            refine qj_iload_n hx hb d_Md_declared_39 rfl 3 rfl ?_
            refine qj_iconst (v := 3) hx hb d_Md_declared_40 (by decide) ?_
            refine qj_icmp_ne (tgt := 66) hx hb d_Md_declared_41 (by decide) (fun hc20 => ?_) (fun hc20 => ?_)
            · replace hf := q_if_f hc20 hf
              refine qj_iconst (v := (-1)) hx hb d_Md_declared_66 (by decide) ?_
              exact hret _ _ _ _ d_Md_declared_67 (congrArg (fun z => (z, M)) (Option.some.inj hf))
            · replace hf := q_if_t hc20 hf
              refine qj_iload_n hx hb d_Md_declared_44 rfl 0 rfl ?_
              refine qj_bipush (v := 98) hx hb d_Md_declared_45 (by decide) ?_
              refine qj_icmp_eq (tgt := 62) hx hb d_Md_declared_47 (by decide) (fun hc21 => ?_) (fun hc21 => ?_)
              · replace hf := q_if_t hc21 hf
                refine qj_iload_n hx hb d_Md_declared_62 rfl 0 rfl ?_
                refine qj_goto (tgt := 67) hx hb d_Md_declared_63 (by decide) ?_
                exact hret _ _ _ _ d_Md_declared_67 (congrArg (fun z => (z, M)) (Option.some.inj hf))
              · replace hf := q_if_f hc21 hf
                refine qj_iload_n hx hb d_Md_declared_50 rfl 0 rfl ?_
                refine qj_bipush (v := 105) hx hb d_Md_declared_51 (by decide) ?_
                refine qj_icmp_eq (tgt := 62) hx hb d_Md_declared_53 (by decide) (fun hc22 => ?_) (fun hc22 => ?_)
                · replace hf := q_if_t hc22 hf
                  refine qj_iload_n hx hb d_Md_declared_62 rfl 0 rfl ?_
                  refine qj_goto (tgt := 67) hx hb d_Md_declared_63 (by decide) ?_
                  exact hret _ _ _ _ d_Md_declared_67 (congrArg (fun z => (z, M)) (Option.some.inj hf))
                · replace hf := q_if_f hc22 hf
                  refine qj_iload_n hx hb d_Md_declared_56 rfl 0 rfl ?_
                  refine qj_bipush (v := 110) hx hb d_Md_declared_57 (by decide) ?_
                  refine qj_icmp_ne (tgt := 66) hx hb d_Md_declared_59 (by decide) (fun hc23 => ?_) (fun hc23 => ?_)
                  · replace hf := q_if_f hc23 hf
                    refine qj_iconst (v := (-1)) hx hb d_Md_declared_66 (by decide) ?_
                    exact hret _ _ _ _ d_Md_declared_67 (congrArg (fun z => (z, M)) (Option.some.inj hf))
                  · replace hf := q_if_t hc23 hf
                    refine qj_iload_n hx hb d_Md_declared_62 rfl 0 rfl ?_
                    refine qj_goto (tgt := 67) hx hb d_Md_declared_63 (by decide) ?_
                    exact hret _ _ _ _ d_Md_declared_67 (congrArg (fun z => (z, M)) (Option.some.inj hf))
        · replace hf := q_if_f hc7 hf
          refine qj_iconst (v := (-1)) hx hb d_Md_declared_32 (by decide) ?_
          exact hret _ _ _ _ d_Md_declared_33 (congrArg (fun z => (z, M)) (Option.some.inj hf))
theorem d_Md_declare_0 : decode prog_14_method_53_code 0 = .ok (.aload_n 0, 1) := by decide +kernel
theorem d_Md_declare_1 : decode prog_14_method_53_code 1 = .ok (.getfield 287, 3) := by decide +kernel
theorem d_Md_declare_4 : decode prog_14_method_53_code 4 = .ok (.istore_n 2, 1) := by decide +kernel
theorem d_Md_declare_5 : decode prog_14_method_53_code 5 = .ok (.iload_n 2, 1) := by decide +kernel
theorem d_Md_declare_6 : decode prog_14_method_53_code 6 = .ok (.ifCond .le 20, 3) := by decide +kernel
theorem d_Md_declare_9 : decode prog_14_method_53_code 9 = .ok (.aload_n 0, 1) := by decide +kernel
theorem d_Md_declare_10 : decode prog_14_method_53_code 10 = .ok (.getfield 71, 3) := by decide +kernel
theorem d_Md_declare_13 : decode prog_14_method_53_code 13 = .ok (.iload_n 2, 1) := by decide +kernel
theorem d_Md_declare_14 : decode prog_14_method_53_code 14 = .ok (.iconst 1, 1) := by decide +kernel
theorem d_Md_declare_15 : decode prog_14_method_53_code 15 = .ok (.isub, 1) := by decide +kernel
theorem d_Md_declare_16 : decode prog_14_method_53_code 16 = .ok (.iaload, 1) := by decide +kernel
theorem d_Md_declare_17 : decode prog_14_method_53_code 17 = .ok (.bipush 33, 2) := by decide +kernel
theorem d_Md_declare_19 : decode prog_14_method_53_code 19 = .ok (.if_icmp .ne 7, 3) := by decide +kernel
theorem d_Md_declare_22 : decode prog_14_method_53_code 22 = .ok (.iconst 1, 1) := by decide +kernel
theorem d_Md_declare_23 : decode prog_14_method_53_code 23 = .ok (.goto 4, 3) := by decide +kernel
theorem d_Md_declare_26 : decode prog_14_method_53_code 26 = .ok (.iconst 0, 1) := by decide +kernel
theorem d_Md_declare_27 : decode prog_14_method_53_code 27 = .ok (.istore_n 3, 1) := by decide +kernel
theorem d_Md_declare_28 : decode prog_14_method_53_code 28 = .ok (.iload_n 3, 1) := by decide +kernel
theorem d_Md_declare_29 : decode prog_14_method_53_code 29 = .ok (.ifCond .eq 9, 3) := by decide +kernel
theorem d_Md_declare_32 : decode prog_14_method_53_code 32 = .ok (.iload_n 2, 1) := by decide +kernel
theorem d_Md_declare_33 : decode prog_14_method_53_code 33 = .ok (.iconst 1, 1) := by decide +kernel
theorem d_Md_declare_34 : decode prog_14_method_53_code 34 = .ok (.isub, 1) := by decide +kernel
theorem d_Md_declare_35 : decode prog_14_method_53_code 35 = .ok (.goto 4, 3) := by decide +kernel
theorem d_Md_declare_38 : decode prog_14_method_53_code 38 = .ok (.iload_n 2, 1) := by decide +kernel
theorem d_Md_declare_39 : decode prog_14_method_53_code 39 = .ok (.istore_n 2, 1) := by decide +kernel
theorem d_Md_declare_40 : decode prog_14_method_53_code 40 = .ok (.iload_n 2, 1) := by decide +kernel
theorem d_Md_declare_41 : decode prog_14_method_53_code 41 = .ok (.ifCond .le 15, 3) := by decide +kernel
theorem d_Md_declare_44 : decode prog_14_method_53_code 44 = .ok (.aload_n 0, 1) := by decide +kernel
theorem d_Md_declare_45 : decode prog_14_method_53_code 45 = .ok (.getfield 71, 3) := by decide +kernel
theorem d_Md_declare_48 : decode prog_14_method_53_code 48 = .ok (.iconst 0, 1) := by decide +kernel
theorem d_Md_declare_49 : decode prog_14_method_53_code 49 = .ok (.iaload, 1) := by decide +kernel
theorem d_Md_declare_50 : decode prog_14_method_53_code 50 = .ok (.invokestatic 290, 3) := by decide +kernel
theorem d_Md_declare_53 : decode prog_14_method_53_code 53 = .ok (.goto 4, 3) := by decide +kernel
theorem d_Md_declare_56 : decode prog_14_method_53_code 56 = .ok (.iconst (-1), 1) := by decide +kernel
theorem d_Md_declare_57 : decode prog_14_method_53_code 57 = .ok (.istore 4, 2) := by decide +kernel
theorem d_Md_declare_59 : decode prog_14_method_53_code 59 = .ok (.aload_n 0, 1) := by decide +kernel
theorem d_Md_declare_60 : decode prog_14_method_53_code 60 = .ok (.iload 4, 2) := by decide +kernel
theorem d_Md_declare_62 : decode prog_14_method_53_code 62 = .ok (.iload_n 2, 1) := by decide +kernel
theorem d_Md_declare_63 : decode prog_14_method_53_code 63 = .ok (.invokevirtual 293, 3) := by decide +kernel
theorem d_Md_declare_66 : decode prog_14_method_53_code 66 = .ok (.istore 5, 2) := by decide +kernel
theorem d_Md_declare_68 : decode prog_14_method_53_code 68 = .ok (.aload_n 0, 1) := by decide +kernel
theorem d_Md_declare_69 : decode prog_14_method_53_code 69 = .ok (.iconst 0, 1) := by decide +kernel
theorem d_Md_declare_70 : decode prog_14_method_53_code 70 = .ok (.putfield 287, 3) := by decide +kernel
theorem d_Md_declare_73 : decode prog_14_method_53_code 73 = .ok (.iload 5, 2) := by decide +kernel
theorem d_Md_declare_75 : decode prog_14_method_53_code 75 = .ok (.ifCond .ge 4, 3) := by decide +kernel
theorem d_Md_declare_78 : decode prog_14_method_53_code 78 = .ok (.return_, 1) := by decide +kernel
theorem d_Md_declare_79 : decode prog_14_method_53_code 79 = .ok (.iload_n 3, 1) := by decide +kernel
theorem d_Md_declare_80 : decode prog_14_method_53_code 80 = .ok (.ifCond .eq 9, 3) := by decide +kernel
theorem d_Md_declare_83 : decode prog_14_method_53_code 83 = .ok (.ldc_w 296, 3) := by decide +kernel
theorem d_Md_declare_86 : decode prog_14_method_53_code 86 = .ok (.goto 4, 3) := by decide +kernel
theorem d_Md_declare_89 : decode prog_14_method_53_code 89 = .ok (.iconst 0, 1) := by decide +kernel
theorem d_Md_declare_90 : decode prog_14_method_53_code 90 = .ok (.bipush 10, 2) := by decide +kernel
theorem d_Md_declare_92 : decode prog_14_method_53_code 92 = .ok (.aload_n 0, 1) := by decide +kernel
theorem d_Md_declare_93 : decode prog_14_method_53_code 93 = .ok (.getfield 59, 3) := by decide +kernel
theorem d_Md_declare_96 : decode prog_14_method_53_code 96 = .ok (.iload_n 1, 1) := by decide +kernel
theorem d_Md_declare_97 : decode prog_14_method_53_code 97 = .ok (.iaload, 1) := by decide +kernel
theorem d_Md_declare_98 : decode prog_14_method_53_code 98 = .ok (.imul, 1) := by decide +kernel
theorem d_Md_declare_99 : decode prog_14_method_53_code 99 = .ok (.iadd, 1) := by decide +kernel
theorem d_Md_declare_100 : decode prog_14_method_53_code 100 = .ok (.aload_n 0, 1) := by decide +kernel
theorem d_Md_declare_101 : decode prog_14_method_53_code 101 = .ok (.getfield 62, 3) := by decide +kernel
theorem d_Md_declare_104 : decode prog_14_method_53_code 104 = .ok (.iload_n 1, 1) := by decide +kernel
theorem d_Md_declare_105 : decode prog_14_method_53_code 105 = .ok (.iaload, 1) := by decide +kernel
theorem d_Md_declare_106 : decode prog_14_method_53_code 106 = .ok (.iadd, 1) := by decide +kernel
theorem d_Md_declare_107 : decode prog_14_method_53_code 107 = .ok (.istore 6, 2) := by decide +kernel
theorem d_Md_declare_109 : decode prog_14_method_53_code 109 = .ok (.iconst 0, 1) := by decide +kernel
theorem d_Md_declare_110 : decode prog_14_method_53_code 110 = .ok (.istore 7, 2) := by decide +kernel
theorem d_Md_declare_112 : decode prog_14_method_53_code 112 = .ok (.iload 7, 2) := by decide +kernel
theorem d_Md_declare_114 : decode prog_14_method_53_code 114 = .ok (.aload_n 0, 1) := by decide +kernel
theorem d_Md_declare_115 : decode prog_14_method_53_code 115 = .ok (.getfield 142, 3) := by decide +kernel
theorem d_Md_declare_118 : decode prog_14_method_53_code 118 = .ok (.if_icmp .ge 77, 3) := by decide +kernel
theorem d_Md_declare_121 : decode prog_14_method_53_code 121 = .ok (.aload_n 0, 1) := by decide +kernel
theorem d_Md_declare_122 : decode prog_14_method_53_code 122 = .ok (.getfield 77, 3) := by decide +kernel
theorem d_Md_declare_125 : decode prog_14_method_53_code 125 = .ok (.bipush 40, 2) := by decide +kernel
theorem d_Md_declare_127 : decode prog_14_method_53_code 127 = .ok (.aload_n 0, 1) := by decide +kernel
theorem d_Md_declare_128 : decode prog_14_method_53_code 128 = .ok (.getfield 56, 3) := by decide +kernel
theorem d_Md_declare_131 : decode prog_14_method_53_code 131 = .ok (.iload_n 1, 1) := by decide +kernel
theorem d_Md_declare_132 : decode prog_14_method_53_code 132 = .ok (.iaload, 1) := by decide +kernel
theorem d_Md_declare_133 : decode prog_14_method_53_code 133 = .ok (.imul, 1) := by decide +kernel
theorem d_Md_declare_134 : decode prog_14_method_53_code 134 = .ok (.iload 7, 2) := by decide +kernel
theorem d_Md_declare_136 : decode prog_14_method_53_code 136 = .ok (.iadd, 1) := by decide +kernel
theorem d_Md_declare_137 : decode prog_14_method_53_code 137 = .ok (.baload, 1) := by decide +kernel
theorem d_Md_declare_138 : decode prog_14_method_53_code 138 = .ok (.ifCond .eq 51, 3) := by decide +kernel
theorem d_Md_declare_141 : decode prog_14_method_53_code 141 = .ok (.iload 6, 2) := by decide +kernel
theorem d_Md_declare_143 : decode prog_14_method_53_code 143 = .ok (.aload_n 0, 1) := by decide +kernel
theorem d_Md_declare_144 : decode prog_14_method_53_code 144 = .ok (.getfield 80, 3) := by decide +kernel
theorem d_Md_declare_147 : decode prog_14_method_53_code 147 = .ok (.bipush 40, 2) := by decide +kernel
theorem d_Md_declare_149 : decode prog_14_method_53_code 149 = .ok (.iload 4, 2) := by decide +kernel
theorem d_Md_declare_151 : decode prog_14_method_53_code 151 = .ok (.imul, 1) := by decide +kernel
theorem d_Md_declare_152 : decode prog_14_method_53_code 152 = .ok (.iload 7, 2) := by decide +kernel
theorem d_Md_declare_154 : decode prog_14_method_53_code 154 = .ok (.iadd, 1) := by decide +kernel
theorem d_Md_declare_155 : decode prog_14_method_53_code 155 = .ok (.iaload, 1) := by decide +kernel
theorem d_Md_declare_156 : decode prog_14_method_53_code 156 = .ok (.if_icmp .lt 33, 3) := by decide +kernel
theorem d_Md_declare_159 : decode prog_14_method_53_code 159 = .ok (.aload_n 0, 1) := by decide +kernel
theorem d_Md_declare_160 : decode prog_14_method_53_code 160 = .ok (.getfield 80, 3) := by decide +kernel
theorem d_Md_declare_163 : decode prog_14_method_53_code 163 = .ok (.bipush 40, 2) := by decide +kernel
theorem d_Md_declare_165 : decode prog_14_method_53_code 165 = .ok (.iload 4, 2) := by decide +kernel
theorem d_Md_declare_167 : decode prog_14_method_53_code 167 = .ok (.imul, 1) := by decide +kernel
theorem d_Md_declare_168 : decode prog_14_method_53_code 168 = .ok (.iload 7, 2) := by decide +kernel
theorem d_Md_declare_170 : decode prog_14_method_53_code 170 = .ok (.iadd, 1) := by decide +kernel
theorem d_Md_declare_171 : decode prog_14_method_53_code 171 = .ok (.iload 6, 2) := by decide +kernel
theorem d_Md_declare_173 : decode prog_14_method_53_code 173 = .ok (.iastore, 1) := by decide +kernel
theorem d_Md_declare_174 : decode prog_14_method_53_code 174 = .ok (.aload_n 0, 1) := by decide +kernel
theorem d_Md_declare_175 : decode prog_14_method_53_code 175 = .ok (.getfield 83, 3) := by decide +kernel
theorem d_Md_declare_178 : decode prog_14_method_53_code 178 = .ok (.bipush 40, 2) := by decide +kernel
theorem d_Md_declare_180 : decode prog_14_method_53_code 180 = .ok (.iload 4, 2) := by decide +kernel
theorem d_Md_declare_182 : decode prog_14_method_53_code 182 = .ok (.imul, 1) := by decide +kernel
theorem d_Md_declare_183 : decode prog_14_method_53_code 183 = .ok (.iload 7, 2) := by decide +kernel
theorem d_Md_declare_185 : decode prog_14_method_53_code 185 = .ok (.iadd, 1) := by decide +kernel
theorem d_Md_declare_186 : decode prog_14_method_53_code 186 = .ok (.iload 5, 2) := by decide +kernel
theorem d_Md_declare_188 : decode prog_14_method_53_code 188 = .ok (.iastore, 1) := by decide +kernel
theorem d_Md_declare_189 : decode prog_14_method_53_code 189 = .ok (.iinc 7 1, 3) := by decide +kernel
theorem d_Md_declare_192 : decode prog_14_method_53_code 192 = .ok (.goto (-80), 3) := by decide +kernel
theorem d_Md_declare_195 : decode prog_14_method_53_code 195 = .ok (.return_, 1) := by decide +kernel
def f_Md_declare_112 (a1 : Int32) (x3 : Int32) (x10 : Int32) (x4 : Int32) : Nat → (qM → Option qM) → Int32 → qM → Option qM
  | 0, _, _, _ => none
  | n + 1, K13, x11, M12 => if (M12.1 0 5) ≤ x11 then (K13 M12) else (q_ix a1 12 <| q_ix ((40 * (M12.1 16 a1.toNatClampNeg)) + x11) 200 <| if (M12.1 23 ((40 * (M12.1 16 a1.toNatClampNeg)) + x11).toNatClampNeg) = 0 then (f_Md_declare_112 a1 x3 x10 x4 n K13 (x11 + 1) M12) else (q_ix ((40 * x3) + x11) 280 <| if x10 < (M12.1 24 ((40 * x3) + x11).toNatClampNeg) then (f_Md_declare_112 a1 x3 x10 x4 n K13 (x11 + 1) M12) else (q_ix ((40 * x3) + x11) 280 <| q_lt (qsI M12 24 ((40 * x3) + x11).toNatClampNeg x10) fun M21 => q_ix ((40 * x3) + x11) 280 <| q_lt (qsI M21 25 ((40 * x3) + x11).toNatClampNeg x4) fun M23 => f_Md_declare_112 a1 x3 x10 x4 n K13 (x11 + 1) M23)))
def f_Md_declare (a1 : Int32) (M : qM) : Option qM := q_lt (fun (x1 : Int32) => q_lt (fun (x2 : Int32) => q_lt (fun (x3 : Int32) => q_bp (f_Md_declared x3 x2 M) fun x4 => q_lt (qsI M 0 32 0) fun M5 => if 0 ≤ x4 then (q_lt (fun (x7 : Int32) => q_ix a1 12 <| q_ix a1 12 <| q_lt ((x7 + (10 * (M5.1 17 a1.toNatClampNeg))) + (M5.1 18 a1.toNatClampNeg)) fun x10 => f_Md_declare_112 a1 x3 x10 x4 1000 (fun (M24 : qM) => some M24) 0 M5) fun (j25 : Int32 → Option qM) => if x1 = 0 then (j25 0) else (j25 100000)) else (some M5)) fun (j27 : Int32 → Option qM) => if x2 ≤ 0 then (j27 (-1)) else (q_ix (0 : Int32) 120 <| q_bp (f_Md_propertyIndex (M.1 21 (0 : Int32).toNatClampNeg) M) fun x30 => j27 x30)) fun (j31 : Int32 → Option qM) => if x1 = 0 then (j31 (M.1 0 32)) else (j31 ((M.1 0 32) - 1))) fun (j33 : Int32 → Option qM) => q_lt (j33 0) fun (j34 : Option qM) => if (M.1 0 32) ≤ 0 then (j34) else (q_ix ((M.1 0 32) - 1) 120 <| if (M.1 21 ((M.1 0 32) - 1).toNatClampNeg) = 33 then (j33 1) else (j34))
abbrev rm_Md_declare : Room := { frames := 2, cells := 0, slots := 0, locals := 43 }
set_option maxRecDepth 100000 in
set_option maxHeartbeats 4000000 in
theorem c_Md_declare {l : Launch} {D : va_G} {dA : Nat → ClassId} {b : Nat} (a1 : Int32)  (M : qM) (out : qM) (hf : f_Md_declare a1 M = some out) : CTv l y_Md_declare w_Md_declare rm_Md_declare D (tysX dA) (enM dA b) 38 b (fun _ => True) [qr (some 0), qi a1] M out := by
  refine qm_v (cc := prog_14_method_53_code) (nL := 8) (by decide) rfl (Nat.le_of_ble_eq_true rfl) ?_
  intro p e s m args below meth c Q hx hb hts0 hown hml hK hs hret
  have hts : ∀ w ∈ lw_g, w.before args s = true := fun w h => hts0 w (List.mem_cons_of_mem _ h)
  show QJ p l e rm_Md_declare s m args below meth c (qA 38 b) b 8 0 0 Q (qWd D (enM dA b) 38 b) M 0 [(0, qr (some 0)), (1, qi a1)] []
  unfold f_Md_declare at hf
  refine qj_aload_n hx hb d_Md_declare_0 rfl 0 rfl ?_
  refine qj_get hx hb hts hin_12 hown hK (by decide) rfl rfl 32 (by decide) (hts _ tw_636) (fun _ h => h) (qi (M.1 0 32)) rfl d_Md_declare_1 ?_
  refine qj_istore_n hx hb d_Md_declare_4 rfl (by decide) rfl ?_
  refine qj_iload_n hx hb d_Md_declare_5 rfl 0 rfl ?_
  have hf9 := q_lt_s hf; clear hf; obtain ⟨j33, ej33, hf⟩ := hf9
  have hj33 : ∀ (x1 : Int32), j33 x1 = some out → QJ p l e rm_Md_declare s m args below meth c (qA 38 b) b 8 0 0 Q (qWd D (enM dA b) 38 b) M 27 [(0, qr (some 0)), (1, qi a1), (2, qi (M.1 0 32))] [qi x1] := by
    clear hf
    intro x1 hf
    rw [ej33] at hf
    refine qj_istore_n hx hb d_Md_declare_27 rfl (by decide) rfl ?_
    refine qj_iload_n hx hb d_Md_declare_28 rfl 0 rfl ?_
    have hf9 := q_lt_s hf; clear hf; obtain ⟨j31, ej31, hf⟩ := hf9
    have hj31 : ∀ (x2 : Int32), j31 x2 = some out → QJ p l e rm_Md_declare s m args below meth c (qA 38 b) b 8 0 0 Q (qWd D (enM dA b) 38 b) M 39 [(0, qr (some 0)), (1, qi a1), (3, qi x1)] [qi x2] := by
      clear hf
      intro x2 hf
      rw [ej31] at hf
      refine qj_istore_n hx hb d_Md_declare_39 rfl (by decide) rfl ?_
      refine qj_iload_n hx hb d_Md_declare_40 rfl 0 rfl ?_
      have hf9 := q_lt_s hf; clear hf; obtain ⟨j27, ej27, hf⟩ := hf9
      have hj27 : ∀ (x3 : Int32), j27 x3 = some out → QJ p l e rm_Md_declare s m args below meth c (qA 38 b) b 8 0 0 Q (qWd D (enM dA b) 38 b) M 57 [(0, qr (some 0)), (1, qi a1), (2, qi x2), (3, qi x1)] [qi x3] := by
        clear hf
        intro x3 hf
        rw [ej27] at hf
        refine qj_istore hx hb d_Md_declare_57 (by decide) rfl ?_
        refine qj_aload_n hx hb d_Md_declare_59 rfl 1 rfl ?_
        refine qj_iload hx hb d_Md_declare_60 0 rfl ?_
        refine qj_iload_n hx hb d_Md_declare_62 rfl 3 rfl ?_
        have hf9 := q_bp_s hf; clear hf; obtain ⟨x4, hx4, hf⟩ := hf9
        refine qc_Vi (st := []) hx hb hml hown hts hK qT_ok hs (c_Md_declared x3 x2 M _ hx4) ⟨(callB_of 2 hts (q_good tw_637) rfl rfl rfl (hts _ tw_459) (hts _ tw_638) (by decide +kernel) ⟨by decide, by decide⟩), (hts _ tw_639), (hts _ tw_640)⟩ (by decide) rfl rfl rfl rfl (Nat.le_of_ble_eq_true rfl) d_Md_declare_63 ?_
        refine qj_istore hx hb d_Md_declare_66 (by decide) rfl ?_
        refine qj_aload_n hx hb d_Md_declare_68 rfl 2 rfl ?_
        refine qj_iconst (v := 0) hx hb d_Md_declare_69 (by decide) ?_
        have hf9 := q_lt_s hf; clear hf; obtain ⟨M5, eM5, hf⟩ := hf9
        refine qj_puti (ty := .int) hx hb hts hin_12 ty_12 tyok_12 nm_12 hown hK (by decide) rfl rfl 32 (by decide) (hts _ tw_636) (fun _ h => h) rfl (by decide +kernel) rfl rfl (Nat.le_of_ble_eq_true rfl) sm_32 eM5 d_Md_declare_70 ?_
        refine qj_iload hx hb d_Md_declare_73 0 rfl ?_
        refine qj_if_ge (tgt := 79) hx hb d_Md_declare_75 (by decide) (fun hc6 => ?_) (fun hc6 => ?_)
        · replace hf := q_if_t hc6 hf
          refine qj_iload_n hx hb d_Md_declare_79 rfl 5 rfl ?_
          have hf9 := q_lt_s hf; clear hf; obtain ⟨j25, ej25, hf⟩ := hf9
          have hj25 : ∀ (x7 : Int32), j25 x7 = some out → QJ p l e rm_Md_declare s m args below meth c (qA 38 b) b 8 0 0 Q (qWd D (enM dA b) 38 b) M5 90 [(0, qr (some 0)), (1, qi a1), (4, qi x3), (5, qi x4)] [qi x7] := by
            clear hf
            intro x7 hf
            rw [ej25] at hf
            refine qj_bipush (v := 10) hx hb d_Md_declare_90 (by decide) ?_
            refine qj_aload_n hx hb d_Md_declare_92 rfl 0 rfl ?_
            refine qj_get hx hb hts hin_12 hown hK (by decide) rfl rfl 27 (by decide) (hts _ tw_606) (fun _ h => h) (qr (some 17)) rfl d_Md_declare_93 ?_
            refine qj_iload_n hx hb d_Md_declare_96 rfl 1 rfl ?_
            have hf9 := q_ix_s hf; clear hf; obtain ⟨hi8, hf⟩ := hf9
            refine qj_iald (t0 := 0) hx hb hK (by decide) (fun _ _ => rfl) rfl hi8 d_Md_declare_97 ?_
            refine qj_imul hx hb d_Md_declare_98 ?_
            refine qj_iadd hx hb d_Md_declare_99 ?_
            refine qj_aload_n hx hb d_Md_declare_100 rfl 0 rfl ?_
            refine qj_get hx hb hts hin_12 hown hK (by decide) rfl rfl 28 (by decide) (hts _ tw_607) (fun _ h => h) (qr (some 18)) rfl d_Md_declare_101 ?_
            refine qj_iload_n hx hb d_Md_declare_104 rfl 1 rfl ?_
            have hf9 := q_ix_s hf; clear hf; obtain ⟨hi9, hf⟩ := hf9
            refine qj_iald (t0 := 0) hx hb hK (by decide) (fun _ _ => rfl) rfl hi9 d_Md_declare_105 ?_
            refine qj_iadd hx hb d_Md_declare_106 ?_
            have hf9 := q_lt_s hf; clear hf; obtain ⟨x10, ex10, hf⟩ := hf9
            rw [← ex10]
            refine qj_istore hx hb d_Md_declare_107 (by decide) rfl ?_
            refine qj_iconst (v := 0) hx hb d_Md_declare_109 (by decide) ?_
            refine qj_istore hx hb d_Md_declare_110 (by decide) rfl ?_
            have hL112 : ∀ (n : Nat) (K13 : qM → Option qM), (∀ (M24 : qM), K13 M24 = some out → QJ p l e rm_Md_declare s m args below meth c (qA 38 b) b 8 0 0 Q (qWd D (enM dA b) 38 b) M24 195 [] []) → ∀ (x11 : Int32) (M12 : qM), f_Md_declare_112 a1 x3 x10 x4 n K13 x11 M12 = some out → QJ p l e rm_Md_declare s m args below meth c (qA 38 b) b 8 0 0 Q (qWd D (enM dA b) 38 b) M12 112 [(0, qr (some 0)), (1, qi a1), (4, qi x3), (5, qi x4), (6, qi x10), (7, qi x11)] [] := by
              clear hf
              intro n
              induction n with
              | zero =>
                intro K13 hK13 x11 M12 hf
                exact absurd hf (by simp [f_Md_declare_112])
              | succ n ih112 =>
                intro K13 hK13 x11 M12 hf
                rw [f_Md_declare_112] at hf
                have ih112 := ih112 K13 hK13
                refine qj_iload hx hb d_Md_declare_112 5 rfl ?_
                refine qj_aload_n hx hb d_Md_declare_114 rfl 0 rfl ?_
                refine qj_get hx hb hts hin_12 hown hK (by decide) rfl rfl 5 (by decide) (hts _ tw_447) (fun _ h => h) (qi (M12.1 0 5)) rfl d_Md_declare_115 ?_
                refine qj_icmp_ge (tgt := 195) hx hb d_Md_declare_118 (by decide) (fun hc14 => ?_) (fun hc14 => ?_)
                · replace hf := q_if_t hc14 hf
                  refine qj_sub [] rfl ?_
                  exact hK13 M12 hf
                · replace hf := q_if_f hc14 hf
                  refine qj_aload_n hx hb d_Md_declare_121 rfl 0 rfl ?_
                  refine qj_get hx hb hts hin_12 hown hK (by decide) rfl rfl 34 (by decide) (hts _ tw_631) (fun _ h => h) (qr (some 23)) rfl d_Md_declare_122 ?_
                  refine qj_bipush (v := 40) hx hb d_Md_declare_125 (by decide) ?_
                  refine qj_aload_n hx hb d_Md_declare_127 rfl 0 rfl ?_
                  refine qj_get hx hb hts hin_12 hown hK (by decide) rfl rfl 26 (by decide) (hts _ tw_615) (fun _ h => h) (qr (some 16)) rfl d_Md_declare_128 ?_
                  refine qj_iload_n hx hb d_Md_declare_131 rfl 1 rfl ?_
                  have hf9 := q_ix_s hf; clear hf; obtain ⟨hi15, hf⟩ := hf9
                  refine qj_iald (t0 := 0) hx hb hK (by decide) (fun _ _ => rfl) rfl hi15 d_Md_declare_132 ?_
                  refine qj_imul hx hb d_Md_declare_133 ?_
                  refine qj_iload hx hb d_Md_declare_134 5 rfl ?_
                  refine qj_iadd hx hb d_Md_declare_136 ?_
                  have hf9 := q_ix_s hf; clear hf; obtain ⟨hi16, hf⟩ := hf9
                  refine qj_zald (t0 := 2) hx hb hK (by decide) (fun _ _ => rfl) rfl hi16 d_Md_declare_137 ?_
                  refine qj_if_eq (tgt := 189) hx hb d_Md_declare_138 (by decide) (fun hc17 => ?_) (fun hc17 => ?_)
                  · replace hf := q_if_t hc17 hf
                    refine qj_iinc (j := 5) (v := x11 + 1) hx hb d_Md_declare_189 rfl rfl (by decide) rfl ?_
                    refine qj_goto (tgt := 112) hx hb d_Md_declare_192 (by decide) ?_
                    refine qj_sub [1, 2, 3, 4, 5, 0] rfl ?_
                    exact ih112 (x11 + 1) M12 hf
                  · replace hf := q_if_f hc17 hf
                    refine qj_iload hx hb d_Md_declare_141 4 rfl ?_
                    refine qj_aload_n hx hb d_Md_declare_143 rfl 0 rfl ?_
                    refine qj_get hx hb hts hin_12 hown hK (by decide) rfl rfl 35 (by decide) (hts _ tw_641) (fun _ h => h) (qr (some 24)) rfl d_Md_declare_144 ?_
                    refine qj_bipush (v := 40) hx hb d_Md_declare_147 (by decide) ?_
                    refine qj_iload hx hb d_Md_declare_149 2 rfl ?_
                    refine qj_imul hx hb d_Md_declare_151 ?_
                    refine qj_iload hx hb d_Md_declare_152 5 rfl ?_
                    refine qj_iadd hx hb d_Md_declare_154 ?_
                    have hf9 := q_ix_s hf; clear hf; obtain ⟨hi18, hf⟩ := hf9
                    refine qj_iald (t0 := 0) hx hb hK (by decide) (fun _ _ => rfl) rfl hi18 d_Md_declare_155 ?_
                    refine qj_icmp_lt (tgt := 189) hx hb d_Md_declare_156 (by decide) (fun hc19 => ?_) (fun hc19 => ?_)
                    · replace hf := q_if_t hc19 hf
                      refine qj_iinc (j := 5) (v := x11 + 1) hx hb d_Md_declare_189 rfl rfl (by decide) rfl ?_
                      refine qj_goto (tgt := 112) hx hb d_Md_declare_192 (by decide) ?_
                      refine qj_sub [1, 2, 3, 4, 5, 0] rfl ?_
                      exact ih112 (x11 + 1) M12 hf
                    · replace hf := q_if_f hc19 hf
                      refine qj_aload_n hx hb d_Md_declare_159 rfl 0 rfl ?_
                      refine qj_get hx hb hts hin_12 hown hK (by decide) rfl rfl 35 (by decide) (hts _ tw_641) (fun _ h => h) (qr (some 24)) rfl d_Md_declare_160 ?_
                      refine qj_bipush (v := 40) hx hb d_Md_declare_163 (by decide) ?_
                      refine qj_iload hx hb d_Md_declare_165 2 rfl ?_
                      refine qj_imul hx hb d_Md_declare_167 ?_
                      refine qj_iload hx hb d_Md_declare_168 5 rfl ?_
                      refine qj_iadd hx hb d_Md_declare_170 ?_
                      refine qj_iload hx hb d_Md_declare_171 4 rfl ?_
                      have hf9 := q_ix_s hf; clear hf; obtain ⟨hi20, hf⟩ := hf9
                      have hf9 := q_lt_s hf; clear hf; obtain ⟨M21, eM21, hf⟩ := hf9
                      refine qj_iast (t0 := 0) hx hb hK (by decide) (fun _ _ => rfl) rfl hi20 eM21 d_Md_declare_173 ?_
                      refine qj_aload_n hx hb d_Md_declare_174 rfl 0 rfl ?_
                      refine qj_get hx hb hts hin_12 hown hK (by decide) rfl rfl 36 (by decide) (hts _ tw_642) (fun _ h => h) (qr (some 25)) rfl d_Md_declare_175 ?_
                      refine qj_bipush (v := 40) hx hb d_Md_declare_178 (by decide) ?_
                      refine qj_iload hx hb d_Md_declare_180 2 rfl ?_
                      refine qj_imul hx hb d_Md_declare_182 ?_
                      refine qj_iload hx hb d_Md_declare_183 5 rfl ?_
                      refine qj_iadd hx hb d_Md_declare_185 ?_
                      refine qj_iload hx hb d_Md_declare_186 3 rfl ?_
                      have hf9 := q_ix_s hf; clear hf; obtain ⟨hi22, hf⟩ := hf9
                      have hf9 := q_lt_s hf; clear hf; obtain ⟨M23, eM23, hf⟩ := hf9
                      refine qj_iast (t0 := 0) hx hb hK (by decide) (fun _ _ => rfl) rfl hi22 eM23 d_Md_declare_188 ?_
                      refine qj_iinc (j := 5) (v := x11 + 1) hx hb d_Md_declare_189 rfl rfl (by decide) rfl ?_
                      refine qj_goto (tgt := 112) hx hb d_Md_declare_192 (by decide) ?_
                      refine qj_sub [1, 2, 3, 4, 5, 0] rfl ?_
                      exact ih112 (x11 + 1) M23 hf
            refine qj_sub [2, 3, 4, 5, 1, 0] rfl ?_
            refine hL112 _ _ (fun M24 hf9 => ?_) 0 M5 hf
            clear hf; have hf := hf9; clear hf9
            exact hret _ _ _ d_Md_declare_195 (Option.some.inj hf)
          refine qj_if_eq (tgt := 89) hx hb d_Md_declare_80 (by decide) (fun hc26 => ?_) (fun hc26 => ?_)
          · replace hf := q_if_t hc26 hf
            refine qj_iconst (v := 0) hx hb d_Md_declare_89 (by decide) ?_
            refine qj_sub [2, 3, 1, 0] rfl ?_
            exact hj25 0 hf
          · replace hf := q_if_f hc26 hf
            refine qj_ldcw (v := 100000) hx hb hown (hts _ tw_643) d_Md_declare_83 ?_
            refine qj_goto (tgt := 90) hx hb d_Md_declare_86 (by decide) ?_
            refine qj_sub [2, 3, 1, 0] rfl ?_
            exact hj25 100000 hf
        · replace hf := q_if_f hc6 hf
          exact hret _ _ _ d_Md_declare_78 (Option.some.inj hf)
      refine qj_if_le (tgt := 56) hx hb d_Md_declare_41 (by decide) (fun hc28 => ?_) (fun hc28 => ?_)
      · replace hf := q_if_t hc28 hf
        refine qj_iconst (v := (-1)) hx hb d_Md_declare_56 (by decide) ?_
        refine qj_sub [1, 2, 0, 3] rfl ?_
        exact hj27 (-1) hf
      · replace hf := q_if_f hc28 hf
        refine qj_aload_n hx hb d_Md_declare_44 rfl 1 rfl ?_
        refine qj_get hx hb hts hin_12 hown hK (by decide) rfl rfl 31 (by decide) (hts _ tw_632) (fun _ h => h) (qr (some 21)) rfl d_Md_declare_45 ?_
        refine qj_iconst (v := 0) hx hb d_Md_declare_48 (by decide) ?_
        have hf9 := q_ix_s hf; clear hf; obtain ⟨hi29, hf⟩ := hf9
        refine qj_iald (t0 := 0) hx hb hK (by decide) (fun _ _ => rfl) rfl hi29 d_Md_declare_49 ?_
        have hf9 := q_bp_s hf; clear hf; obtain ⟨x30, hx30, hf⟩ := hf9
        refine qc_Si (st := []) hx hb hml hown hts hK qT_ok hs (c_Md_propertyIndex (M.1 21 (0 : Int32).toNatClampNeg) M _ hx30) ⟨(callB_of 1 hts (q_good tw_644) rfl rfl rfl (hts _ tw_459) (hts _ tw_645) (by decide +kernel) ⟨by decide, by decide⟩), (hts _ tw_646)⟩ rfl rfl (Nat.le_of_ble_eq_true rfl) d_Md_declare_50 ?_
        refine qj_goto (tgt := 57) hx hb d_Md_declare_53 (by decide) ?_
        refine qj_sub [1, 2, 0, 3] rfl ?_
        exact hj27 x30 hf
    refine qj_if_eq (tgt := 38) hx hb d_Md_declare_29 (by decide) (fun hc32 => ?_) (fun hc32 => ?_)
    · replace hf := q_if_t hc32 hf
      refine qj_iload_n hx hb d_Md_declare_38 rfl 3 rfl ?_
      refine qj_sub [1, 2, 0] rfl ?_
      exact hj31 (M.1 0 32) hf
    · replace hf := q_if_f hc32 hf
      refine qj_iload_n hx hb d_Md_declare_32 rfl 3 rfl ?_
      refine qj_iconst (v := 1) hx hb d_Md_declare_33 (by decide) ?_
      refine qj_isub hx hb d_Md_declare_34 ?_
      refine qj_goto (tgt := 39) hx hb d_Md_declare_35 (by decide) ?_
      refine qj_sub [1, 2, 0] rfl ?_
      exact hj31 ((M.1 0 32) - 1) hf
  have hf9 := q_lt_s hf; clear hf; obtain ⟨j34, ej34, hf⟩ := hf9
  have hj34 : j34 = some out → QJ p l e rm_Md_declare s m args below meth c (qA 38 b) b 8 0 0 Q (qWd D (enM dA b) 38 b) M 26 [(0, qr (some 0)), (1, qi a1), (2, qi (M.1 0 32))] [] := by
    clear hf
    intro hf
    rw [ej34] at hf
    refine qj_iconst (v := 0) hx hb d_Md_declare_26 (by decide) ?_
    exact hj33 0 hf
  refine qj_if_le (tgt := 26) hx hb d_Md_declare_6 (by decide) (fun hc35 => ?_) (fun hc35 => ?_)
  · replace hf := q_if_t hc35 hf
    refine qj_sub [1, 2, 0] rfl ?_
    exact hj34  hf
  · replace hf := q_if_f hc35 hf
    refine qj_aload_n hx hb d_Md_declare_9 rfl 1 rfl ?_
    refine qj_get hx hb hts hin_12 hown hK (by decide) rfl rfl 31 (by decide) (hts _ tw_632) (fun _ h => h) (qr (some 21)) rfl d_Md_declare_10 ?_
    refine qj_iload_n hx hb d_Md_declare_13 rfl 0 rfl ?_
    refine qj_iconst (v := 1) hx hb d_Md_declare_14 (by decide) ?_
    refine qj_isub hx hb d_Md_declare_15 ?_
    have hf9 := q_ix_s hf; clear hf; obtain ⟨hi36, hf⟩ := hf9
    refine qj_iald (t0 := 0) hx hb hK (by decide) (fun _ _ => rfl) rfl hi36 d_Md_declare_16 ?_
    refine qj_bipush (v := 33) hx hb d_Md_declare_17 (by decide) ?_
    refine qj_icmp_ne (tgt := 26) hx hb d_Md_declare_19 (by decide) (fun hc37 => ?_) (fun hc37 => ?_)
    · replace hf := q_if_f hc37 hf
      refine qj_sub [1, 2, 0] rfl ?_
      exact hj34  hf
    · replace hf := q_if_t hc37 hf
      refine qj_iconst (v := 1) hx hb d_Md_declare_22 (by decide) ?_
      refine qj_goto (tgt := 27) hx hb d_Md_declare_23 (by decide) ?_
      refine qj_sub [1, 2, 0] rfl ?_
      exact hj33 1 hf
theorem d_Md_initial_0 : decode prog_14_method_55_code 0 = .ok (.iload_n 1, 1) := by decide +kernel
theorem d_Md_initial_1 : decode prog_14_method_55_code 1 = .ok (.ifCond .eq 8, 3) := by decide +kernel
theorem d_Md_initial_4 : decode prog_14_method_55_code 4 = .ok (.iload_n 1, 1) := by decide +kernel
theorem d_Md_initial_5 : decode prog_14_method_55_code 5 = .ok (.iconst 2, 1) := by decide +kernel
theorem d_Md_initial_6 : decode prog_14_method_55_code 6 = .ok (.if_icmp .ne 28, 3) := by decide +kernel
theorem d_Md_initial_9 : decode prog_14_method_55_code 9 = .ok (.iload_n 2, 1) := by decide +kernel
theorem d_Md_initial_10 : decode prog_14_method_55_code 10 = .ok (.ifCond .ne 7, 3) := by decide +kernel
theorem d_Md_initial_13 : decode prog_14_method_55_code 13 = .ok (.iconst 1, 1) := by decide +kernel
theorem d_Md_initial_14 : decode prog_14_method_55_code 14 = .ok (.goto 19, 3) := by decide +kernel
theorem d_Md_initial_17 : decode prog_14_method_55_code 17 = .ok (.aload_n 0, 1) := by decide +kernel
theorem d_Md_initial_18 : decode prog_14_method_55_code 18 = .ok (.getfield 83, 3) := by decide +kernel
theorem d_Md_initial_21 : decode prog_14_method_55_code 21 = .ok (.bipush 40, 2) := by decide +kernel
theorem d_Md_initial_23 : decode prog_14_method_55_code 23 = .ok (.iload_n 1, 1) := by decide +kernel
theorem d_Md_initial_24 : decode prog_14_method_55_code 24 = .ok (.imul, 1) := by decide +kernel
theorem d_Md_initial_25 : decode prog_14_method_55_code 25 = .ok (.aload_n 0, 1) := by decide +kernel
theorem d_Md_initial_26 : decode prog_14_method_55_code 26 = .ok (.getfield 74, 3) := by decide +kernel
theorem d_Md_initial_29 : decode prog_14_method_55_code 29 = .ok (.iload_n 2, 1) := by decide +kernel
theorem d_Md_initial_30 : decode prog_14_method_55_code 30 = .ok (.iaload, 1) := by decide +kernel
theorem d_Md_initial_31 : decode prog_14_method_55_code 31 = .ok (.iadd, 1) := by decide +kernel
theorem d_Md_initial_32 : decode prog_14_method_55_code 32 = .ok (.iaload, 1) := by decide +kernel
theorem d_Md_initial_33 : decode prog_14_method_55_code 33 = .ok (.ireturn, 1) := by decide +kernel
theorem d_Md_initial_34 : decode prog_14_method_55_code 34 = .ok (.iload_n 1, 1) := by decide +kernel
theorem d_Md_initial_35 : decode prog_14_method_55_code 35 = .ok (.iconst 3, 1) := by decide +kernel
theorem d_Md_initial_36 : decode prog_14_method_55_code 36 = .ok (.if_icmp .ne 31, 3) := by decide +kernel
theorem d_Md_initial_39 : decode prog_14_method_55_code 39 = .ok (.iload_n 2, 1) := by decide +kernel
theorem d_Md_initial_40 : decode prog_14_method_55_code 40 = .ok (.ifCond .eq 19, 3) := by decide +kernel
theorem d_Md_initial_43 : decode prog_14_method_55_code 43 = .ok (.aload_n 0, 1) := by decide +kernel
theorem d_Md_initial_44 : decode prog_14_method_55_code 44 = .ok (.aload_n 0, 1) := by decide +kernel
theorem d_Md_initial_45 : decode prog_14_method_55_code 45 = .ok (.getfield 16, 3) := by decide +kernel
theorem d_Md_initial_48 : decode prog_14_method_55_code 48 = .ok (.iload_n 2, 1) := by decide +kernel
theorem d_Md_initial_49 : decode prog_14_method_55_code 49 = .ok (.iaload, 1) := by decide +kernel
theorem d_Md_initial_50 : decode prog_14_method_55_code 50 = .ok (.ldc_w 256, 3) := by decide +kernel
theorem d_Md_initial_53 : decode prog_14_method_55_code 53 = .ok (.invokevirtual 192, 3) := by decide +kernel
theorem d_Md_initial_56 : decode prog_14_method_55_code 56 = .ok (.ifCond .eq 8, 3) := by decide +kernel
theorem d_Md_initial_59 : decode prog_14_method_55_code 59 = .ok (.bipush 98, 2) := by decide +kernel
theorem d_Md_initial_61 : decode prog_14_method_55_code 61 = .ok (.goto 5, 3) := by decide +kernel
theorem d_Md_initial_64 : decode prog_14_method_55_code 64 = .ok (.bipush 105, 2) := by decide +kernel
theorem d_Md_initial_66 : decode prog_14_method_55_code 66 = .ok (.ireturn, 1) := by decide +kernel
theorem d_Md_initial_67 : decode prog_14_method_55_code 67 = .ok (.iload_n 1, 1) := by decide +kernel
theorem d_Md_initial_68 : decode prog_14_method_55_code 68 = .ok (.bipush 6, 2) := by decide +kernel
theorem d_Md_initial_70 : decode prog_14_method_55_code 70 = .ok (.if_icmp .ne 7, 3) := by decide +kernel
theorem d_Md_initial_73 : decode prog_14_method_55_code 73 = .ok (.iconst (-1), 1) := by decide +kernel
theorem d_Md_initial_74 : decode prog_14_method_55_code 74 = .ok (.goto 4, 3) := by decide +kernel
theorem d_Md_initial_77 : decode prog_14_method_55_code 77 = .ok (.iconst 0, 1) := by decide +kernel
theorem d_Md_initial_78 : decode prog_14_method_55_code 78 = .ok (.ireturn, 1) := by decide +kernel
def f_Md_initial (a1 : Int32) (a2 : Int32) (M : qM) : Option Int32 := q_lt (if a2 = 0 then (some 1) else (q_ix a2 40 <| q_ix ((40 * a1) + (M.1 22 a2.toNatClampNeg)) 280 <| some (M.1 25 ((40 * a1) + (M.1 22 a2.toNatClampNeg)).toNatClampNeg))) fun (j4 : Option Int32) => if a1 = 0 then (j4) else (if a1 = 2 then (j4) else (if a1 = 3 then (if a2 = 0 then (some 98) else (q_ix a2 40 <| q_bp (f_Md_named (M.1 3 a2.toNatClampNeg) 1738892 M) fun x11 => if x11 = 0 then (some 105) else (some 98))) else (if a1 = 6 then (some (-1)) else (some 0))))
abbrev rm_Md_initial : Room := { frames := 3, cells := 0, slots := 0, locals := 62 }
set_option maxRecDepth 100000 in
set_option maxHeartbeats 4000000 in
theorem c_Md_initial {l : Launch} {D : va_G} {dA : Nat → ClassId} {b : Nat} (a1 : Int32) (a2 : Int32)  (M : qM) (out : Int32) (hf : f_Md_initial a1 a2 M = some out) : CTi l y_Md_initial w_Md_initial rm_Md_initial D (tysX dA) (enM dA b) 38 b (fun _ => True) [qr (some 0), qi a1, qi a2] M (out, M) := by
  refine qm_i (cc := prog_14_method_55_code) (nL := 3) (by decide) rfl (Nat.le_of_ble_eq_true rfl) ?_
  intro p e s m args below meth c Q hx hb hts0 hown hml hK hs hret
  have hts : ∀ w ∈ lw_g, w.before args s = true := fun w h => hts0 w (List.mem_cons_of_mem _ h)
  show QJ p l e rm_Md_initial s m args below meth c (qA 38 b) b 3 0 0 Q (qWd D (enM dA b) 38 b) M 0 [(0, qr (some 0)), (1, qi a1), (2, qi a2)] []
  unfold f_Md_initial at hf
  refine qj_iload_n hx hb d_Md_initial_0 rfl 1 rfl ?_
  have hf9 := q_lt_s hf; clear hf; obtain ⟨j4, ej4, hf⟩ := hf9
  have hj4 : j4 = some out → QJ p l e rm_Md_initial s m args below meth c (qA 38 b) b 3 0 0 Q (qWd D (enM dA b) 38 b) M 9 [(0, qr (some 0)), (1, qi a1), (2, qi a2)] [] := by
    clear hf
    intro hf
    rw [ej4] at hf
    refine qj_iload_n hx hb d_Md_initial_9 rfl 2 rfl ?_
    refine qj_if_ne (tgt := 17) hx hb d_Md_initial_10 (by decide) (fun hc1 => ?_) (fun hc1 => ?_)
    · replace hf := q_if_f hc1 hf
      refine qj_aload_n hx hb d_Md_initial_17 rfl 0 rfl ?_
      refine qj_get hx hb hts hin_12 hown hK (by decide) rfl rfl 36 (by decide) (hts _ tw_642) (fun _ h => h) (qr (some 25)) rfl d_Md_initial_18 ?_
      refine qj_bipush (v := 40) hx hb d_Md_initial_21 (by decide) ?_
      refine qj_iload_n hx hb d_Md_initial_23 rfl 1 rfl ?_
      refine qj_imul hx hb d_Md_initial_24 ?_
      refine qj_aload_n hx hb d_Md_initial_25 rfl 0 rfl ?_
      refine qj_get hx hb hts hin_12 hown hK (by decide) rfl rfl 33 (by decide) (hts _ tw_630) (fun _ h => h) (qr (some 22)) rfl d_Md_initial_26 ?_
      refine qj_iload_n hx hb d_Md_initial_29 rfl 2 rfl ?_
      have hf9 := q_ix_s hf; clear hf; obtain ⟨hi2, hf⟩ := hf9
      refine qj_iald (t0 := 0) hx hb hK (by decide) (fun _ _ => rfl) rfl hi2 d_Md_initial_30 ?_
      refine qj_iadd hx hb d_Md_initial_31 ?_
      have hf9 := q_ix_s hf; clear hf; obtain ⟨hi3, hf⟩ := hf9
      refine qj_iald (t0 := 0) hx hb hK (by decide) (fun _ _ => rfl) rfl hi3 d_Md_initial_32 ?_
      exact hret _ _ _ _ d_Md_initial_33 (congrArg (fun z => (z, M)) (Option.some.inj hf))
    · replace hf := q_if_t hc1 hf
      refine qj_iconst (v := 1) hx hb d_Md_initial_13 (by decide) ?_
      refine qj_goto (tgt := 33) hx hb d_Md_initial_14 (by decide) ?_
      exact hret _ _ _ _ d_Md_initial_33 (congrArg (fun z => (z, M)) (Option.some.inj hf))
  refine qj_if_eq (tgt := 9) hx hb d_Md_initial_1 (by decide) (fun hc5 => ?_) (fun hc5 => ?_)
  · replace hf := q_if_t hc5 hf
    exact hj4  hf
  · replace hf := q_if_f hc5 hf
    refine qj_iload_n hx hb d_Md_initial_4 rfl 1 rfl ?_
    refine qj_iconst (v := 2) hx hb d_Md_initial_5 (by decide) ?_
    refine qj_icmp_ne (tgt := 34) hx hb d_Md_initial_6 (by decide) (fun hc6 => ?_) (fun hc6 => ?_)
    · replace hf := q_if_f hc6 hf
      refine qj_iload_n hx hb d_Md_initial_34 rfl 1 rfl ?_
      refine qj_iconst (v := 3) hx hb d_Md_initial_35 (by decide) ?_
      refine qj_icmp_ne (tgt := 67) hx hb d_Md_initial_36 (by decide) (fun hc7 => ?_) (fun hc7 => ?_)
      · replace hf := q_if_f hc7 hf
        refine qj_iload_n hx hb d_Md_initial_67 rfl 1 rfl ?_
        refine qj_bipush (v := 6) hx hb d_Md_initial_68 (by decide) ?_
        refine qj_icmp_ne (tgt := 77) hx hb d_Md_initial_70 (by decide) (fun hc8 => ?_) (fun hc8 => ?_)
        · replace hf := q_if_f hc8 hf
          refine qj_iconst (v := 0) hx hb d_Md_initial_77 (by decide) ?_
          exact hret _ _ _ _ d_Md_initial_78 (congrArg (fun z => (z, M)) (Option.some.inj hf))
        · replace hf := q_if_t hc8 hf
          refine qj_iconst (v := (-1)) hx hb d_Md_initial_73 (by decide) ?_
          refine qj_goto (tgt := 78) hx hb d_Md_initial_74 (by decide) ?_
          exact hret _ _ _ _ d_Md_initial_78 (congrArg (fun z => (z, M)) (Option.some.inj hf))
      · replace hf := q_if_t hc7 hf
        refine qj_iload_n hx hb d_Md_initial_39 rfl 2 rfl ?_
        refine qj_if_eq (tgt := 59) hx hb d_Md_initial_40 (by decide) (fun hc9 => ?_) (fun hc9 => ?_)
        · replace hf := q_if_t hc9 hf
          refine qj_bipush (v := 98) hx hb d_Md_initial_59 (by decide) ?_
          refine qj_goto (tgt := 66) hx hb d_Md_initial_61 (by decide) ?_
          exact hret _ _ _ _ d_Md_initial_66 (congrArg (fun z => (z, M)) (Option.some.inj hf))
        · replace hf := q_if_f hc9 hf
          refine qj_aload_n hx hb d_Md_initial_43 rfl 0 rfl ?_
          refine qj_aload_n hx hb d_Md_initial_44 rfl 0 rfl ?_
          refine qj_get hx hb hts hin_12 hown hK (by decide) rfl rfl 6 (by decide) (hts _ tw_448) (fun _ h => h) (qr (some 3)) rfl d_Md_initial_45 ?_
          refine qj_iload_n hx hb d_Md_initial_48 rfl 2 rfl ?_
          have hf9 := q_ix_s hf; clear hf; obtain ⟨hi10, hf⟩ := hf9
          refine qj_iald (t0 := 0) hx hb hK (by decide) (fun _ _ => rfl) rfl hi10 d_Md_initial_49 ?_
          refine qj_ldcw (v := 1738892) hx hb hown (hts _ tw_544) d_Md_initial_50 ?_
          have hf9 := q_bp_s hf; clear hf; obtain ⟨x11, hx11, hf⟩ := hf9
          refine qc_Vi (st := []) hx hb hml hown hts hK qT_ok hs (c_Md_named (M.1 3 a2.toNatClampNeg) 1738892 M _ hx11) ⟨(callB_of 2 hts (q_good tw_466) rfl rfl rfl (hts _ tw_459) (hts _ tw_467) (by decide +kernel) ⟨by decide, by decide⟩), (hts _ tw_468), (hts _ tw_469)⟩ (by decide) rfl rfl rfl rfl (Nat.le_of_ble_eq_true rfl) d_Md_initial_53 ?_
          refine qj_if_eq (tgt := 64) hx hb d_Md_initial_56 (by decide) (fun hc12 => ?_) (fun hc12 => ?_)
          · replace hf := q_if_t hc12 hf
            refine qj_bipush (v := 105) hx hb d_Md_initial_64 (by decide) ?_
            exact hret _ _ _ _ d_Md_initial_66 (congrArg (fun z => (z, M)) (Option.some.inj hf))
          · replace hf := q_if_f hc12 hf
            refine qj_bipush (v := 98) hx hb d_Md_initial_59 (by decide) ?_
            refine qj_goto (tgt := 66) hx hb d_Md_initial_61 (by decide) ?_
            exact hret _ _ _ _ d_Md_initial_66 (congrArg (fun z => (z, M)) (Option.some.inj hf))
    · replace hf := q_if_t hc6 hf
      exact hj4  hf
theorem d_Md_style_0 : decode prog_14_method_54_code 0 = .ok (.aload_n 0, 1) := by decide +kernel
theorem d_Md_style_1 : decode prog_14_method_54_code 1 = .ok (.invokevirtual 269, 3) := by decide +kernel
theorem d_Md_style_4 : decode prog_14_method_54_code 4 = .ok (.iconst 0, 1) := by decide +kernel
theorem d_Md_style_5 : decode prog_14_method_54_code 5 = .ok (.istore_n 1, 1) := by decide +kernel
theorem d_Md_style_6 : decode prog_14_method_54_code 6 = .ok (.iload_n 1, 1) := by decide +kernel
theorem d_Md_style_7 : decode prog_14_method_54_code 7 = .ok (.aload_n 0, 1) := by decide +kernel
theorem d_Md_style_8 : decode prog_14_method_54_code 8 = .ok (.getfield 142, 3) := by decide +kernel
theorem d_Md_style_11 : decode prog_14_method_54_code 11 = .ok (.if_icmp .ge 20, 3) := by decide +kernel
theorem d_Md_style_14 : decode prog_14_method_54_code 14 = .ok (.aload_n 0, 1) := by decide +kernel
theorem d_Md_style_15 : decode prog_14_method_54_code 15 = .ok (.getfield 74, 3) := by decide +kernel
theorem d_Md_style_18 : decode prog_14_method_54_code 18 = .ok (.iload_n 1, 1) := by decide +kernel
theorem d_Md_style_19 : decode prog_14_method_54_code 19 = .ok (.aload_n 0, 1) := by decide +kernel
theorem d_Md_style_20 : decode prog_14_method_54_code 20 = .ok (.iload_n 1, 1) := by decide +kernel
theorem d_Md_style_21 : decode prog_14_method_54_code 21 = .ok (.invokevirtual 263, 3) := by decide +kernel
theorem d_Md_style_24 : decode prog_14_method_54_code 24 = .ok (.iastore, 1) := by decide +kernel
theorem d_Md_style_25 : decode prog_14_method_54_code 25 = .ok (.iinc 1 1, 3) := by decide +kernel
theorem d_Md_style_28 : decode prog_14_method_54_code 28 = .ok (.goto (-22), 3) := by decide +kernel
theorem d_Md_style_31 : decode prog_14_method_54_code 31 = .ok (.iconst 0, 1) := by decide +kernel
theorem d_Md_style_32 : decode prog_14_method_54_code 32 = .ok (.istore_n 1, 1) := by decide +kernel
theorem d_Md_style_33 : decode prog_14_method_54_code 33 = .ok (.iload_n 1, 1) := by decide +kernel
theorem d_Md_style_34 : decode prog_14_method_54_code 34 = .ok (.sipush 280, 3) := by decide +kernel
theorem d_Md_style_37 : decode prog_14_method_54_code 37 = .ok (.if_icmp .ge 16, 3) := by decide +kernel
theorem d_Md_style_40 : decode prog_14_method_54_code 40 = .ok (.aload_n 0, 1) := by decide +kernel
theorem d_Md_style_41 : decode prog_14_method_54_code 41 = .ok (.getfield 80, 3) := by decide +kernel
theorem d_Md_style_44 : decode prog_14_method_54_code 44 = .ok (.iload_n 1, 1) := by decide +kernel
theorem d_Md_style_45 : decode prog_14_method_54_code 45 = .ok (.iconst (-1), 1) := by decide +kernel
theorem d_Md_style_46 : decode prog_14_method_54_code 46 = .ok (.iastore, 1) := by decide +kernel
theorem d_Md_style_47 : decode prog_14_method_54_code 47 = .ok (.iinc 1 1, 3) := by decide +kernel
theorem d_Md_style_50 : decode prog_14_method_54_code 50 = .ok (.goto (-17), 3) := by decide +kernel
theorem d_Md_style_53 : decode prog_14_method_54_code 53 = .ok (.iconst 0, 1) := by decide +kernel
theorem d_Md_style_54 : decode prog_14_method_54_code 54 = .ok (.istore_n 1, 1) := by decide +kernel
theorem d_Md_style_55 : decode prog_14_method_54_code 55 = .ok (.iload_n 1, 1) := by decide +kernel
theorem d_Md_style_56 : decode prog_14_method_54_code 56 = .ok (.aload_n 0, 1) := by decide +kernel
theorem d_Md_style_57 : decode prog_14_method_54_code 57 = .ok (.getfield 272, 3) := by decide +kernel
theorem d_Md_style_60 : decode prog_14_method_54_code 60 = .ok (.if_icmp .ge 102, 3) := by decide +kernel
theorem d_Md_style_63 : decode prog_14_method_54_code 63 = .ok (.aload_n 0, 1) := by decide +kernel
theorem d_Md_style_64 : decode prog_14_method_54_code 64 = .ok (.iload_n 1, 1) := by decide +kernel
theorem d_Md_style_65 : decode prog_14_method_54_code 65 = .ok (.invokevirtual 297, 3) := by decide +kernel
theorem d_Md_style_68 : decode prog_14_method_54_code 68 = .ok (.aload_n 0, 1) := by decide +kernel
theorem d_Md_style_69 : decode prog_14_method_54_code 69 = .ok (.iconst 0, 1) := by decide +kernel
theorem d_Md_style_70 : decode prog_14_method_54_code 70 = .ok (.putfield 287, 3) := by decide +kernel
theorem d_Md_style_73 : decode prog_14_method_54_code 73 = .ok (.aload_n 0, 1) := by decide +kernel
theorem d_Md_style_74 : decode prog_14_method_54_code 74 = .ok (.getfield 65, 3) := by decide +kernel
theorem d_Md_style_77 : decode prog_14_method_54_code 77 = .ok (.iload_n 1, 1) := by decide +kernel
theorem d_Md_style_78 : decode prog_14_method_54_code 78 = .ok (.iaload, 1) := by decide +kernel
theorem d_Md_style_79 : decode prog_14_method_54_code 79 = .ok (.istore_n 2, 1) := by decide +kernel
theorem d_Md_style_80 : decode prog_14_method_54_code 80 = .ok (.iload_n 2, 1) := by decide +kernel
theorem d_Md_style_81 : decode prog_14_method_54_code 81 = .ok (.aload_n 0, 1) := by decide +kernel
theorem d_Md_style_82 : decode prog_14_method_54_code 82 = .ok (.getfield 68, 3) := by decide +kernel
theorem d_Md_style_85 : decode prog_14_method_54_code 85 = .ok (.iload_n 1, 1) := by decide +kernel
theorem d_Md_style_86 : decode prog_14_method_54_code 86 = .ok (.iaload, 1) := by decide +kernel
theorem d_Md_style_87 : decode prog_14_method_54_code 87 = .ok (.if_icmp .ge 64, 3) := by decide +kernel
theorem d_Md_style_90 : decode prog_14_method_54_code 90 = .ok (.aload_n 0, 1) := by decide +kernel
theorem d_Md_style_91 : decode prog_14_method_54_code 91 = .ok (.getfield 13, 3) := by decide +kernel
theorem d_Md_style_94 : decode prog_14_method_54_code 94 = .ok (.iload_n 2, 1) := by decide +kernel
theorem d_Md_style_95 : decode prog_14_method_54_code 95 = .ok (.iaload, 1) := by decide +kernel
theorem d_Md_style_96 : decode prog_14_method_54_code 96 = .ok (.bipush 59, 2) := by decide +kernel
theorem d_Md_style_98 : decode prog_14_method_54_code 98 = .ok (.if_icmp .ne 11, 3) := by decide +kernel
theorem d_Md_style_101 : decode prog_14_method_54_code 101 = .ok (.aload_n 0, 1) := by decide +kernel
theorem d_Md_style_102 : decode prog_14_method_54_code 102 = .ok (.iload_n 1, 1) := by decide +kernel
theorem d_Md_style_103 : decode prog_14_method_54_code 103 = .ok (.invokevirtual 300, 3) := by decide +kernel
theorem d_Md_style_106 : decode prog_14_method_54_code 106 = .ok (.goto 39, 3) := by decide +kernel
theorem d_Md_style_109 : decode prog_14_method_54_code 109 = .ok (.aload_n 0, 1) := by decide +kernel
theorem d_Md_style_110 : decode prog_14_method_54_code 110 = .ok (.getfield 13, 3) := by decide +kernel
theorem d_Md_style_113 : decode prog_14_method_54_code 113 = .ok (.iload_n 2, 1) := by decide +kernel
theorem d_Md_style_114 : decode prog_14_method_54_code 114 = .ok (.iaload, 1) := by decide +kernel
theorem d_Md_style_115 : decode prog_14_method_54_code 115 = .ok (.bipush 32, 2) := by decide +kernel
theorem d_Md_style_117 : decode prog_14_method_54_code 117 = .ok (.if_icmp .eq 28, 3) := by decide +kernel
theorem d_Md_style_120 : decode prog_14_method_54_code 120 = .ok (.aload_n 0, 1) := by decide +kernel
theorem d_Md_style_121 : decode prog_14_method_54_code 121 = .ok (.getfield 71, 3) := by decide +kernel
theorem d_Md_style_124 : decode prog_14_method_54_code 124 = .ok (.aload_n 0, 1) := by decide +kernel
theorem d_Md_style_125 : decode prog_14_method_54_code 125 = .ok (.getfield 287, 3) := by decide +kernel
theorem d_Md_style_128 : decode prog_14_method_54_code 128 = .ok (.aload_n 0, 1) := by decide +kernel
theorem d_Md_style_129 : decode prog_14_method_54_code 129 = .ok (.getfield 13, 3) := by decide +kernel
theorem d_Md_style_132 : decode prog_14_method_54_code 132 = .ok (.iload_n 2, 1) := by decide +kernel
theorem d_Md_style_133 : decode prog_14_method_54_code 133 = .ok (.iaload, 1) := by decide +kernel
theorem d_Md_style_134 : decode prog_14_method_54_code 134 = .ok (.iastore, 1) := by decide +kernel
theorem d_Md_style_135 : decode prog_14_method_54_code 135 = .ok (.aload_n 0, 1) := by decide +kernel
theorem d_Md_style_136 : decode prog_14_method_54_code 136 = .ok (.dup, 1) := by decide +kernel
theorem d_Md_style_137 : decode prog_14_method_54_code 137 = .ok (.getfield 287, 3) := by decide +kernel
theorem d_Md_style_140 : decode prog_14_method_54_code 140 = .ok (.iconst 1, 1) := by decide +kernel
theorem d_Md_style_141 : decode prog_14_method_54_code 141 = .ok (.iadd, 1) := by decide +kernel
theorem d_Md_style_142 : decode prog_14_method_54_code 142 = .ok (.putfield 287, 3) := by decide +kernel
theorem d_Md_style_145 : decode prog_14_method_54_code 145 = .ok (.iinc 2 1, 3) := by decide +kernel
theorem d_Md_style_148 : decode prog_14_method_54_code 148 = .ok (.goto (-68), 3) := by decide +kernel
theorem d_Md_style_151 : decode prog_14_method_54_code 151 = .ok (.aload_n 0, 1) := by decide +kernel
theorem d_Md_style_152 : decode prog_14_method_54_code 152 = .ok (.iload_n 1, 1) := by decide +kernel
theorem d_Md_style_153 : decode prog_14_method_54_code 153 = .ok (.invokevirtual 300, 3) := by decide +kernel
theorem d_Md_style_156 : decode prog_14_method_54_code 156 = .ok (.iinc 1 1, 3) := by decide +kernel
theorem d_Md_style_159 : decode prog_14_method_54_code 159 = .ok (.goto (-104), 3) := by decide +kernel
theorem d_Md_style_162 : decode prog_14_method_54_code 162 = .ok (.iconst 0, 1) := by decide +kernel
theorem d_Md_style_163 : decode prog_14_method_54_code 163 = .ok (.istore_n 1, 1) := by decide +kernel
theorem d_Md_style_164 : decode prog_14_method_54_code 164 = .ok (.iload_n 1, 1) := by decide +kernel
theorem d_Md_style_165 : decode prog_14_method_54_code 165 = .ok (.aload_n 0, 1) := by decide +kernel
theorem d_Md_style_166 : decode prog_14_method_54_code 166 = .ok (.getfield 142, 3) := by decide +kernel
theorem d_Md_style_169 : decode prog_14_method_54_code 169 = .ok (.if_icmp .ge 97, 3) := by decide +kernel
theorem d_Md_style_172 : decode prog_14_method_54_code 172 = .ok (.iconst 0, 1) := by decide +kernel
theorem d_Md_style_173 : decode prog_14_method_54_code 173 = .ok (.istore_n 2, 1) := by decide +kernel
theorem d_Md_style_174 : decode prog_14_method_54_code 174 = .ok (.iload_n 2, 1) := by decide +kernel
theorem d_Md_style_175 : decode prog_14_method_54_code 175 = .ok (.bipush 7, 2) := by decide +kernel
theorem d_Md_style_177 : decode prog_14_method_54_code 177 = .ok (.if_icmp .ge 40, 3) := by decide +kernel
theorem d_Md_style_180 : decode prog_14_method_54_code 180 = .ok (.aload_n 0, 1) := by decide +kernel
theorem d_Md_style_181 : decode prog_14_method_54_code 181 = .ok (.getfield 80, 3) := by decide +kernel
theorem d_Md_style_184 : decode prog_14_method_54_code 184 = .ok (.bipush 40, 2) := by decide +kernel
theorem d_Md_style_186 : decode prog_14_method_54_code 186 = .ok (.iload_n 2, 1) := by decide +kernel
theorem d_Md_style_187 : decode prog_14_method_54_code 187 = .ok (.imul, 1) := by decide +kernel
theorem d_Md_style_188 : decode prog_14_method_54_code 188 = .ok (.iload_n 1, 1) := by decide +kernel
theorem d_Md_style_189 : decode prog_14_method_54_code 189 = .ok (.iadd, 1) := by decide +kernel
theorem d_Md_style_190 : decode prog_14_method_54_code 190 = .ok (.iaload, 1) := by decide +kernel
theorem d_Md_style_191 : decode prog_14_method_54_code 191 = .ok (.ifCond .ge 20, 3) := by decide +kernel
theorem d_Md_style_194 : decode prog_14_method_54_code 194 = .ok (.aload_n 0, 1) := by decide +kernel
theorem d_Md_style_195 : decode prog_14_method_54_code 195 = .ok (.getfield 83, 3) := by decide +kernel
theorem d_Md_style_198 : decode prog_14_method_54_code 198 = .ok (.bipush 40, 2) := by decide +kernel
theorem d_Md_style_200 : decode prog_14_method_54_code 200 = .ok (.iload_n 2, 1) := by decide +kernel
theorem d_Md_style_201 : decode prog_14_method_54_code 201 = .ok (.imul, 1) := by decide +kernel
theorem d_Md_style_202 : decode prog_14_method_54_code 202 = .ok (.iload_n 1, 1) := by decide +kernel
theorem d_Md_style_203 : decode prog_14_method_54_code 203 = .ok (.iadd, 1) := by decide +kernel
theorem d_Md_style_204 : decode prog_14_method_54_code 204 = .ok (.aload_n 0, 1) := by decide +kernel
theorem d_Md_style_205 : decode prog_14_method_54_code 205 = .ok (.iload_n 2, 1) := by decide +kernel
theorem d_Md_style_206 : decode prog_14_method_54_code 206 = .ok (.iload_n 1, 1) := by decide +kernel
theorem d_Md_style_207 : decode prog_14_method_54_code 207 = .ok (.invokevirtual 303, 3) := by decide +kernel
theorem d_Md_style_210 : decode prog_14_method_54_code 210 = .ok (.iastore, 1) := by decide +kernel
theorem d_Md_style_211 : decode prog_14_method_54_code 211 = .ok (.iinc 2 1, 3) := by decide +kernel
theorem d_Md_style_214 : decode prog_14_method_54_code 214 = .ok (.goto (-40), 3) := by decide +kernel
theorem d_Md_style_217 : decode prog_14_method_54_code 217 = .ok (.aload_n 0, 1) := by decide +kernel
theorem d_Md_style_218 : decode prog_14_method_54_code 218 = .ok (.aload_n 0, 1) := by decide +kernel
theorem d_Md_style_219 : decode prog_14_method_54_code 219 = .ok (.getfield 16, 3) := by decide +kernel
theorem d_Md_style_222 : decode prog_14_method_54_code 222 = .ok (.iload_n 1, 1) := by decide +kernel
theorem d_Md_style_223 : decode prog_14_method_54_code 223 = .ok (.iaload, 1) := by decide +kernel
theorem d_Md_style_224 : decode prog_14_method_54_code 224 = .ok (.ldc_w 306, 3) := by decide +kernel
theorem d_Md_style_227 : decode prog_14_method_54_code 227 = .ok (.invokevirtual 192, 3) := by decide +kernel
theorem d_Md_style_230 : decode prog_14_method_54_code 230 = .ok (.istore_n 2, 1) := by decide +kernel
theorem d_Md_style_231 : decode prog_14_method_54_code 231 = .ok (.iload_n 2, 1) := by decide +kernel
theorem d_Md_style_232 : decode prog_14_method_54_code 232 = .ok (.ifCond .eq 28, 3) := by decide +kernel
theorem d_Md_style_235 : decode prog_14_method_54_code 235 = .ok (.aload_n 0, 1) := by decide +kernel
theorem d_Md_style_236 : decode prog_14_method_54_code 236 = .ok (.getfield 83, 3) := by decide +kernel
theorem d_Md_style_239 : decode prog_14_method_54_code 239 = .ok (.bipush 120, 2) := by decide +kernel
theorem d_Md_style_241 : decode prog_14_method_54_code 241 = .ok (.iload_n 1, 1) := by decide +kernel
theorem d_Md_style_242 : decode prog_14_method_54_code 242 = .ok (.iadd, 1) := by decide +kernel
theorem d_Md_style_243 : decode prog_14_method_54_code 243 = .ok (.iaload, 1) := by decide +kernel
theorem d_Md_style_244 : decode prog_14_method_54_code 244 = .ok (.bipush 105, 2) := by decide +kernel
theorem d_Md_style_246 : decode prog_14_method_54_code 246 = .ok (.if_icmp .ne 14, 3) := by decide +kernel
theorem d_Md_style_249 : decode prog_14_method_54_code 249 = .ok (.aload_n 0, 1) := by decide +kernel
theorem d_Md_style_250 : decode prog_14_method_54_code 250 = .ok (.getfield 83, 3) := by decide +kernel
theorem d_Md_style_253 : decode prog_14_method_54_code 253 = .ok (.bipush 120, 2) := by decide +kernel
theorem d_Md_style_255 : decode prog_14_method_54_code 255 = .ok (.iload_n 1, 1) := by decide +kernel
theorem d_Md_style_256 : decode prog_14_method_54_code 256 = .ok (.iadd, 1) := by decide +kernel
theorem d_Md_style_257 : decode prog_14_method_54_code 257 = .ok (.bipush 98, 2) := by decide +kernel
theorem d_Md_style_259 : decode prog_14_method_54_code 259 = .ok (.iastore, 1) := by decide +kernel
theorem d_Md_style_260 : decode prog_14_method_54_code 260 = .ok (.iinc 1 1, 3) := by decide +kernel
theorem d_Md_style_263 : decode prog_14_method_54_code 263 = .ok (.goto (-99), 3) := by decide +kernel
theorem d_Md_style_266 : decode prog_14_method_54_code 266 = .ok (.return_, 1) := by decide +kernel
def f_Md_style_6  : Nat → (qM → Option qM) → Int32 → qM → Option qM
  | 0, _, _, _ => none
  | n + 1, K4, x2, M3 => if (M3.1 0 5) ≤ x2 then (K4 M3) else (q_bp (f_Md_parentOf x2 M3) fun x6 => q_ix x2 40 <| q_lt (qsI M3 22 x2.toNatClampNeg x6) fun M8 => f_Md_style_6 n K4 (x2 + 1) M8)
def f_Md_style_33  : Nat → (qM → Option qM) → Int32 → qM → Option qM
  | 0, _, _, _ => none
  | n + 1, K12, x10, M11 => if 280 ≤ x10 then (K12 M11) else (q_ix x10 280 <| q_lt (qsI M11 24 x10.toNatClampNeg (-1)) fun M15 => f_Md_style_33 n K12 (x10 + 1) M15)
def f_Md_style_80 (x17 : Int32) : Nat → (qM → Option qM) → Int32 → qM → Option qM
  | 0, _, _, _ => none
  | n + 1, K27, x25, M26 => q_ix x17 12 <| if (M26.1 20 x17.toNatClampNeg) ≤ x25 then (K27 M26) else (q_ix x25 120 <| if (M26.1 2 x25.toNatClampNeg) = 59 then (q_cv (f_Md_declare x17 M26) fun M38 => f_Md_style_80 x17 n K27 (x25 + 1) M38) else (q_ix x25 120 <| if (M26.1 2 x25.toNatClampNeg) = 32 then (f_Md_style_80 x17 n K27 (x25 + 1) M26) else (q_ix x25 120 <| q_ix (M26.1 0 32) 120 <| q_lt (qsI M26 21 (M26.1 0 32).toNatClampNeg (M26.1 2 x25.toNatClampNeg)) fun M36 => q_lt (qsI M36 0 32 ((M36.1 0 32) + 1)) fun M37 => f_Md_style_80 x17 n K27 (x25 + 1) M37)))
def f_Md_style_55  : Nat → (qM → Option qM) → Int32 → qM → Option qM
  | 0, _, _, _ => none
  | n + 1, K19, x17, M18 => if (M18.1 0 22) ≤ x17 then (K19 M18) else (q_cv (f_Md_match x17 M18) fun M21 => q_lt (qsI M21 0 32 0) fun M22 => q_ix x17 12 <| q_lt (M22.1 19 x17.toNatClampNeg) fun x24 => f_Md_style_80 x17 1000 (fun (M39 : qM) => q_cv (f_Md_declare x17 M39) fun M40 => f_Md_style_55 n K19 (x17 + 1) M40) x24 M22)
def f_Md_style_174 (x42 : Int32) : Nat → (qM → Option qM) → Int32 → qM → Option qM
  | 0, _, _, _ => none
  | n + 1, K48, x46, M47 => if 7 ≤ x46 then (K48 M47) else (q_ix ((40 * x46) + x42) 280 <| if 0 ≤ (M47.1 24 ((40 * x46) + x42).toNatClampNeg) then (f_Md_style_174 x42 n K48 (x46 + 1) M47) else (q_bp (f_Md_initial x46 x42 M47) fun x52 => q_ix ((40 * x46) + x42) 280 <| q_lt (qsI M47 25 ((40 * x46) + x42).toNatClampNeg x52) fun M54 => f_Md_style_174 x42 n K48 (x46 + 1) M54))
def f_Md_style_164  : Nat → (qM → Option qM) → Int32 → qM → Option qM
  | 0, _, _, _ => none
  | n + 1, K44, x42, M43 => if (M43.1 0 5) ≤ x42 then (K44 M43) else (f_Md_style_174 x42 1000 (fun (M55 : qM) => q_ix x42 40 <| q_bp (f_Md_named (M55.1 3 x42.toNatClampNeg) 655364 M55) fun x57 => if x57 = 0 then (f_Md_style_164 n K44 (x42 + 1) M55) else (q_ix (120 + x42) 280 <| if (M55.1 25 (120 + x42).toNatClampNeg) = 105 then (q_ix (120 + x42) 280 <| q_lt (qsI M55 25 (120 + x42).toNatClampNeg 98) fun M62 => f_Md_style_164 n K44 (x42 + 1) M62) else (f_Md_style_164 n K44 (x42 + 1) M55))) 0 M43)
def f_Md_style  (M : qM) : Option qM := q_cv (f_Md_readSheet M) fun M1 => f_Md_style_6 1000 (fun (M9 : qM) => f_Md_style_33 1000 (fun (M16 : qM) => f_Md_style_55 1000 (fun (M41 : qM) => f_Md_style_164 1000 (fun (M63 : qM) => some M63) 0 M41) 0 M16) 0 M9) 0 M1
abbrev rm_Md_style : Room := { frames := 4, cells := 0, slots := 0, locals := 84 }
set_option maxRecDepth 100000 in
set_option maxHeartbeats 4000000 in
theorem c_Md_style {l : Launch} {D : va_G} {dA : Nat → ClassId} {b : Nat}   (M : qM) (out : qM) (hf : f_Md_style M = some out) : CTv l y_Md_style w_Md_style rm_Md_style D (tysX dA) (enM dA b) 38 b (fun _ => True) [qr (some 0)] M out := by
  refine qm_v (cc := prog_14_method_54_code) (nL := 3) (by decide) rfl (Nat.le_of_ble_eq_true rfl) ?_
  intro p e s m args below meth c Q hx hb hts0 hown hml hK hs hret
  have hts : ∀ w ∈ lw_g, w.before args s = true := fun w h => hts0 w (List.mem_cons_of_mem _ h)
  show QJ p l e rm_Md_style s m args below meth c (qA 38 b) b 3 0 0 Q (qWd D (enM dA b) 38 b) M 0 [(0, qr (some 0))] []
  unfold f_Md_style at hf
  refine qj_aload_n hx hb d_Md_style_0 rfl 0 rfl ?_
  have hf9 := q_cv_s hf; clear hf; obtain ⟨M1, hM1, hf⟩ := hf9
  refine qc_Vv (st := []) hx hb hml hown hts hK qT_ok hs (c_Md_readSheet  M _ hM1) ⟨(callB_of 0 hts (q_good tw_626) rfl rfl rfl (hts _ tw_459) (hts _ tw_627) (by decide +kernel) ⟨by decide, by decide⟩), (hts _ tw_628), (hts _ tw_629)⟩ (by decide) rfl rfl rfl rfl (Nat.le_of_ble_eq_true rfl) d_Md_style_1 ?_
  refine qj_iconst (v := 0) hx hb d_Md_style_4 (by decide) ?_
  refine qj_istore_n hx hb d_Md_style_5 rfl (by decide) rfl ?_
  have hL6 : ∀ (n : Nat) (K4 : qM → Option qM), (∀ (M9 : qM), K4 M9 = some out → QJ p l e rm_Md_style s m args below meth c (qA 38 b) b 3 0 0 Q (qWd D (enM dA b) 38 b) M9 31 [(0, qr (some 0))] []) → ∀ (x2 : Int32) (M3 : qM), f_Md_style_6 n K4 x2 M3 = some out → QJ p l e rm_Md_style s m args below meth c (qA 38 b) b 3 0 0 Q (qWd D (enM dA b) 38 b) M3 6 [(0, qr (some 0)), (1, qi x2)] [] := by
    clear hf
    intro n
    induction n with
    | zero =>
      intro K4 hK4 x2 M3 hf
      exact absurd hf (by simp [f_Md_style_6])
    | succ n ih6 =>
      intro K4 hK4 x2 M3 hf
      rw [f_Md_style_6] at hf
      have ih6 := ih6 K4 hK4
      refine qj_iload_n hx hb d_Md_style_6 rfl 1 rfl ?_
      refine qj_aload_n hx hb d_Md_style_7 rfl 0 rfl ?_
      refine qj_get hx hb hts hin_12 hown hK (by decide) rfl rfl 5 (by decide) (hts _ tw_447) (fun _ h => h) (qi (M3.1 0 5)) rfl d_Md_style_8 ?_
      refine qj_icmp_ge (tgt := 31) hx hb d_Md_style_11 (by decide) (fun hc5 => ?_) (fun hc5 => ?_)
      · replace hf := q_if_t hc5 hf
        refine qj_sub [0] rfl ?_
        exact hK4 M3 hf
      · replace hf := q_if_f hc5 hf
        refine qj_aload_n hx hb d_Md_style_14 rfl 0 rfl ?_
        refine qj_get hx hb hts hin_12 hown hK (by decide) rfl rfl 33 (by decide) (hts _ tw_630) (fun _ h => h) (qr (some 22)) rfl d_Md_style_15 ?_
        refine qj_iload_n hx hb d_Md_style_18 rfl 1 rfl ?_
        refine qj_aload_n hx hb d_Md_style_19 rfl 0 rfl ?_
        refine qj_iload_n hx hb d_Md_style_20 rfl 1 rfl ?_
        have hf9 := q_bp_s hf; clear hf; obtain ⟨x6, hx6, hf⟩ := hf9
        refine qc_Vi (st := [qi x2, qr (some 22)]) hx hb hml hown hts hK qT_ok hs (c_Md_parentOf x2 M3 _ hx6) ⟨(callB_of 1 hts (q_good tw_597) rfl rfl rfl (hts _ tw_459) (hts _ tw_598) (by decide +kernel) ⟨by decide, by decide⟩), (hts _ tw_599), (hts _ tw_600)⟩ (by decide) rfl rfl rfl rfl (Nat.le_of_ble_eq_true rfl) d_Md_style_21 ?_
        have hf9 := q_ix_s hf; clear hf; obtain ⟨hi7, hf⟩ := hf9
        have hf9 := q_lt_s hf; clear hf; obtain ⟨M8, eM8, hf⟩ := hf9
        refine qj_iast (t0 := 0) hx hb hK (by decide) (fun _ _ => rfl) rfl hi7 eM8 d_Md_style_24 ?_
        refine qj_iinc (j := 1) (v := x2 + 1) hx hb d_Md_style_25 rfl rfl (by decide) rfl ?_
        refine qj_goto (tgt := 6) hx hb d_Md_style_28 (by decide) ?_
        refine qj_sub [1, 0] rfl ?_
        exact ih6 (x2 + 1) M8 hf
  refine qj_sub [1, 0] rfl ?_
  refine hL6 _ _ (fun M9 hf9 => ?_) 0 M1 hf
  clear hf; have hf := hf9; clear hf9
  refine qj_iconst (v := 0) hx hb d_Md_style_31 (by decide) ?_
  refine qj_istore_n hx hb d_Md_style_32 rfl (by decide) rfl ?_
  have hL33 : ∀ (n : Nat) (K12 : qM → Option qM), (∀ (M16 : qM), K12 M16 = some out → QJ p l e rm_Md_style s m args below meth c (qA 38 b) b 3 0 0 Q (qWd D (enM dA b) 38 b) M16 53 [(0, qr (some 0))] []) → ∀ (x10 : Int32) (M11 : qM), f_Md_style_33 n K12 x10 M11 = some out → QJ p l e rm_Md_style s m args below meth c (qA 38 b) b 3 0 0 Q (qWd D (enM dA b) 38 b) M11 33 [(0, qr (some 0)), (1, qi x10)] [] := by
    clear hf
    intro n
    induction n with
    | zero =>
      intro K12 hK12 x10 M11 hf
      exact absurd hf (by simp [f_Md_style_33])
    | succ n ih33 =>
      intro K12 hK12 x10 M11 hf
      rw [f_Md_style_33] at hf
      have ih33 := ih33 K12 hK12
      refine qj_iload_n hx hb d_Md_style_33 rfl 1 rfl ?_
      refine qj_sipush (v := 280) hx hb d_Md_style_34 (by decide) ?_
      refine qj_icmp_ge (tgt := 53) hx hb d_Md_style_37 (by decide) (fun hc13 => ?_) (fun hc13 => ?_)
      · replace hf := q_if_t hc13 hf
        refine qj_sub [0] rfl ?_
        exact hK12 M11 hf
      · replace hf := q_if_f hc13 hf
        refine qj_aload_n hx hb d_Md_style_40 rfl 0 rfl ?_
        refine qj_get hx hb hts hin_12 hown hK (by decide) rfl rfl 35 (by decide) (hts _ tw_641) (fun _ h => h) (qr (some 24)) rfl d_Md_style_41 ?_
        refine qj_iload_n hx hb d_Md_style_44 rfl 1 rfl ?_
        refine qj_iconst (v := (-1)) hx hb d_Md_style_45 (by decide) ?_
        have hf9 := q_ix_s hf; clear hf; obtain ⟨hi14, hf⟩ := hf9
        have hf9 := q_lt_s hf; clear hf; obtain ⟨M15, eM15, hf⟩ := hf9
        refine qj_iast (t0 := 0) hx hb hK (by decide) (fun _ _ => rfl) rfl hi14 eM15 d_Md_style_46 ?_
        refine qj_iinc (j := 1) (v := x10 + 1) hx hb d_Md_style_47 rfl rfl (by decide) rfl ?_
        refine qj_goto (tgt := 33) hx hb d_Md_style_50 (by decide) ?_
        refine qj_sub [1, 0] rfl ?_
        exact ih33 (x10 + 1) M15 hf
  refine qj_sub [1, 0] rfl ?_
  refine hL33 _ _ (fun M16 hf9 => ?_) 0 M9 hf
  clear hf; have hf := hf9; clear hf9
  refine qj_iconst (v := 0) hx hb d_Md_style_53 (by decide) ?_
  refine qj_istore_n hx hb d_Md_style_54 rfl (by decide) rfl ?_
  have hL55 : ∀ (n : Nat) (K19 : qM → Option qM), (∀ (M41 : qM), K19 M41 = some out → QJ p l e rm_Md_style s m args below meth c (qA 38 b) b 3 0 0 Q (qWd D (enM dA b) 38 b) M41 162 [(0, qr (some 0))] []) → ∀ (x17 : Int32) (M18 : qM), f_Md_style_55 n K19 x17 M18 = some out → QJ p l e rm_Md_style s m args below meth c (qA 38 b) b 3 0 0 Q (qWd D (enM dA b) 38 b) M18 55 [(0, qr (some 0)), (1, qi x17)] [] := by
    clear hf
    intro n
    induction n with
    | zero =>
      intro K19 hK19 x17 M18 hf
      exact absurd hf (by simp [f_Md_style_55])
    | succ n ih55 =>
      intro K19 hK19 x17 M18 hf
      rw [f_Md_style_55] at hf
      have ih55 := ih55 K19 hK19
      refine qj_iload_n hx hb d_Md_style_55 rfl 1 rfl ?_
      refine qj_aload_n hx hb d_Md_style_56 rfl 0 rfl ?_
      refine qj_get hx hb hts hin_12 hown hK (by decide) rfl rfl 22 (by decide) (hts _ tw_605) (fun _ h => h) (qi (M18.1 0 22)) rfl d_Md_style_57 ?_
      refine qj_icmp_ge (tgt := 162) hx hb d_Md_style_60 (by decide) (fun hc20 => ?_) (fun hc20 => ?_)
      · replace hf := q_if_t hc20 hf
        refine qj_sub [0] rfl ?_
        exact hK19 M18 hf
      · replace hf := q_if_f hc20 hf
        refine qj_aload_n hx hb d_Md_style_63 rfl 0 rfl ?_
        refine qj_iload_n hx hb d_Md_style_64 rfl 1 rfl ?_
        have hf9 := q_cv_s hf; clear hf; obtain ⟨M21, hM21, hf⟩ := hf9
        refine qc_Vv (st := []) hx hb hml hown hts hK qT_ok hs (c_Md_match x17 M18 _ hM21) ⟨(callB_of 1 hts (q_good tw_647) rfl rfl rfl (hts _ tw_459) (hts _ tw_648) (by decide +kernel) ⟨by decide, by decide⟩), (hts _ tw_649), (hts _ tw_650)⟩ (by decide) rfl rfl rfl rfl (Nat.le_of_ble_eq_true rfl) d_Md_style_65 ?_
        refine qj_aload_n hx hb d_Md_style_68 rfl 0 rfl ?_
        refine qj_iconst (v := 0) hx hb d_Md_style_69 (by decide) ?_
        have hf9 := q_lt_s hf; clear hf; obtain ⟨M22, eM22, hf⟩ := hf9
        refine qj_puti (ty := .int) hx hb hts hin_12 ty_12 tyok_12 nm_12 hown hK (by decide) rfl rfl 32 (by decide) (hts _ tw_636) (fun _ h => h) rfl (by decide +kernel) rfl rfl (Nat.le_of_ble_eq_true rfl) sm_32 eM22 d_Md_style_70 ?_
        refine qj_aload_n hx hb d_Md_style_73 rfl 0 rfl ?_
        refine qj_get hx hb hts hin_12 hown hK (by decide) rfl rfl 29 (by decide) (hts _ tw_624) (fun _ h => h) (qr (some 19)) rfl d_Md_style_74 ?_
        refine qj_iload_n hx hb d_Md_style_77 rfl 1 rfl ?_
        have hf9 := q_ix_s hf; clear hf; obtain ⟨hi23, hf⟩ := hf9
        refine qj_iald (t0 := 0) hx hb hK (by decide) (fun _ _ => rfl) rfl hi23 d_Md_style_78 ?_
        have hf9 := q_lt_s hf; clear hf; obtain ⟨x24, ex24, hf⟩ := hf9
        rw [← ex24]
        refine qj_istore_n hx hb d_Md_style_79 rfl (by decide) rfl ?_
        have hL80 : ∀ (n : Nat) (K27 : qM → Option qM), (∀ (M39 : qM), K27 M39 = some out → QJ p l e rm_Md_style s m args below meth c (qA 38 b) b 3 0 0 Q (qWd D (enM dA b) 38 b) M39 151 [(0, qr (some 0)), (1, qi x17)] []) → ∀ (x25 : Int32) (M26 : qM), f_Md_style_80 x17 n K27 x25 M26 = some out → QJ p l e rm_Md_style s m args below meth c (qA 38 b) b 3 0 0 Q (qWd D (enM dA b) 38 b) M26 80 [(0, qr (some 0)), (1, qi x17), (2, qi x25)] [] := by
          clear hf
          intro n
          induction n with
          | zero =>
            intro K27 hK27 x25 M26 hf
            exact absurd hf (by simp [f_Md_style_80])
          | succ n ih80 =>
            intro K27 hK27 x25 M26 hf
            rw [f_Md_style_80] at hf
            have ih80 := ih80 K27 hK27
            refine qj_iload_n hx hb d_Md_style_80 rfl 2 rfl ?_
            refine qj_aload_n hx hb d_Md_style_81 rfl 0 rfl ?_
            refine qj_get hx hb hts hin_12 hown hK (by decide) rfl rfl 30 (by decide) (hts _ tw_625) (fun _ h => h) (qr (some 20)) rfl d_Md_style_82 ?_
            refine qj_iload_n hx hb d_Md_style_85 rfl 1 rfl ?_
            have hf9 := q_ix_s hf; clear hf; obtain ⟨hi28, hf⟩ := hf9
            refine qj_iald (t0 := 0) hx hb hK (by decide) (fun _ _ => rfl) rfl hi28 d_Md_style_86 ?_
            refine qj_icmp_ge (tgt := 151) hx hb d_Md_style_87 (by decide) (fun hc29 => ?_) (fun hc29 => ?_)
            · replace hf := q_if_t hc29 hf
              refine qj_sub [0, 1] rfl ?_
              exact hK27 M26 hf
            · replace hf := q_if_f hc29 hf
              refine qj_aload_n hx hb d_Md_style_90 rfl 0 rfl ?_
              refine qj_get hx hb hts hin_12 hown hK (by decide) rfl rfl 3 (by decide) (hts _ tw_592) (fun _ h => h) (qr (some 2)) rfl d_Md_style_91 ?_
              refine qj_iload_n hx hb d_Md_style_94 rfl 2 rfl ?_
              have hf9 := q_ix_s hf; clear hf; obtain ⟨hi30, hf⟩ := hf9
              refine qj_iald (t0 := 0) hx hb hK (by decide) (fun _ _ => rfl) rfl hi30 d_Md_style_95 ?_
              refine qj_bipush (v := 59) hx hb d_Md_style_96 (by decide) ?_
              refine qj_icmp_ne (tgt := 109) hx hb d_Md_style_98 (by decide) (fun hc31 => ?_) (fun hc31 => ?_)
              · replace hf := q_if_f hc31 hf
                refine qj_aload_n hx hb d_Md_style_109 rfl 0 rfl ?_
                refine qj_get hx hb hts hin_12 hown hK (by decide) rfl rfl 3 (by decide) (hts _ tw_592) (fun _ h => h) (qr (some 2)) rfl d_Md_style_110 ?_
                refine qj_iload_n hx hb d_Md_style_113 rfl 2 rfl ?_
                have hf9 := q_ix_s hf; clear hf; obtain ⟨hi32, hf⟩ := hf9
                refine qj_iald (t0 := 0) hx hb hK (by decide) (fun _ _ => rfl) rfl hi32 d_Md_style_114 ?_
                refine qj_bipush (v := 32) hx hb d_Md_style_115 (by decide) ?_
                refine qj_icmp_eq (tgt := 145) hx hb d_Md_style_117 (by decide) (fun hc33 => ?_) (fun hc33 => ?_)
                · replace hf := q_if_t hc33 hf
                  refine qj_iinc (j := 2) (v := x25 + 1) hx hb d_Md_style_145 rfl rfl (by decide) rfl ?_
                  refine qj_goto (tgt := 80) hx hb d_Md_style_148 (by decide) ?_
                  refine qj_sub [1, 2, 0] rfl ?_
                  exact ih80 (x25 + 1) M26 hf
                · replace hf := q_if_f hc33 hf
                  refine qj_aload_n hx hb d_Md_style_120 rfl 0 rfl ?_
                  refine qj_get hx hb hts hin_12 hown hK (by decide) rfl rfl 31 (by decide) (hts _ tw_632) (fun _ h => h) (qr (some 21)) rfl d_Md_style_121 ?_
                  refine qj_aload_n hx hb d_Md_style_124 rfl 0 rfl ?_
                  refine qj_get hx hb hts hin_12 hown hK (by decide) rfl rfl 32 (by decide) (hts _ tw_636) (fun _ h => h) (qi (M26.1 0 32)) rfl d_Md_style_125 ?_
                  refine qj_aload_n hx hb d_Md_style_128 rfl 0 rfl ?_
                  refine qj_get hx hb hts hin_12 hown hK (by decide) rfl rfl 3 (by decide) (hts _ tw_592) (fun _ h => h) (qr (some 2)) rfl d_Md_style_129 ?_
                  refine qj_iload_n hx hb d_Md_style_132 rfl 2 rfl ?_
                  have hf9 := q_ix_s hf; clear hf; obtain ⟨hi34, hf⟩ := hf9
                  refine qj_iald (t0 := 0) hx hb hK (by decide) (fun _ _ => rfl) rfl hi34 d_Md_style_133 ?_
                  have hf9 := q_ix_s hf; clear hf; obtain ⟨hi35, hf⟩ := hf9
                  have hf9 := q_lt_s hf; clear hf; obtain ⟨M36, eM36, hf⟩ := hf9
                  refine qj_iast (t0 := 0) hx hb hK (by decide) (fun _ _ => rfl) rfl hi35 eM36 d_Md_style_134 ?_
                  refine qj_aload_n hx hb d_Md_style_135 rfl 0 rfl ?_
                  refine qj_dup hx hb d_Md_style_136 ?_
                  refine qj_get hx hb hts hin_12 hown hK (by decide) rfl rfl 32 (by decide) (hts _ tw_636) (fun _ h => h) (qi (M36.1 0 32)) rfl d_Md_style_137 ?_
                  refine qj_iconst (v := 1) hx hb d_Md_style_140 (by decide) ?_
                  refine qj_iadd hx hb d_Md_style_141 ?_
                  have hf9 := q_lt_s hf; clear hf; obtain ⟨M37, eM37, hf⟩ := hf9
                  refine qj_puti (ty := .int) hx hb hts hin_12 ty_12 tyok_12 nm_12 hown hK (by decide) rfl rfl 32 (by decide) (hts _ tw_636) (fun _ h => h) rfl (by decide +kernel) rfl rfl (Nat.le_of_ble_eq_true rfl) sm_32 eM37 d_Md_style_142 ?_
                  refine qj_iinc (j := 2) (v := x25 + 1) hx hb d_Md_style_145 rfl rfl (by decide) rfl ?_
                  refine qj_goto (tgt := 80) hx hb d_Md_style_148 (by decide) ?_
                  refine qj_sub [1, 2, 0] rfl ?_
                  exact ih80 (x25 + 1) M37 hf
              · replace hf := q_if_t hc31 hf
                refine qj_aload_n hx hb d_Md_style_101 rfl 0 rfl ?_
                refine qj_iload_n hx hb d_Md_style_102 rfl 1 rfl ?_
                have hf9 := q_cv_s hf; clear hf; obtain ⟨M38, hM38, hf⟩ := hf9
                refine qc_Vv (st := []) hx hb hml hown hts hK qT_ok hs (c_Md_declare x17 M26 _ hM38) ⟨(callB_of 1 hts (q_good tw_651) rfl rfl rfl (hts _ tw_459) (hts _ tw_652) (by decide +kernel) ⟨by decide, by decide⟩), (hts _ tw_653), (hts _ tw_654)⟩ (by decide) rfl rfl rfl rfl (Nat.le_of_ble_eq_true rfl) d_Md_style_103 ?_
                refine qj_goto (tgt := 145) hx hb d_Md_style_106 (by decide) ?_
                refine qj_iinc (j := 2) (v := x25 + 1) hx hb d_Md_style_145 rfl rfl (by decide) rfl ?_
                refine qj_goto (tgt := 80) hx hb d_Md_style_148 (by decide) ?_
                refine qj_sub [1, 2, 0] rfl ?_
                exact ih80 (x25 + 1) M38 hf
        refine qj_sub [1, 2, 0] rfl ?_
        refine hL80 _ _ (fun M39 hf9 => ?_) x24 M22 hf
        clear hf; have hf := hf9; clear hf9
        refine qj_aload_n hx hb d_Md_style_151 rfl 0 rfl ?_
        refine qj_iload_n hx hb d_Md_style_152 rfl 1 rfl ?_
        have hf9 := q_cv_s hf; clear hf; obtain ⟨M40, hM40, hf⟩ := hf9
        refine qc_Vv (st := []) hx hb hml hown hts hK qT_ok hs (c_Md_declare x17 M39 _ hM40) ⟨(callB_of 1 hts (q_good tw_651) rfl rfl rfl (hts _ tw_459) (hts _ tw_652) (by decide +kernel) ⟨by decide, by decide⟩), (hts _ tw_653), (hts _ tw_654)⟩ (by decide) rfl rfl rfl rfl (Nat.le_of_ble_eq_true rfl) d_Md_style_153 ?_
        refine qj_iinc (j := 1) (v := x17 + 1) hx hb d_Md_style_156 rfl rfl (by decide) rfl ?_
        refine qj_goto (tgt := 55) hx hb d_Md_style_159 (by decide) ?_
        refine qj_sub [1, 0] rfl ?_
        exact ih55 (x17 + 1) M40 hf
  refine qj_sub [1, 0] rfl ?_
  refine hL55 _ _ (fun M41 hf9 => ?_) 0 M16 hf
  clear hf; have hf := hf9; clear hf9
  refine qj_iconst (v := 0) hx hb d_Md_style_162 (by decide) ?_
  refine qj_istore_n hx hb d_Md_style_163 rfl (by decide) rfl ?_
  have hL164 : ∀ (n : Nat) (K44 : qM → Option qM), (∀ (M63 : qM), K44 M63 = some out → QJ p l e rm_Md_style s m args below meth c (qA 38 b) b 3 0 0 Q (qWd D (enM dA b) 38 b) M63 266 [] []) → ∀ (x42 : Int32) (M43 : qM), f_Md_style_164 n K44 x42 M43 = some out → QJ p l e rm_Md_style s m args below meth c (qA 38 b) b 3 0 0 Q (qWd D (enM dA b) 38 b) M43 164 [(0, qr (some 0)), (1, qi x42)] [] := by
    clear hf
    intro n
    induction n with
    | zero =>
      intro K44 hK44 x42 M43 hf
      exact absurd hf (by simp [f_Md_style_164])
    | succ n ih164 =>
      intro K44 hK44 x42 M43 hf
      rw [f_Md_style_164] at hf
      have ih164 := ih164 K44 hK44
      refine qj_iload_n hx hb d_Md_style_164 rfl 1 rfl ?_
      refine qj_aload_n hx hb d_Md_style_165 rfl 0 rfl ?_
      refine qj_get hx hb hts hin_12 hown hK (by decide) rfl rfl 5 (by decide) (hts _ tw_447) (fun _ h => h) (qi (M43.1 0 5)) rfl d_Md_style_166 ?_
      refine qj_icmp_ge (tgt := 266) hx hb d_Md_style_169 (by decide) (fun hc45 => ?_) (fun hc45 => ?_)
      · replace hf := q_if_t hc45 hf
        refine qj_sub [] rfl ?_
        exact hK44 M43 hf
      · replace hf := q_if_f hc45 hf
        refine qj_iconst (v := 0) hx hb d_Md_style_172 (by decide) ?_
        refine qj_istore_n hx hb d_Md_style_173 rfl (by decide) rfl ?_
        have hL174 : ∀ (n : Nat) (K48 : qM → Option qM), (∀ (M55 : qM), K48 M55 = some out → QJ p l e rm_Md_style s m args below meth c (qA 38 b) b 3 0 0 Q (qWd D (enM dA b) 38 b) M55 217 [(0, qr (some 0)), (1, qi x42)] []) → ∀ (x46 : Int32) (M47 : qM), f_Md_style_174 x42 n K48 x46 M47 = some out → QJ p l e rm_Md_style s m args below meth c (qA 38 b) b 3 0 0 Q (qWd D (enM dA b) 38 b) M47 174 [(0, qr (some 0)), (1, qi x42), (2, qi x46)] [] := by
          clear hf
          intro n
          induction n with
          | zero =>
            intro K48 hK48 x46 M47 hf
            exact absurd hf (by simp [f_Md_style_174])
          | succ n ih174 =>
            intro K48 hK48 x46 M47 hf
            rw [f_Md_style_174] at hf
            have ih174 := ih174 K48 hK48
            refine qj_iload_n hx hb d_Md_style_174 rfl 2 rfl ?_
            refine qj_bipush (v := 7) hx hb d_Md_style_175 (by decide) ?_
            refine qj_icmp_ge (tgt := 217) hx hb d_Md_style_177 (by decide) (fun hc49 => ?_) (fun hc49 => ?_)
            · replace hf := q_if_t hc49 hf
              refine qj_sub [0, 1] rfl ?_
              exact hK48 M47 hf
            · replace hf := q_if_f hc49 hf
              refine qj_aload_n hx hb d_Md_style_180 rfl 0 rfl ?_
              refine qj_get hx hb hts hin_12 hown hK (by decide) rfl rfl 35 (by decide) (hts _ tw_641) (fun _ h => h) (qr (some 24)) rfl d_Md_style_181 ?_
              refine qj_bipush (v := 40) hx hb d_Md_style_184 (by decide) ?_
              refine qj_iload_n hx hb d_Md_style_186 rfl 2 rfl ?_
              refine qj_imul hx hb d_Md_style_187 ?_
              refine qj_iload_n hx hb d_Md_style_188 rfl 1 rfl ?_
              refine qj_iadd hx hb d_Md_style_189 ?_
              have hf9 := q_ix_s hf; clear hf; obtain ⟨hi50, hf⟩ := hf9
              refine qj_iald (t0 := 0) hx hb hK (by decide) (fun _ _ => rfl) rfl hi50 d_Md_style_190 ?_
              refine qj_if_ge (tgt := 211) hx hb d_Md_style_191 (by decide) (fun hc51 => ?_) (fun hc51 => ?_)
              · replace hf := q_if_t hc51 hf
                refine qj_iinc (j := 2) (v := x46 + 1) hx hb d_Md_style_211 rfl rfl (by decide) rfl ?_
                refine qj_goto (tgt := 174) hx hb d_Md_style_214 (by decide) ?_
                refine qj_sub [1, 2, 0] rfl ?_
                exact ih174 (x46 + 1) M47 hf
              · replace hf := q_if_f hc51 hf
                refine qj_aload_n hx hb d_Md_style_194 rfl 0 rfl ?_
                refine qj_get hx hb hts hin_12 hown hK (by decide) rfl rfl 36 (by decide) (hts _ tw_642) (fun _ h => h) (qr (some 25)) rfl d_Md_style_195 ?_
                refine qj_bipush (v := 40) hx hb d_Md_style_198 (by decide) ?_
                refine qj_iload_n hx hb d_Md_style_200 rfl 2 rfl ?_
                refine qj_imul hx hb d_Md_style_201 ?_
                refine qj_iload_n hx hb d_Md_style_202 rfl 1 rfl ?_
                refine qj_iadd hx hb d_Md_style_203 ?_
                refine qj_aload_n hx hb d_Md_style_204 rfl 0 rfl ?_
                refine qj_iload_n hx hb d_Md_style_205 rfl 2 rfl ?_
                refine qj_iload_n hx hb d_Md_style_206 rfl 1 rfl ?_
                have hf9 := q_bp_s hf; clear hf; obtain ⟨x52, hx52, hf⟩ := hf9
                refine qc_Vi (st := [qi ((40 * x46) + x42), qr (some 25)]) hx hb hml hown hts hK qT_ok hs (c_Md_initial x46 x42 M47 _ hx52) ⟨(callB_of 2 hts (q_good tw_655) rfl rfl rfl (hts _ tw_459) (hts _ tw_656) (by decide +kernel) ⟨by decide, by decide⟩), (hts _ tw_657), (hts _ tw_658)⟩ (by decide) rfl rfl rfl rfl (Nat.le_of_ble_eq_true rfl) d_Md_style_207 ?_
                have hf9 := q_ix_s hf; clear hf; obtain ⟨hi53, hf⟩ := hf9
                have hf9 := q_lt_s hf; clear hf; obtain ⟨M54, eM54, hf⟩ := hf9
                refine qj_iast (t0 := 0) hx hb hK (by decide) (fun _ _ => rfl) rfl hi53 eM54 d_Md_style_210 ?_
                refine qj_iinc (j := 2) (v := x46 + 1) hx hb d_Md_style_211 rfl rfl (by decide) rfl ?_
                refine qj_goto (tgt := 174) hx hb d_Md_style_214 (by decide) ?_
                refine qj_sub [1, 2, 0] rfl ?_
                exact ih174 (x46 + 1) M54 hf
        refine qj_sub [1, 2, 0] rfl ?_
        refine hL174 _ _ (fun M55 hf9 => ?_) 0 M43 hf
        clear hf; have hf := hf9; clear hf9
        refine qj_aload_n hx hb d_Md_style_217 rfl 0 rfl ?_
        refine qj_aload_n hx hb d_Md_style_218 rfl 0 rfl ?_
        refine qj_get hx hb hts hin_12 hown hK (by decide) rfl rfl 6 (by decide) (hts _ tw_448) (fun _ h => h) (qr (some 3)) rfl d_Md_style_219 ?_
        refine qj_iload_n hx hb d_Md_style_222 rfl 1 rfl ?_
        have hf9 := q_ix_s hf; clear hf; obtain ⟨hi56, hf⟩ := hf9
        refine qj_iald (t0 := 0) hx hb hK (by decide) (fun _ _ => rfl) rfl hi56 d_Md_style_223 ?_
        refine qj_ldcw (v := 655364) hx hb hown (hts _ tw_659) d_Md_style_224 ?_
        have hf9 := q_bp_s hf; clear hf; obtain ⟨x57, hx57, hf⟩ := hf9
        refine qc_Vi (st := []) hx hb hml hown hts hK qT_ok hs (c_Md_named (M55.1 3 x42.toNatClampNeg) 655364 M55 _ hx57) ⟨(callB_of 2 hts (q_good tw_466) rfl rfl rfl (hts _ tw_459) (hts _ tw_467) (by decide +kernel) ⟨by decide, by decide⟩), (hts _ tw_468), (hts _ tw_469)⟩ (by decide) rfl rfl rfl rfl (Nat.le_of_ble_eq_true rfl) d_Md_style_227 ?_
        refine qj_istore_n hx hb d_Md_style_230 rfl (by decide) rfl ?_
        refine qj_iload_n hx hb d_Md_style_231 rfl 0 rfl ?_
        refine qj_if_eq (tgt := 260) hx hb d_Md_style_232 (by decide) (fun hc58 => ?_) (fun hc58 => ?_)
        · replace hf := q_if_t hc58 hf
          refine qj_iinc (j := 2) (v := x42 + 1) hx hb d_Md_style_260 rfl rfl (by decide) rfl ?_
          refine qj_goto (tgt := 164) hx hb d_Md_style_263 (by decide) ?_
          refine qj_sub [2, 0] rfl ?_
          exact ih164 (x42 + 1) M55 hf
        · replace hf := q_if_f hc58 hf
          refine qj_aload_n hx hb d_Md_style_235 rfl 1 rfl ?_
          refine qj_get hx hb hts hin_12 hown hK (by decide) rfl rfl 36 (by decide) (hts _ tw_642) (fun _ h => h) (qr (some 25)) rfl d_Md_style_236 ?_
          refine qj_bipush (v := 120) hx hb d_Md_style_239 (by decide) ?_
          refine qj_iload_n hx hb d_Md_style_241 rfl 2 rfl ?_
          refine qj_iadd hx hb d_Md_style_242 ?_
          have hf9 := q_ix_s hf; clear hf; obtain ⟨hi59, hf⟩ := hf9
          refine qj_iald (t0 := 0) hx hb hK (by decide) (fun _ _ => rfl) rfl hi59 d_Md_style_243 ?_
          refine qj_bipush (v := 105) hx hb d_Md_style_244 (by decide) ?_
          refine qj_icmp_ne (tgt := 260) hx hb d_Md_style_246 (by decide) (fun hc60 => ?_) (fun hc60 => ?_)
          · replace hf := q_if_f hc60 hf
            refine qj_iinc (j := 2) (v := x42 + 1) hx hb d_Md_style_260 rfl rfl (by decide) rfl ?_
            refine qj_goto (tgt := 164) hx hb d_Md_style_263 (by decide) ?_
            refine qj_sub [2, 0] rfl ?_
            exact ih164 (x42 + 1) M55 hf
          · replace hf := q_if_t hc60 hf
            refine qj_aload_n hx hb d_Md_style_249 rfl 1 rfl ?_
            refine qj_get hx hb hts hin_12 hown hK (by decide) rfl rfl 36 (by decide) (hts _ tw_642) (fun _ h => h) (qr (some 25)) rfl d_Md_style_250 ?_
            refine qj_bipush (v := 120) hx hb d_Md_style_253 (by decide) ?_
            refine qj_iload_n hx hb d_Md_style_255 rfl 2 rfl ?_
            refine qj_iadd hx hb d_Md_style_256 ?_
            refine qj_bipush (v := 98) hx hb d_Md_style_257 (by decide) ?_
            have hf9 := q_ix_s hf; clear hf; obtain ⟨hi61, hf⟩ := hf9
            have hf9 := q_lt_s hf; clear hf; obtain ⟨M62, eM62, hf⟩ := hf9
            refine qj_iast (t0 := 0) hx hb hK (by decide) (fun _ _ => rfl) rfl hi61 eM62 d_Md_style_259 ?_
            refine qj_iinc (j := 2) (v := x42 + 1) hx hb d_Md_style_260 rfl rfl (by decide) rfl ?_
            refine qj_goto (tgt := 164) hx hb d_Md_style_263 (by decide) ?_
            refine qj_sub [2, 0] rfl ?_
            exact ih164 (x42 + 1) M62 hf
  refine qj_sub [1, 0] rfl ?_
  refine hL164 _ _ (fun M63 hf9 => ?_) 0 M41 hf
  clear hf; have hf := hf9; clear hf9
  exact hret _ _ _ d_Md_style_266 (Option.some.inj hf)
theorem d_Md_value_0 : decode prog_14_method_56_code 0 = .ok (.iload_n 2, 1) := by decide +kernel
theorem d_Md_value_1 : decode prog_14_method_56_code 1 = .ok (.invokestatic 290, 3) := by decide +kernel
theorem d_Md_value_4 : decode prog_14_method_56_code 4 = .ok (.istore_n 3, 1) := by decide +kernel
theorem d_Md_value_5 : decode prog_14_method_56_code 5 = .ok (.aload_n 0, 1) := by decide +kernel
theorem d_Md_value_6 : decode prog_14_method_56_code 6 = .ok (.iload_n 1, 1) := by decide +kernel
theorem d_Md_value_7 : decode prog_14_method_56_code 7 = .ok (.invokevirtual 260, 3) := by decide +kernel
theorem d_Md_value_10 : decode prog_14_method_56_code 10 = .ok (.ifCond .ne 22, 3) := by decide +kernel
theorem d_Md_value_13 : decode prog_14_method_56_code 13 = .ok (.iload_n 3, 1) := by decide +kernel
theorem d_Md_value_14 : decode prog_14_method_56_code 14 = .ok (.ifCond .lt 18, 3) := by decide +kernel
theorem d_Md_value_17 : decode prog_14_method_56_code 17 = .ok (.aload_n 0, 1) := by decide +kernel
theorem d_Md_value_18 : decode prog_14_method_56_code 18 = .ok (.getfield 19, 3) := by decide +kernel
theorem d_Md_value_21 : decode prog_14_method_56_code 21 = .ok (.aload_n 0, 1) := by decide +kernel
theorem d_Md_value_22 : decode prog_14_method_56_code 22 = .ok (.getfield 16, 3) := by decide +kernel
theorem d_Md_value_25 : decode prog_14_method_56_code 25 = .ok (.iload_n 1, 1) := by decide +kernel
theorem d_Md_value_26 : decode prog_14_method_56_code 26 = .ok (.iaload, 1) := by decide +kernel
theorem d_Md_value_27 : decode prog_14_method_56_code 27 = .ok (.iaload, 1) := by decide +kernel
theorem d_Md_value_28 : decode prog_14_method_56_code 28 = .ok (.iconst 2, 1) := by decide +kernel
theorem d_Md_value_29 : decode prog_14_method_56_code 29 = .ok (.if_icmp .ge 5, 3) := by decide +kernel
theorem d_Md_value_32 : decode prog_14_method_56_code 32 = .ok (.iconst (-1), 1) := by decide +kernel
theorem d_Md_value_33 : decode prog_14_method_56_code 33 = .ok (.ireturn, 1) := by decide +kernel
theorem d_Md_value_34 : decode prog_14_method_56_code 34 = .ok (.aload_n 0, 1) := by decide +kernel
theorem d_Md_value_35 : decode prog_14_method_56_code 35 = .ok (.invokevirtual 307, 3) := by decide +kernel
theorem d_Md_value_38 : decode prog_14_method_56_code 38 = .ok (.aload_n 0, 1) := by decide +kernel
theorem d_Md_value_39 : decode prog_14_method_56_code 39 = .ok (.getfield 83, 3) := by decide +kernel
theorem d_Md_value_42 : decode prog_14_method_56_code 42 = .ok (.bipush 40, 2) := by decide +kernel
theorem d_Md_value_44 : decode prog_14_method_56_code 44 = .ok (.iload_n 3, 1) := by decide +kernel
theorem d_Md_value_45 : decode prog_14_method_56_code 45 = .ok (.imul, 1) := by decide +kernel
theorem d_Md_value_46 : decode prog_14_method_56_code 46 = .ok (.iload_n 1, 1) := by decide +kernel
theorem d_Md_value_47 : decode prog_14_method_56_code 47 = .ok (.iadd, 1) := by decide +kernel
theorem d_Md_value_48 : decode prog_14_method_56_code 48 = .ok (.iaload, 1) := by decide +kernel
theorem d_Md_value_49 : decode prog_14_method_56_code 49 = .ok (.ireturn, 1) := by decide +kernel
def f_Md_value (a1 : Int32) (a2 : Int32) (M : qM) : Option (Int32 × qM) := q_bp (f_Md_propertyIndex a2 M) fun x1 => q_bp (f_Md_none a1 M) fun x2 => if x2 = 0 then (if x1 < 0 then (some ((-1), M)) else (q_ix a1 40 <| q_ix (M.1 3 a1.toNatClampNeg) 40 <| if 2 ≤ (M.1 4 (M.1 3 a1.toNatClampNeg).toNatClampNeg) then (q_cv (f_Md_style M) fun M8 => q_ix ((40 * x1) + a1) 280 <| some (M8.1 25 ((40 * x1) + a1).toNatClampNeg, M8)) else (some ((-1), M)))) else (some ((-1), M))
abbrev rm_Md_value : Room := { frames := 5, cells := 0, slots := 0, locals := 106 }
set_option maxRecDepth 100000 in
set_option maxHeartbeats 4000000 in
theorem c_Md_value {l : Launch} {D : va_G} {dA : Nat → ClassId} {b : Nat} (a1 : Int32) (a2 : Int32)  (M : qM) (out : Int32 × qM) (hf : f_Md_value a1 a2 M = some out) : CTi l y_Md_value w_Md_value rm_Md_value D (tysX dA) (enM dA b) 38 b (fun _ => True) [qr (some 0), qi a1, qi a2] M out := by
  refine qm_i (cc := prog_14_method_56_code) (nL := 4) (by decide) rfl (Nat.le_of_ble_eq_true rfl) ?_
  intro p e s m args below meth c Q hx hb hts0 hown hml hK hs hret
  have hts : ∀ w ∈ lw_g, w.before args s = true := fun w h => hts0 w (List.mem_cons_of_mem _ h)
  show QJ p l e rm_Md_value s m args below meth c (qA 38 b) b 4 0 0 Q (qWd D (enM dA b) 38 b) M 0 [(0, qr (some 0)), (1, qi a1), (2, qi a2)] []
  unfold f_Md_value at hf
  refine qj_iload_n hx hb d_Md_value_0 rfl 2 rfl ?_
  have hf9 := q_bp_s hf; clear hf; obtain ⟨x1, hx1, hf⟩ := hf9
  refine qc_Si (st := []) hx hb hml hown hts hK qT_ok hs (c_Md_propertyIndex a2 M _ hx1) ⟨(callB_of 1 hts (q_good tw_644) rfl rfl rfl (hts _ tw_459) (hts _ tw_645) (by decide +kernel) ⟨by decide, by decide⟩), (hts _ tw_646)⟩ rfl rfl (Nat.le_of_ble_eq_true rfl) d_Md_value_1 ?_
  refine qj_istore_n hx hb d_Md_value_4 rfl (by decide) rfl ?_
  refine qj_aload_n hx hb d_Md_value_5 rfl 1 rfl ?_
  refine qj_iload_n hx hb d_Md_value_6 rfl 2 rfl ?_
  have hf9 := q_bp_s hf; clear hf; obtain ⟨x2, hx2, hf⟩ := hf9
  refine qc_Vi (st := []) hx hb hml hown hts hK qT_ok hs (c_Md_none a1 M _ hx2) ⟨(callB_of 1 hts (q_good tw_593) rfl rfl rfl (hts _ tw_459) (hts _ tw_594) (by decide +kernel) ⟨by decide, by decide⟩), (hts _ tw_595), (hts _ tw_596)⟩ (by decide) rfl rfl rfl rfl (Nat.le_of_ble_eq_true rfl) d_Md_value_7 ?_
  refine qj_if_ne (tgt := 32) hx hb d_Md_value_10 (by decide) (fun hc3 => ?_) (fun hc3 => ?_)
  · replace hf := q_if_f hc3 hf
    refine qj_iconst (v := (-1)) hx hb d_Md_value_32 (by decide) ?_
    exact hret _ _ _ _ d_Md_value_33 (Option.some.inj hf)
  · replace hf := q_if_t hc3 hf
    refine qj_iload_n hx hb d_Md_value_13 rfl 0 rfl ?_
    refine qj_if_lt (tgt := 32) hx hb d_Md_value_14 (by decide) (fun hc4 => ?_) (fun hc4 => ?_)
    · replace hf := q_if_t hc4 hf
      refine qj_iconst (v := (-1)) hx hb d_Md_value_32 (by decide) ?_
      exact hret _ _ _ _ d_Md_value_33 (Option.some.inj hf)
    · replace hf := q_if_f hc4 hf
      refine qj_aload_n hx hb d_Md_value_17 rfl 1 rfl ?_
      refine qj_get hx hb hts hin_12 hown hK (by decide) rfl rfl 8 (by decide) (hts _ tw_450) (fun _ h => h) (qr (some 4)) rfl d_Md_value_18 ?_
      refine qj_aload_n hx hb d_Md_value_21 rfl 1 rfl ?_
      refine qj_get hx hb hts hin_12 hown hK (by decide) rfl rfl 6 (by decide) (hts _ tw_448) (fun _ h => h) (qr (some 3)) rfl d_Md_value_22 ?_
      refine qj_iload_n hx hb d_Md_value_25 rfl 2 rfl ?_
      have hf9 := q_ix_s hf; clear hf; obtain ⟨hi5, hf⟩ := hf9
      refine qj_iald (t0 := 0) hx hb hK (by decide) (fun _ _ => rfl) rfl hi5 d_Md_value_26 ?_
      have hf9 := q_ix_s hf; clear hf; obtain ⟨hi6, hf⟩ := hf9
      refine qj_iald (t0 := 0) hx hb hK (by decide) (fun _ _ => rfl) rfl hi6 d_Md_value_27 ?_
      refine qj_iconst (v := 2) hx hb d_Md_value_28 (by decide) ?_
      refine qj_icmp_ge (tgt := 34) hx hb d_Md_value_29 (by decide) (fun hc7 => ?_) (fun hc7 => ?_)
      · replace hf := q_if_t hc7 hf
        refine qj_aload_n hx hb d_Md_value_34 rfl 1 rfl ?_
        have hf9 := q_cv_s hf; clear hf; obtain ⟨M8, hM8, hf⟩ := hf9
        refine qc_Vv (st := []) hx hb hml hown hts hK qT_ok hs (c_Md_style  M _ hM8) ⟨(callB_of 0 hts (q_good tw_660) rfl rfl rfl (hts _ tw_459) (hts _ tw_661) (by decide +kernel) ⟨by decide, by decide⟩), (hts _ tw_662), (hts _ tw_663)⟩ (by decide) rfl rfl rfl rfl (Nat.le_of_ble_eq_true rfl) d_Md_value_35 ?_
        refine qj_aload_n hx hb d_Md_value_38 rfl 1 rfl ?_
        refine qj_get hx hb hts hin_12 hown hK (by decide) rfl rfl 36 (by decide) (hts _ tw_642) (fun _ h => h) (qr (some 25)) rfl d_Md_value_39 ?_
        refine qj_bipush (v := 40) hx hb d_Md_value_42 (by decide) ?_
        refine qj_iload_n hx hb d_Md_value_44 rfl 0 rfl ?_
        refine qj_imul hx hb d_Md_value_45 ?_
        refine qj_iload_n hx hb d_Md_value_46 rfl 2 rfl ?_
        refine qj_iadd hx hb d_Md_value_47 ?_
        have hf9 := q_ix_s hf; clear hf; obtain ⟨hi9, hf⟩ := hf9
        refine qj_iald (t0 := 0) hx hb hK (by decide) (fun _ _ => rfl) rfl hi9 d_Md_value_48 ?_
        exact hret _ _ _ _ d_Md_value_49 (Option.some.inj hf)
      · replace hf := q_if_f hc7 hf
        refine qj_iconst (v := (-1)) hx hb d_Md_value_32 (by decide) ?_
        exact hret _ _ _ _ d_Md_value_33 (Option.some.inj hf)
theorem d_Md_border_0 : decode prog_14_method_58_code 0 = .ok (.iload_n 1, 1) := by decide +kernel
theorem d_Md_border_1 : decode prog_14_method_58_code 1 = .ok (.ifCond .ne 7, 3) := by decide +kernel
theorem d_Md_border_4 : decode prog_14_method_58_code 4 = .ok (.iconst 0, 1) := by decide +kernel
theorem d_Md_border_5 : decode prog_14_method_58_code 5 = .ok (.goto 14, 3) := by decide +kernel
theorem d_Md_border_8 : decode prog_14_method_58_code 8 = .ok (.aload_n 0, 1) := by decide +kernel
theorem d_Md_border_9 : decode prog_14_method_58_code 9 = .ok (.getfield 83, 3) := by decide +kernel
theorem d_Md_border_12 : decode prog_14_method_58_code 12 = .ok (.bipush 40, 2) := by decide +kernel
theorem d_Md_border_14 : decode prog_14_method_58_code 14 = .ok (.iload_n 2, 1) := by decide +kernel
theorem d_Md_border_15 : decode prog_14_method_58_code 15 = .ok (.imul, 1) := by decide +kernel
theorem d_Md_border_16 : decode prog_14_method_58_code 16 = .ok (.iload_n 1, 1) := by decide +kernel
theorem d_Md_border_17 : decode prog_14_method_58_code 17 = .ok (.iadd, 1) := by decide +kernel
theorem d_Md_border_18 : decode prog_14_method_58_code 18 = .ok (.iaload, 1) := by decide +kernel
theorem d_Md_border_19 : decode prog_14_method_58_code 19 = .ok (.ireturn, 1) := by decide +kernel
def f_Md_border (a1 : Int32) (a2 : Int32) (M : qM) : Option Int32 := if a1 = 0 then (some 0) else (q_ix ((40 * a2) + a1) 280 <| some (M.1 25 ((40 * a2) + a1).toNatClampNeg))
abbrev rm_Md_border : Room := { frames := 0, cells := 0, slots := 0, locals := 0 }
set_option maxRecDepth 100000 in
set_option maxHeartbeats 4000000 in
theorem c_Md_border {l : Launch} {D : va_G} {dA : Nat → ClassId} {b : Nat} (a1 : Int32) (a2 : Int32)  (M : qM) (out : Int32) (hf : f_Md_border a1 a2 M = some out) : CTi l y_Md_border w_Md_border rm_Md_border D (tysX dA) (enM dA b) 38 b (fun _ => True) [qr (some 0), qi a1, qi a2] M (out, M) := by
  refine qm_i (cc := prog_14_method_58_code) (nL := 3) (by decide) rfl (Nat.le_of_ble_eq_true rfl) ?_
  intro p e s m args below meth c Q hx hb hts0 hown hml hK hs hret
  have hts : ∀ w ∈ lw_g, w.before args s = true := fun w h => hts0 w (List.mem_cons_of_mem _ h)
  show QJ p l e rm_Md_border s m args below meth c (qA 38 b) b 3 0 0 Q (qWd D (enM dA b) 38 b) M 0 [(0, qr (some 0)), (1, qi a1), (2, qi a2)] []
  unfold f_Md_border at hf
  refine qj_iload_n hx hb d_Md_border_0 rfl 1 rfl ?_
  refine qj_if_ne (tgt := 8) hx hb d_Md_border_1 (by decide) (fun hc1 => ?_) (fun hc1 => ?_)
  · replace hf := q_if_f hc1 hf
    refine qj_aload_n hx hb d_Md_border_8 rfl 0 rfl ?_
    refine qj_get hx hb hts hin_12 hown hK (by decide) rfl rfl 36 (by decide) (hts _ tw_642) (fun _ h => h) (qr (some 25)) rfl d_Md_border_9 ?_
    refine qj_bipush (v := 40) hx hb d_Md_border_12 (by decide) ?_
    refine qj_iload_n hx hb d_Md_border_14 rfl 2 rfl ?_
    refine qj_imul hx hb d_Md_border_15 ?_
    refine qj_iload_n hx hb d_Md_border_16 rfl 1 rfl ?_
    refine qj_iadd hx hb d_Md_border_17 ?_
    have hf9 := q_ix_s hf; clear hf; obtain ⟨hi2, hf⟩ := hf9
    refine qj_iald (t0 := 0) hx hb hK (by decide) (fun _ _ => rfl) rfl hi2 d_Md_border_18 ?_
    exact hret _ _ _ _ d_Md_border_19 (congrArg (fun z => (z, M)) (Option.some.inj hf))
  · replace hf := q_if_t hc1 hf
    refine qj_iconst (v := 0) hx hb d_Md_border_4 (by decide) ?_
    refine qj_goto (tgt := 19) hx hb d_Md_border_5 (by decide) ?_
    exact hret _ _ _ _ d_Md_border_19 (congrArg (fun z => (z, M)) (Option.some.inj hf))
theorem d_Md_within_0 : decode prog_14_method_60_code 0 = .ok (.aload_n 0, 1) := by decide +kernel
theorem d_Md_within_1 : decode prog_14_method_60_code 1 = .ok (.getfield 19, 3) := by decide +kernel
theorem d_Md_within_4 : decode prog_14_method_60_code 4 = .ok (.aload_n 0, 1) := by decide +kernel
theorem d_Md_within_5 : decode prog_14_method_60_code 5 = .ok (.getfield 16, 3) := by decide +kernel
theorem d_Md_within_8 : decode prog_14_method_60_code 8 = .ok (.iload_n 1, 1) := by decide +kernel
theorem d_Md_within_9 : decode prog_14_method_60_code 9 = .ok (.iaload, 1) := by decide +kernel
theorem d_Md_within_10 : decode prog_14_method_60_code 10 = .ok (.iaload, 1) := by decide +kernel
theorem d_Md_within_11 : decode prog_14_method_60_code 11 = .ok (.iconst 1, 1) := by decide +kernel
theorem d_Md_within_12 : decode prog_14_method_60_code 12 = .ok (.if_icmp .eq 21, 3) := by decide +kernel
theorem d_Md_within_15 : decode prog_14_method_60_code 15 = .ok (.aload_n 0, 1) := by decide +kernel
theorem d_Md_within_16 : decode prog_14_method_60_code 16 = .ok (.getfield 83, 3) := by decide +kernel
theorem d_Md_within_19 : decode prog_14_method_60_code 19 = .ok (.bipush 120, 2) := by decide +kernel
theorem d_Md_within_21 : decode prog_14_method_60_code 21 = .ok (.iload_n 1, 1) := by decide +kernel
theorem d_Md_within_22 : decode prog_14_method_60_code 22 = .ok (.iadd, 1) := by decide +kernel
theorem d_Md_within_23 : decode prog_14_method_60_code 23 = .ok (.iaload, 1) := by decide +kernel
theorem d_Md_within_24 : decode prog_14_method_60_code 24 = .ok (.bipush 98, 2) := by decide +kernel
theorem d_Md_within_26 : decode prog_14_method_60_code 26 = .ok (.if_icmp .ne 7, 3) := by decide +kernel
theorem d_Md_within_29 : decode prog_14_method_60_code 29 = .ok (.iconst 1, 1) := by decide +kernel
theorem d_Md_within_30 : decode prog_14_method_60_code 30 = .ok (.goto 4, 3) := by decide +kernel
theorem d_Md_within_33 : decode prog_14_method_60_code 33 = .ok (.iconst 0, 1) := by decide +kernel
theorem d_Md_within_34 : decode prog_14_method_60_code 34 = .ok (.istore_n 3, 1) := by decide +kernel
theorem d_Md_within_35 : decode prog_14_method_60_code 35 = .ok (.aload_n 0, 1) := by decide +kernel
theorem d_Md_within_36 : decode prog_14_method_60_code 36 = .ok (.getfield 74, 3) := by decide +kernel
theorem d_Md_within_39 : decode prog_14_method_60_code 39 = .ok (.iload_n 1, 1) := by decide +kernel
theorem d_Md_within_40 : decode prog_14_method_60_code 40 = .ok (.iaload, 1) := by decide +kernel
theorem d_Md_within_41 : decode prog_14_method_60_code 41 = .ok (.istore 4, 2) := by decide +kernel
theorem d_Md_within_43 : decode prog_14_method_60_code 43 = .ok (.iconst 0, 1) := by decide +kernel
theorem d_Md_within_44 : decode prog_14_method_60_code 44 = .ok (.istore 5, 2) := by decide +kernel
theorem d_Md_within_46 : decode prog_14_method_60_code 46 = .ok (.iload 5, 2) := by decide +kernel
theorem d_Md_within_48 : decode prog_14_method_60_code 48 = .ok (.bipush 40, 2) := by decide +kernel
theorem d_Md_within_50 : decode prog_14_method_60_code 50 = .ok (.if_icmp .ge 49, 3) := by decide +kernel
theorem d_Md_within_53 : decode prog_14_method_60_code 53 = .ok (.iload 4, 2) := by decide +kernel
theorem d_Md_within_55 : decode prog_14_method_60_code 55 = .ok (.iload_n 2, 1) := by decide +kernel
theorem d_Md_within_56 : decode prog_14_method_60_code 56 = .ok (.if_icmp .le 43, 3) := by decide +kernel
theorem d_Md_within_59 : decode prog_14_method_60_code 59 = .ok (.iload_n 3, 1) := by decide +kernel
theorem d_Md_within_60 : decode prog_14_method_60_code 60 = .ok (.ifCond .eq 22, 3) := by decide +kernel
theorem d_Md_within_63 : decode prog_14_method_60_code 63 = .ok (.aload_n 0, 1) := by decide +kernel
theorem d_Md_within_64 : decode prog_14_method_60_code 64 = .ok (.getfield 83, 3) := by decide +kernel
theorem d_Md_within_67 : decode prog_14_method_60_code 67 = .ok (.bipush 120, 2) := by decide +kernel
theorem d_Md_within_69 : decode prog_14_method_60_code 69 = .ok (.iload 4, 2) := by decide +kernel
theorem d_Md_within_71 : decode prog_14_method_60_code 71 = .ok (.iadd, 1) := by decide +kernel
theorem d_Md_within_72 : decode prog_14_method_60_code 72 = .ok (.iaload, 1) := by decide +kernel
theorem d_Md_within_73 : decode prog_14_method_60_code 73 = .ok (.bipush 105, 2) := by decide +kernel
theorem d_Md_within_75 : decode prog_14_method_60_code 75 = .ok (.if_icmp .ne 7, 3) := by decide +kernel
theorem d_Md_within_78 : decode prog_14_method_60_code 78 = .ok (.iconst 1, 1) := by decide +kernel
theorem d_Md_within_79 : decode prog_14_method_60_code 79 = .ok (.goto 4, 3) := by decide +kernel
theorem d_Md_within_82 : decode prog_14_method_60_code 82 = .ok (.iconst 0, 1) := by decide +kernel
theorem d_Md_within_83 : decode prog_14_method_60_code 83 = .ok (.istore_n 3, 1) := by decide +kernel
theorem d_Md_within_84 : decode prog_14_method_60_code 84 = .ok (.aload_n 0, 1) := by decide +kernel
theorem d_Md_within_85 : decode prog_14_method_60_code 85 = .ok (.getfield 74, 3) := by decide +kernel
theorem d_Md_within_88 : decode prog_14_method_60_code 88 = .ok (.iload 4, 2) := by decide +kernel
theorem d_Md_within_90 : decode prog_14_method_60_code 90 = .ok (.iaload, 1) := by decide +kernel
theorem d_Md_within_91 : decode prog_14_method_60_code 91 = .ok (.istore 4, 2) := by decide +kernel
theorem d_Md_within_93 : decode prog_14_method_60_code 93 = .ok (.iinc 5 1, 3) := by decide +kernel
theorem d_Md_within_96 : decode prog_14_method_60_code 96 = .ok (.goto (-50), 3) := by decide +kernel
theorem d_Md_within_99 : decode prog_14_method_60_code 99 = .ok (.iload_n 3, 1) := by decide +kernel
theorem d_Md_within_100 : decode prog_14_method_60_code 100 = .ok (.ireturn, 1) := by decide +kernel
def f_Md_within_46 (a2 : Int32) (M : qM) : Nat → (Int32 → Option Int32) → Int32 → Int32 → Int32 → Option Int32
  | 0, _, _, _, _ => none
  | n + 1, K8, x5, x6, x7 => if 40 ≤ x7 then (K8 x5) else (if x6 ≤ a2 then (K8 x5) else (q_lt (fun (x11 : Int32) => q_ix x6 40 <| f_Md_within_46 a2 M n K8 x11 (M.1 22 x6.toNatClampNeg) (x7 + 1)) fun (j13 : Int32 → Option Int32) => q_lt (j13 0) fun (j14 : Option Int32) => if x5 = 0 then (j14) else (q_ix (120 + x6) 280 <| if (M.1 25 (120 + x6).toNatClampNeg) = 105 then (j13 1) else (j14))))
def f_Md_within (a1 : Int32) (a2 : Int32) (M : qM) : Option Int32 := q_ix a1 40 <| q_ix (M.1 3 a1.toNatClampNeg) 40 <| q_lt (fun (x3 : Int32) => q_ix a1 40 <| f_Md_within_46 a2 M 1000 (fun (x18 : Int32) => q_zk x18 <| some x18) x3 (M.1 22 a1.toNatClampNeg) 0) fun (j20 : Int32 → Option Int32) => q_lt (j20 0) fun (j21 : Option Int32) => if (M.1 4 (M.1 3 a1.toNatClampNeg).toNatClampNeg) = 1 then (j21) else (q_ix (120 + a1) 280 <| if (M.1 25 (120 + a1).toNatClampNeg) = 98 then (j20 1) else (j21))
abbrev rm_Md_within : Room := { frames := 0, cells := 0, slots := 0, locals := 0 }
set_option maxRecDepth 100000 in
set_option maxHeartbeats 4000000 in
theorem c_Md_within {l : Launch} {D : va_G} {dA : Nat → ClassId} {b : Nat} (a1 : Int32) (a2 : Int32)  (M : qM) (out : Int32) (hf : f_Md_within a1 a2 M = some out) : CTi l y_Md_within w_Md_within rm_Md_within D (tysX dA) (enM dA b) 38 b (fun _ => True) [qr (some 0), qi a1, qi a2] M (out, M) := by
  refine qm_z (cc := prog_14_method_60_code) (nL := 6) (by decide) rfl (Nat.le_of_ble_eq_true rfl) ?_
  intro p e s m args below meth c Q hx hb hts0 hown hml hK hs hret
  have hts : ∀ w ∈ lw_g, w.before args s = true := fun w h => hts0 w (List.mem_cons_of_mem _ h)
  show QJ p l e rm_Md_within s m args below meth c (qA 38 b) b 6 0 0 Q (qWd D (enM dA b) 38 b) M 0 [(0, qr (some 0)), (1, qi a1), (2, qi a2)] []
  unfold f_Md_within at hf
  refine qj_aload_n hx hb d_Md_within_0 rfl 0 rfl ?_
  refine qj_get hx hb hts hin_12 hown hK (by decide) rfl rfl 8 (by decide) (hts _ tw_450) (fun _ h => h) (qr (some 4)) rfl d_Md_within_1 ?_
  refine qj_aload_n hx hb d_Md_within_4 rfl 0 rfl ?_
  refine qj_get hx hb hts hin_12 hown hK (by decide) rfl rfl 6 (by decide) (hts _ tw_448) (fun _ h => h) (qr (some 3)) rfl d_Md_within_5 ?_
  refine qj_iload_n hx hb d_Md_within_8 rfl 1 rfl ?_
  have hf9 := q_ix_s hf; clear hf; obtain ⟨hi1, hf⟩ := hf9
  refine qj_iald (t0 := 0) hx hb hK (by decide) (fun _ _ => rfl) rfl hi1 d_Md_within_9 ?_
  have hf9 := q_ix_s hf; clear hf; obtain ⟨hi2, hf⟩ := hf9
  refine qj_iald (t0 := 0) hx hb hK (by decide) (fun _ _ => rfl) rfl hi2 d_Md_within_10 ?_
  refine qj_iconst (v := 1) hx hb d_Md_within_11 (by decide) ?_
  have hf9 := q_lt_s hf; clear hf; obtain ⟨j20, ej20, hf⟩ := hf9
  have hj20 : ∀ (x3 : Int32), j20 x3 = some out → QJ p l e rm_Md_within s m args below meth c (qA 38 b) b 6 0 0 Q (qWd D (enM dA b) 38 b) M 34 [(0, qr (some 0)), (1, qi a1), (2, qi a2)] [qi x3] := by
    clear hf
    intro x3 hf
    rw [ej20] at hf
    refine qj_istore_n hx hb d_Md_within_34 rfl (by decide) rfl ?_
    refine qj_aload_n hx hb d_Md_within_35 rfl 1 rfl ?_
    refine qj_get hx hb hts hin_12 hown hK (by decide) rfl rfl 33 (by decide) (hts _ tw_630) (fun _ h => h) (qr (some 22)) rfl d_Md_within_36 ?_
    refine qj_iload_n hx hb d_Md_within_39 rfl 2 rfl ?_
    have hf9 := q_ix_s hf; clear hf; obtain ⟨hi4, hf⟩ := hf9
    refine qj_iald (t0 := 0) hx hb hK (by decide) (fun _ _ => rfl) rfl hi4 d_Md_within_40 ?_
    refine qj_istore hx hb d_Md_within_41 (by decide) rfl ?_
    refine qj_iconst (v := 0) hx hb d_Md_within_43 (by decide) ?_
    refine qj_istore hx hb d_Md_within_44 (by decide) rfl ?_
    have hL46 : ∀ (n : Nat) (K8 : Int32 → Option Int32), (∀ (x18 : Int32), K8 x18 = some out → QJ p l e rm_Md_within s m args below meth c (qA 38 b) b 6 0 0 Q (qWd D (enM dA b) 38 b) M 99 [(3, qi x18)] []) → ∀ (x5 : Int32) (x6 : Int32) (x7 : Int32), f_Md_within_46 a2 M n K8 x5 x6 x7 = some out → QJ p l e rm_Md_within s m args below meth c (qA 38 b) b 6 0 0 Q (qWd D (enM dA b) 38 b) M 46 [(0, qr (some 0)), (2, qi a2), (3, qi x5), (4, qi x6), (5, qi x7)] [] := by
      clear hf
      intro n
      induction n with
      | zero =>
        intro K8 hK8 x5 x6 x7 hf
        exact absurd hf (by simp [f_Md_within_46])
      | succ n ih46 =>
        intro K8 hK8 x5 x6 x7 hf
        rw [f_Md_within_46] at hf
        have ih46 := ih46 K8 hK8
        refine qj_iload hx hb d_Md_within_46 4 rfl ?_
        refine qj_bipush (v := 40) hx hb d_Md_within_48 (by decide) ?_
        refine qj_icmp_ge (tgt := 99) hx hb d_Md_within_50 (by decide) (fun hc9 => ?_) (fun hc9 => ?_)
        · replace hf := q_if_t hc9 hf
          refine qj_sub [2] rfl ?_
          exact hK8 x5 hf
        · replace hf := q_if_f hc9 hf
          refine qj_iload hx hb d_Md_within_53 3 rfl ?_
          refine qj_iload_n hx hb d_Md_within_55 rfl 1 rfl ?_
          refine qj_icmp_le (tgt := 99) hx hb d_Md_within_56 (by decide) (fun hc10 => ?_) (fun hc10 => ?_)
          · replace hf := q_if_t hc10 hf
            refine qj_sub [2] rfl ?_
            exact hK8 x5 hf
          · replace hf := q_if_f hc10 hf
            refine qj_iload_n hx hb d_Md_within_59 rfl 2 rfl ?_
            have hf9 := q_lt_s hf; clear hf; obtain ⟨j13, ej13, hf⟩ := hf9
            have hj13 : ∀ (x11 : Int32), j13 x11 = some out → QJ p l e rm_Md_within s m args below meth c (qA 38 b) b 6 0 0 Q (qWd D (enM dA b) 38 b) M 83 [(0, qr (some 0)), (2, qi a2), (4, qi x6), (5, qi x7)] [qi x11] := by
              clear hf
              intro x11 hf
              rw [ej13] at hf
              refine qj_istore_n hx hb d_Md_within_83 rfl (by decide) rfl ?_
              refine qj_aload_n hx hb d_Md_within_84 rfl 1 rfl ?_
              refine qj_get hx hb hts hin_12 hown hK (by decide) rfl rfl 33 (by decide) (hts _ tw_630) (fun _ h => h) (qr (some 22)) rfl d_Md_within_85 ?_
              refine qj_iload hx hb d_Md_within_88 3 rfl ?_
              have hf9 := q_ix_s hf; clear hf; obtain ⟨hi12, hf⟩ := hf9
              refine qj_iald (t0 := 0) hx hb hK (by decide) (fun _ _ => rfl) rfl hi12 d_Md_within_90 ?_
              refine qj_istore hx hb d_Md_within_91 (by decide) rfl ?_
              refine qj_iinc (j := 4) (v := x7 + 1) hx hb d_Md_within_93 rfl rfl (by decide) rfl ?_
              refine qj_goto (tgt := 46) hx hb d_Md_within_96 (by decide) ?_
              refine qj_sub [3, 4, 2, 1, 0] rfl ?_
              exact ih46 x11 (M.1 22 x6.toNatClampNeg) (x7 + 1) hf
            have hf9 := q_lt_s hf; clear hf; obtain ⟨j14, ej14, hf⟩ := hf9
            have hj14 : j14 = some out → QJ p l e rm_Md_within s m args below meth c (qA 38 b) b 6 0 0 Q (qWd D (enM dA b) 38 b) M 82 [(0, qr (some 0)), (2, qi a2), (4, qi x6), (5, qi x7)] [] := by
              clear hf
              intro hf
              rw [ej14] at hf
              refine qj_iconst (v := 0) hx hb d_Md_within_82 (by decide) ?_
              exact hj13 0 hf
            refine qj_if_eq (tgt := 82) hx hb d_Md_within_60 (by decide) (fun hc15 => ?_) (fun hc15 => ?_)
            · replace hf := q_if_t hc15 hf
              refine qj_sub [0, 1, 3, 4] rfl ?_
              exact hj14  hf
            · replace hf := q_if_f hc15 hf
              refine qj_aload_n hx hb d_Md_within_63 rfl 0 rfl ?_
              refine qj_get hx hb hts hin_12 hown hK (by decide) rfl rfl 36 (by decide) (hts _ tw_642) (fun _ h => h) (qr (some 25)) rfl d_Md_within_64 ?_
              refine qj_bipush (v := 120) hx hb d_Md_within_67 (by decide) ?_
              refine qj_iload hx hb d_Md_within_69 3 rfl ?_
              refine qj_iadd hx hb d_Md_within_71 ?_
              have hf9 := q_ix_s hf; clear hf; obtain ⟨hi16, hf⟩ := hf9
              refine qj_iald (t0 := 0) hx hb hK (by decide) (fun _ _ => rfl) rfl hi16 d_Md_within_72 ?_
              refine qj_bipush (v := 105) hx hb d_Md_within_73 (by decide) ?_
              refine qj_icmp_ne (tgt := 82) hx hb d_Md_within_75 (by decide) (fun hc17 => ?_) (fun hc17 => ?_)
              · replace hf := q_if_f hc17 hf
                refine qj_sub [0, 1, 3, 4] rfl ?_
                exact hj14  hf
              · replace hf := q_if_t hc17 hf
                refine qj_iconst (v := 1) hx hb d_Md_within_78 (by decide) ?_
                refine qj_goto (tgt := 83) hx hb d_Md_within_79 (by decide) ?_
                refine qj_sub [0, 1, 3, 4] rfl ?_
                exact hj13 1 hf
    refine qj_sub [3, 5, 2, 1, 0] rfl ?_
    refine hL46 _ _ (fun x18 hf9 => ?_) x3 (M.1 22 a1.toNatClampNeg) 0 hf
    clear hf; have hf := hf9; clear hf9
    refine qj_iload_n hx hb d_Md_within_99 rfl 0 rfl ?_
    have hf9 := q_zk_s hf; clear hf; obtain ⟨hz19, hf⟩ := hf9
    exact hret _ _ _ _ hz19 d_Md_within_100 (congrArg (fun z => (z, M)) (Option.some.inj hf))
  have hf9 := q_lt_s hf; clear hf; obtain ⟨j21, ej21, hf⟩ := hf9
  have hj21 : j21 = some out → QJ p l e rm_Md_within s m args below meth c (qA 38 b) b 6 0 0 Q (qWd D (enM dA b) 38 b) M 33 [(0, qr (some 0)), (1, qi a1), (2, qi a2)] [] := by
    clear hf
    intro hf
    rw [ej21] at hf
    refine qj_iconst (v := 0) hx hb d_Md_within_33 (by decide) ?_
    exact hj20 0 hf
  refine qj_icmp_eq (tgt := 33) hx hb d_Md_within_12 (by decide) (fun hc22 => ?_) (fun hc22 => ?_)
  · replace hf := q_if_t hc22 hf
    exact hj21  hf
  · replace hf := q_if_f hc22 hf
    refine qj_aload_n hx hb d_Md_within_15 rfl 0 rfl ?_
    refine qj_get hx hb hts hin_12 hown hK (by decide) rfl rfl 36 (by decide) (hts _ tw_642) (fun _ h => h) (qr (some 25)) rfl d_Md_within_16 ?_
    refine qj_bipush (v := 120) hx hb d_Md_within_19 (by decide) ?_
    refine qj_iload_n hx hb d_Md_within_21 rfl 1 rfl ?_
    refine qj_iadd hx hb d_Md_within_22 ?_
    have hf9 := q_ix_s hf; clear hf; obtain ⟨hi23, hf⟩ := hf9
    refine qj_iald (t0 := 0) hx hb hK (by decide) (fun _ _ => rfl) rfl hi23 d_Md_within_23 ?_
    refine qj_bipush (v := 98) hx hb d_Md_within_24 (by decide) ?_
    refine qj_icmp_ne (tgt := 33) hx hb d_Md_within_26 (by decide) (fun hc24 => ?_) (fun hc24 => ?_)
    · replace hf := q_if_f hc24 hf
      exact hj21  hf
    · replace hf := q_if_t hc24 hf
      refine qj_iconst (v := 1) hx hb d_Md_within_29 (by decide) ?_
      refine qj_goto (tgt := 34) hx hb d_Md_within_30 (by decide) ?_
      exact hj20 1 hf
