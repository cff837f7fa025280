theorem d_Md_box_0 : decode prog_14_method_70_code 0 = .ok (.aload_n 0, 1) := by decide +kernel
theorem d_Md_box_1 : decode prog_14_method_70_code 1 = .ok (.getfield 133, 3) := by decide +kernel
theorem d_Md_box_4 : decode prog_14_method_70_code 4 = .ok (.ifCond .eq 29, 3) := by decide +kernel
theorem d_Md_box_7 : decode prog_14_method_70_code 7 = .ok (.aload_n 0, 1) := by decide +kernel
theorem d_Md_box_8 : decode prog_14_method_70_code 8 = .ok (.iload_n 1, 1) := by decide +kernel
theorem d_Md_box_9 : decode prog_14_method_70_code 9 = .ok (.invokevirtual 260, 3) := by decide +kernel
theorem d_Md_box_12 : decode prog_14_method_70_code 12 = .ok (.ifCond .ne 21, 3) := by decide +kernel
theorem d_Md_box_15 : decode prog_14_method_70_code 15 = .ok (.aload_n 0, 1) := by decide +kernel
theorem d_Md_box_16 : decode prog_14_method_70_code 16 = .ok (.getfield 89, 3) := by decide +kernel
theorem d_Md_box_19 : decode prog_14_method_70_code 19 = .ok (.iload_n 1, 1) := by decide +kernel
theorem d_Md_box_20 : decode prog_14_method_70_code 20 = .ok (.baload, 1) := by decide +kernel
theorem d_Md_box_21 : decode prog_14_method_70_code 21 = .ok (.ifCond .eq 12, 3) := by decide +kernel
theorem d_Md_box_24 : decode prog_14_method_70_code 24 = .ok (.iload_n 2, 1) := by decide +kernel
theorem d_Md_box_25 : decode prog_14_method_70_code 25 = .ok (.ifCond .lt 8, 3) := by decide +kernel
theorem d_Md_box_28 : decode prog_14_method_70_code 28 = .ok (.iload_n 2, 1) := by decide +kernel
theorem d_Md_box_29 : decode prog_14_method_70_code 29 = .ok (.iconst 3, 1) := by decide +kernel
theorem d_Md_box_30 : decode prog_14_method_70_code 30 = .ok (.if_icmp .le 5, 3) := by decide +kernel
theorem d_Md_box_33 : decode prog_14_method_70_code 33 = .ok (.iconst (-1), 1) := by decide +kernel
theorem d_Md_box_34 : decode prog_14_method_70_code 34 = .ok (.ireturn, 1) := by decide +kernel
theorem d_Md_box_35 : decode prog_14_method_70_code 35 = .ok (.iload_n 2, 1) := by decide +kernel
theorem d_Md_box_36 : decode prog_14_method_70_code 36 = .ok (.ifCond .ne 12, 3) := by decide +kernel
theorem d_Md_box_39 : decode prog_14_method_70_code 39 = .ok (.aload_n 0, 1) := by decide +kernel
theorem d_Md_box_40 : decode prog_14_method_70_code 40 = .ok (.getfield 95, 3) := by decide +kernel
theorem d_Md_box_43 : decode prog_14_method_70_code 43 = .ok (.iload_n 1, 1) := by decide +kernel
theorem d_Md_box_44 : decode prog_14_method_70_code 44 = .ok (.iaload, 1) := by decide +kernel
theorem d_Md_box_45 : decode prog_14_method_70_code 45 = .ok (.goto 46, 3) := by decide +kernel
theorem d_Md_box_48 : decode prog_14_method_70_code 48 = .ok (.iload_n 2, 1) := by decide +kernel
theorem d_Md_box_49 : decode prog_14_method_70_code 49 = .ok (.iconst 1, 1) := by decide +kernel
theorem d_Md_box_50 : decode prog_14_method_70_code 50 = .ok (.if_icmp .ne 12, 3) := by decide +kernel
theorem d_Md_box_53 : decode prog_14_method_70_code 53 = .ok (.aload_n 0, 1) := by decide +kernel
theorem d_Md_box_54 : decode prog_14_method_70_code 54 = .ok (.getfield 104, 3) := by decide +kernel
theorem d_Md_box_57 : decode prog_14_method_70_code 57 = .ok (.iload_n 1, 1) := by decide +kernel
theorem d_Md_box_58 : decode prog_14_method_70_code 58 = .ok (.iaload, 1) := by decide +kernel
theorem d_Md_box_59 : decode prog_14_method_70_code 59 = .ok (.goto 32, 3) := by decide +kernel
theorem d_Md_box_62 : decode prog_14_method_70_code 62 = .ok (.iload_n 2, 1) := by decide +kernel
theorem d_Md_box_63 : decode prog_14_method_70_code 63 = .ok (.iconst 2, 1) := by decide +kernel
theorem d_Md_box_64 : decode prog_14_method_70_code 64 = .ok (.if_icmp .ne 21, 3) := by decide +kernel
theorem d_Md_box_67 : decode prog_14_method_70_code 67 = .ok (.aload_n 0, 1) := by decide +kernel
theorem d_Md_box_68 : decode prog_14_method_70_code 68 = .ok (.getfield 98, 3) := by decide +kernel
theorem d_Md_box_71 : decode prog_14_method_70_code 71 = .ok (.iload_n 1, 1) := by decide +kernel
theorem d_Md_box_72 : decode prog_14_method_70_code 72 = .ok (.iaload, 1) := by decide +kernel
theorem d_Md_box_73 : decode prog_14_method_70_code 73 = .ok (.iconst 2, 1) := by decide +kernel
theorem d_Md_box_74 : decode prog_14_method_70_code 74 = .ok (.aload_n 0, 1) := by decide +kernel
theorem d_Md_box_75 : decode prog_14_method_70_code 75 = .ok (.iload_n 1, 1) := by decide +kernel
theorem d_Md_box_76 : decode prog_14_method_70_code 76 = .ok (.iconst 5, 1) := by decide +kernel
theorem d_Md_box_77 : decode prog_14_method_70_code 77 = .ok (.invokevirtual 325, 3) := by decide +kernel
theorem d_Md_box_80 : decode prog_14_method_70_code 80 = .ok (.imul, 1) := by decide +kernel
theorem d_Md_box_81 : decode prog_14_method_70_code 81 = .ok (.iadd, 1) := by decide +kernel
theorem d_Md_box_82 : decode prog_14_method_70_code 82 = .ok (.goto 9, 3) := by decide +kernel
theorem d_Md_box_85 : decode prog_14_method_70_code 85 = .ok (.aload_n 0, 1) := by decide +kernel
theorem d_Md_box_86 : decode prog_14_method_70_code 86 = .ok (.getfield 101, 3) := by decide +kernel
theorem d_Md_box_89 : decode prog_14_method_70_code 89 = .ok (.iload_n 1, 1) := by decide +kernel
theorem d_Md_box_90 : decode prog_14_method_70_code 90 = .ok (.iaload, 1) := by decide +kernel
theorem d_Md_box_91 : decode prog_14_method_70_code 91 = .ok (.ireturn, 1) := by decide +kernel
def f_Md_box (a1 : Int32) (a2 : Int32) (M : qM) : Option Int32 := if (M.1 0 37) = 0 then (some (-1)) else (q_bp (f_Md_none a1 M) fun x2 => if x2 = 0 then (q_ix a1 40 <| if (M.1 27 a1.toNatClampNeg) = 0 then (some (-1)) else (if a2 < 0 then (some (-1)) else (if a2 ≤ 3 then (if a2 = 0 then (q_ix a1 40 <| some (M.1 29 a1.toNatClampNeg)) else (if a2 = 1 then (q_ix a1 40 <| some (M.1 32 a1.toNatClampNeg)) else (if a2 = 2 then (q_ix a1 40 <| q_bp (f_Md_border a1 5 M) fun x13 => some ((M.1 30 a1.toNatClampNeg) + (2 * x13))) else (q_ix a1 40 <| some (M.1 31 a1.toNatClampNeg))))) else (some (-1))))) else (some (-1)))
abbrev rm_Md_box : Room := { frames := 1, cells := 0, slots := 0, locals := 22 }
set_option maxRecDepth 100000 in
set_option maxHeartbeats 4000000 in
theorem c_Md_box {l : Launch} {D : va_G} {dA : Nat → ClassId} {b : Nat} (a1 : Int32) (a2 : Int32)  (M : qM) (out : Int32) (hf : f_Md_box a1 a2 M = some out) : CTi l y_Md_box w_Md_box rm_Md_box D (tysX dA) (enM dA b) 38 b (fun _ => True) [qr (some 0), qi a1, qi a2] M (out, M) := by
  refine qm_i (cc := prog_14_method_70_code) (nL := 3) (by decide) rfl (Nat.le_of_ble_eq_true rfl) ?_
  intro p e s m args below meth c Q hx hb hts0 hown hml hK hs hret
  have hts : ∀ w ∈ lw_g, w.before args s = true := fun w h => hts0 w (List.mem_cons_of_mem _ h)
  show QJ p l e rm_Md_box s m args below meth c (qA 38 b) b 3 0 0 Q (qWd D (enM dA b) 38 b) M 0 [(0, qr (some 0)), (1, qi a1), (2, qi a2)] []
  unfold f_Md_box at hf
  refine qj_aload_n hx hb d_Md_box_0 rfl 0 rfl ?_
  refine qj_get hx hb hts hin_12 hown hK (by decide) rfl rfl 37 (by decide) (hts _ tw_586) (fun _ h => h) (qi (M.1 0 37)) rfl d_Md_box_1 ?_
  refine qj_if_eq (tgt := 33) hx hb d_Md_box_4 (by decide) (fun hc1 => ?_) (fun hc1 => ?_)
  · replace hf := q_if_t hc1 hf
    refine qj_iconst (v := (-1)) hx hb d_Md_box_33 (by decide) ?_
    exact hret _ _ _ _ d_Md_box_34 (congrArg (fun z => (z, M)) (Option.some.inj hf))
  · replace hf := q_if_f hc1 hf
    refine qj_aload_n hx hb d_Md_box_7 rfl 0 rfl ?_
    refine qj_iload_n hx hb d_Md_box_8 rfl 1 rfl ?_
    have hf9 := q_bp_s hf; clear hf; obtain ⟨x2, hx2, hf⟩ := hf9
    refine qc_Vi (st := []) hx hb hml hown hts hK qT_ok hs (c_Md_none a1 M _ hx2) ⟨(callB_of 1 hts (q_good tw_593) rfl rfl rfl (hts _ tw_459) (hts _ tw_594) (by decide +kernel) ⟨by decide, by decide⟩), (hts _ tw_595), (hts _ tw_596)⟩ (by decide) rfl rfl rfl rfl (Nat.le_of_ble_eq_true rfl) d_Md_box_9 ?_
    refine qj_if_ne (tgt := 33) hx hb d_Md_box_12 (by decide) (fun hc3 => ?_) (fun hc3 => ?_)
    · replace hf := q_if_f hc3 hf
      refine qj_iconst (v := (-1)) hx hb d_Md_box_33 (by decide) ?_
      exact hret _ _ _ _ d_Md_box_34 (congrArg (fun z => (z, M)) (Option.some.inj hf))
    · replace hf := q_if_t hc3 hf
      refine qj_aload_n hx hb d_Md_box_15 rfl 0 rfl ?_
      refine qj_get hx hb hts hin_12 hown hK (by decide) rfl rfl 41 (by decide) (hts _ tw_665) (fun _ h => h) (qr (some 27)) rfl d_Md_box_16 ?_
      refine qj_iload_n hx hb d_Md_box_19 rfl 1 rfl ?_
      have hf9 := q_ix_s hf; clear hf; obtain ⟨hi4, hf⟩ := hf9
      refine qj_zald (t0 := 2) hx hb hK (by decide) (fun _ _ => rfl) rfl hi4 d_Md_box_20 ?_
      refine qj_if_eq (tgt := 33) hx hb d_Md_box_21 (by decide) (fun hc5 => ?_) (fun hc5 => ?_)
      · replace hf := q_if_t hc5 hf
        refine qj_iconst (v := (-1)) hx hb d_Md_box_33 (by decide) ?_
        exact hret _ _ _ _ d_Md_box_34 (congrArg (fun z => (z, M)) (Option.some.inj hf))
      · replace hf := q_if_f hc5 hf
        refine qj_iload_n hx hb d_Md_box_24 rfl 2 rfl ?_
        refine qj_if_lt (tgt := 33) hx hb d_Md_box_25 (by decide) (fun hc6 => ?_) (fun hc6 => ?_)
        · replace hf := q_if_t hc6 hf
          refine qj_iconst (v := (-1)) hx hb d_Md_box_33 (by decide) ?_
          exact hret _ _ _ _ d_Md_box_34 (congrArg (fun z => (z, M)) (Option.some.inj hf))
        · replace hf := q_if_f hc6 hf
          refine qj_iload_n hx hb d_Md_box_28 rfl 2 rfl ?_
          refine qj_iconst (v := 3) hx hb d_Md_box_29 (by decide) ?_
          refine qj_icmp_le (tgt := 35) hx hb d_Md_box_30 (by decide) (fun hc7 => ?_) (fun hc7 => ?_)
          · replace hf := q_if_t hc7 hf
            refine qj_iload_n hx hb d_Md_box_35 rfl 2 rfl ?_
            refine qj_if_ne (tgt := 48) hx hb d_Md_box_36 (by decide) (fun hc8 => ?_) (fun hc8 => ?_)
            · replace hf := q_if_f hc8 hf
              refine qj_iload_n hx hb d_Md_box_48 rfl 2 rfl ?_
              refine qj_iconst (v := 1) hx hb d_Md_box_49 (by decide) ?_
              refine qj_icmp_ne (tgt := 62) hx hb d_Md_box_50 (by decide) (fun hc9 => ?_) (fun hc9 => ?_)
              · replace hf := q_if_f hc9 hf
                refine qj_iload_n hx hb d_Md_box_62 rfl 2 rfl ?_
                refine qj_iconst (v := 2) hx hb d_Md_box_63 (by decide) ?_
                refine qj_icmp_ne (tgt := 85) hx hb d_Md_box_64 (by decide) (fun hc10 => ?_) (fun hc10 => ?_)
                · replace hf := q_if_f hc10 hf
                  refine qj_aload_n hx hb d_Md_box_85 rfl 0 rfl ?_
                  refine qj_get hx hb hts hin_12 hown hK (by decide) rfl rfl 45 (by decide) (hts _ tw_714) (fun _ h => h) (qr (some 31)) rfl d_Md_box_86 ?_
                  refine qj_iload_n hx hb d_Md_box_89 rfl 1 rfl ?_
                  have hf9 := q_ix_s hf; clear hf; obtain ⟨hi11, hf⟩ := hf9
                  refine qj_iald (t0 := 0) hx hb hK (by decide) (fun _ _ => rfl) rfl hi11 d_Md_box_90 ?_
                  exact hret _ _ _ _ d_Md_box_91 (congrArg (fun z => (z, M)) (Option.some.inj hf))
                · replace hf := q_if_t hc10 hf
                  refine qj_aload_n hx hb d_Md_box_67 rfl 0 rfl ?_
                  refine qj_get hx hb hts hin_12 hown hK (by decide) rfl rfl 44 (by decide) (hts _ tw_672) (fun _ h => h) (qr (some 30)) rfl d_Md_box_68 ?_
                  refine qj_iload_n hx hb d_Md_box_71 rfl 1 rfl ?_
                  have hf9 := q_ix_s hf; clear hf; obtain ⟨hi12, hf⟩ := hf9
                  refine qj_iald (t0 := 0) hx hb hK (by decide) (fun _ _ => rfl) rfl hi12 d_Md_box_72 ?_
                  refine qj_iconst (v := 2) hx hb d_Md_box_73 (by decide) ?_
                  refine qj_aload_n hx hb d_Md_box_74 rfl 0 rfl ?_
                  refine qj_iload_n hx hb d_Md_box_75 rfl 1 rfl ?_
                  refine qj_iconst (v := 5) hx hb d_Md_box_76 (by decide) ?_
                  have hf9 := q_bp_s hf; clear hf; obtain ⟨x13, hx13, hf⟩ := hf9
                  refine qc_Vi (st := [qi 2, qi (M.1 30 a1.toNatClampNeg)]) hx hb hml hown hts hK qT_ok hs (c_Md_border a1 5 M _ hx13) ⟨(callB_of 2 hts (q_good tw_668) rfl rfl rfl (hts _ tw_459) (hts _ tw_669) (by decide +kernel) ⟨by decide, by decide⟩), (hts _ tw_670), (hts _ tw_671)⟩ (by decide) rfl rfl rfl rfl (Nat.le_of_ble_eq_true rfl) d_Md_box_77 ?_
                  refine qj_imul hx hb d_Md_box_80 ?_
                  refine qj_iadd hx hb d_Md_box_81 ?_
                  refine qj_goto (tgt := 91) hx hb d_Md_box_82 (by decide) ?_
                  exact hret _ _ _ _ d_Md_box_91 (congrArg (fun z => (z, M)) (Option.some.inj hf))
              · replace hf := q_if_t hc9 hf
                refine qj_aload_n hx hb d_Md_box_53 rfl 0 rfl ?_
                refine qj_get hx hb hts hin_12 hown hK (by decide) rfl rfl 46 (by decide) (hts _ tw_713) (fun _ h => h) (qr (some 32)) rfl d_Md_box_54 ?_
                refine qj_iload_n hx hb d_Md_box_57 rfl 1 rfl ?_
                have hf9 := q_ix_s hf; clear hf; obtain ⟨hi14, hf⟩ := hf9
                refine qj_iald (t0 := 0) hx hb hK (by decide) (fun _ _ => rfl) rfl hi14 d_Md_box_58 ?_
                refine qj_goto (tgt := 91) hx hb d_Md_box_59 (by decide) ?_
                exact hret _ _ _ _ d_Md_box_91 (congrArg (fun z => (z, M)) (Option.some.inj hf))
            · replace hf := q_if_t hc8 hf
              refine qj_aload_n hx hb d_Md_box_39 rfl 0 rfl ?_
              refine qj_get hx hb hts hin_12 hown hK (by decide) rfl rfl 43 (by decide) (hts _ tw_667) (fun _ h => h) (qr (some 29)) rfl d_Md_box_40 ?_
              refine qj_iload_n hx hb d_Md_box_43 rfl 1 rfl ?_
              have hf9 := q_ix_s hf; clear hf; obtain ⟨hi15, hf⟩ := hf9
              refine qj_iald (t0 := 0) hx hb hK (by decide) (fun _ _ => rfl) rfl hi15 d_Md_box_44 ?_
              refine qj_goto (tgt := 91) hx hb d_Md_box_45 (by decide) ?_
              exact hret _ _ _ _ d_Md_box_91 (congrArg (fun z => (z, M)) (Option.some.inj hf))
          · replace hf := q_if_f hc7 hf
            refine qj_iconst (v := (-1)) hx hb d_Md_box_33 (by decide) ?_
            exact hret _ _ _ _ d_Md_box_34 (congrArg (fun z => (z, M)) (Option.some.inj hf))
theorem d_Md_place_0 : decode prog_14_method_71_code 0 = .ok (.aload_n 0, 1) := by decide +kernel
theorem d_Md_place_1 : decode prog_14_method_71_code 1 = .ok (.iload_n 1, 1) := by decide +kernel
theorem d_Md_place_2 : decode prog_14_method_71_code 2 = .ok (.iload_n 2, 1) := by decide +kernel
theorem d_Md_place_3 : decode prog_14_method_71_code 3 = .ok (.invokevirtual 266, 3) := by decide +kernel
theorem d_Md_place_6 : decode prog_14_method_71_code 6 = .ok (.istore_n 3, 1) := by decide +kernel
theorem d_Md_place_7 : decode prog_14_method_71_code 7 = .ok (.aload_n 0, 1) := by decide +kernel
theorem d_Md_place_8 : decode prog_14_method_71_code 8 = .ok (.getfield 133, 3) := by decide +kernel
theorem d_Md_place_11 : decode prog_14_method_71_code 11 = .ok (.ifCond .eq 16, 3) := by decide +kernel
theorem d_Md_place_14 : decode prog_14_method_71_code 14 = .ok (.iload_n 3, 1) := by decide +kernel
theorem d_Md_place_15 : decode prog_14_method_71_code 15 = .ok (.ifCond .lt 12, 3) := by decide +kernel
theorem d_Md_place_18 : decode prog_14_method_71_code 18 = .ok (.aload_n 0, 1) := by decide +kernel
theorem d_Md_place_19 : decode prog_14_method_71_code 19 = .ok (.getfield 107, 3) := by decide +kernel
theorem d_Md_place_22 : decode prog_14_method_71_code 22 = .ok (.iload_n 3, 1) := by decide +kernel
theorem d_Md_place_23 : decode prog_14_method_71_code 23 = .ok (.baload, 1) := by decide +kernel
theorem d_Md_place_24 : decode prog_14_method_71_code 24 = .ok (.ifCond .ne 7, 3) := by decide +kernel
theorem d_Md_place_27 : decode prog_14_method_71_code 27 = .ok (.iconst (-1), 1) := by decide +kernel
theorem d_Md_place_28 : decode prog_14_method_71_code 28 = .ok (.goto 20, 3) := by decide +kernel
theorem d_Md_place_31 : decode prog_14_method_71_code 31 = .ok (.aload_n 0, 1) := by decide +kernel
theorem d_Md_place_32 : decode prog_14_method_71_code 32 = .ok (.getfield 110, 3) := by decide +kernel
theorem d_Md_place_35 : decode prog_14_method_71_code 35 = .ok (.iload_n 3, 1) := by decide +kernel
theorem d_Md_place_36 : decode prog_14_method_71_code 36 = .ok (.iaload, 1) := by decide +kernel
theorem d_Md_place_37 : decode prog_14_method_71_code 37 = .ok (.ldc_w 372, 3) := by decide +kernel
theorem d_Md_place_40 : decode prog_14_method_71_code 40 = .ok (.aload_n 0, 1) := by decide +kernel
theorem d_Md_place_41 : decode prog_14_method_71_code 41 = .ok (.getfield 113, 3) := by decide +kernel
theorem d_Md_place_44 : decode prog_14_method_71_code 44 = .ok (.iload_n 3, 1) := by decide +kernel
theorem d_Md_place_45 : decode prog_14_method_71_code 45 = .ok (.iaload, 1) := by decide +kernel
theorem d_Md_place_46 : decode prog_14_method_71_code 46 = .ok (.imul, 1) := by decide +kernel
theorem d_Md_place_47 : decode prog_14_method_71_code 47 = .ok (.iadd, 1) := by decide +kernel
theorem d_Md_place_48 : decode prog_14_method_71_code 48 = .ok (.ireturn, 1) := by decide +kernel
def f_Md_place (a1 : Int32) (a2 : Int32) (M : qM) : Option Int32 := q_bp (f_Md_find a1 a2 M) fun x1 => if (M.1 0 37) = 0 then (some (-1)) else (if x1 < 0 then (some (-1)) else (q_ix x1 160 <| if (M.1 33 x1.toNatClampNeg) = 0 then (some (-1)) else (q_ix x1 160 <| q_ix x1 160 <| some ((M.1 34 x1.toNatClampNeg) + (65536 * (M.1 35 x1.toNatClampNeg))))))
abbrev rm_Md_place : Room := { frames := 2, cells := 0, slots := 0, locals := 45 }
set_option maxRecDepth 100000 in
set_option maxHeartbeats 4000000 in
theorem c_Md_place {l : Launch} {D : va_G} {dA : Nat → ClassId} {b : Nat} (a1 : Int32) (a2 : Int32)  (M : qM) (out : Int32) (hf : f_Md_place a1 a2 M = some out) : CTi l y_Md_place w_Md_place rm_Md_place D (tysX dA) (enM dA b) 38 b (fun _ => True) [qr (some 0), qi a1, qi a2] M (out, M) := by
  refine qm_i (cc := prog_14_method_71_code) (nL := 4) (by decide) rfl (Nat.le_of_ble_eq_true rfl) ?_
  intro p e s m args below meth c Q hx hb hts0 hown hml hK hs hret
  have hts : ∀ w ∈ lw_g, w.before args s = true := fun w h => hts0 w (List.mem_cons_of_mem _ h)
  show QJ p l e rm_Md_place s m args below meth c (qA 38 b) b 4 0 0 Q (qWd D (enM dA b) 38 b) M 0 [(0, qr (some 0)), (1, qi a1), (2, qi a2)] []
  unfold f_Md_place at hf
  refine qj_aload_n hx hb d_Md_place_0 rfl 0 rfl ?_
  refine qj_iload_n hx hb d_Md_place_1 rfl 1 rfl ?_
  refine qj_iload_n hx hb d_Md_place_2 rfl 2 rfl ?_
  have hf9 := q_bp_s hf; clear hf; obtain ⟨x1, hx1, hf⟩ := hf9
  refine qc_Vi (st := []) hx hb hml hown hts hK qT_ok hs (c_Md_find a1 a2 M _ hx1) ⟨(callB_of 2 hts (q_good tw_601) rfl rfl rfl (hts _ tw_459) (hts _ tw_602) (by decide +kernel) ⟨by decide, by decide⟩), (hts _ tw_603), (hts _ tw_604)⟩ (by decide) rfl rfl rfl rfl (Nat.le_of_ble_eq_true rfl) d_Md_place_3 ?_
  refine qj_istore_n hx hb d_Md_place_6 rfl (by decide) rfl ?_
  refine qj_aload_n hx hb d_Md_place_7 rfl 1 rfl ?_
  refine qj_get hx hb hts hin_12 hown hK (by decide) rfl rfl 37 (by decide) (hts _ tw_586) (fun _ h => h) (qi (M.1 0 37)) rfl d_Md_place_8 ?_
  refine qj_if_eq (tgt := 27) hx hb d_Md_place_11 (by decide) (fun hc2 => ?_) (fun hc2 => ?_)
  · replace hf := q_if_t hc2 hf
    refine qj_iconst (v := (-1)) hx hb d_Md_place_27 (by decide) ?_
    refine qj_goto (tgt := 48) hx hb d_Md_place_28 (by decide) ?_
    exact hret _ _ _ _ d_Md_place_48 (congrArg (fun z => (z, M)) (Option.some.inj hf))
  · replace hf := q_if_f hc2 hf
    refine qj_iload_n hx hb d_Md_place_14 rfl 0 rfl ?_
    refine qj_if_lt (tgt := 27) hx hb d_Md_place_15 (by decide) (fun hc3 => ?_) (fun hc3 => ?_)
    · replace hf := q_if_t hc3 hf
      refine qj_iconst (v := (-1)) hx hb d_Md_place_27 (by decide) ?_
      refine qj_goto (tgt := 48) hx hb d_Md_place_28 (by decide) ?_
      exact hret _ _ _ _ d_Md_place_48 (congrArg (fun z => (z, M)) (Option.some.inj hf))
    · replace hf := q_if_f hc3 hf
      refine qj_aload_n hx hb d_Md_place_18 rfl 1 rfl ?_
      refine qj_get hx hb hts hin_12 hown hK (by decide) rfl rfl 47 (by decide) (hts _ tw_694) (fun _ h => h) (qr (some 33)) rfl d_Md_place_19 ?_
      refine qj_iload_n hx hb d_Md_place_22 rfl 0 rfl ?_
      have hf9 := q_ix_s hf; clear hf; obtain ⟨hi4, hf⟩ := hf9
      refine qj_zald (t0 := 2) hx hb hK (by decide) (fun _ _ => rfl) rfl hi4 d_Md_place_23 ?_
      refine qj_if_ne (tgt := 31) hx hb d_Md_place_24 (by decide) (fun hc5 => ?_) (fun hc5 => ?_)
      · replace hf := q_if_f hc5 hf
        refine qj_aload_n hx hb d_Md_place_31 rfl 1 rfl ?_
        refine qj_get hx hb hts hin_12 hown hK (by decide) rfl rfl 48 (by decide) (hts _ tw_696) (fun _ h => h) (qr (some 34)) rfl d_Md_place_32 ?_
        refine qj_iload_n hx hb d_Md_place_35 rfl 0 rfl ?_
        have hf9 := q_ix_s hf; clear hf; obtain ⟨hi6, hf⟩ := hf9
        refine qj_iald (t0 := 0) hx hb hK (by decide) (fun _ _ => rfl) rfl hi6 d_Md_place_36 ?_
        refine qj_ldcw (v := 65536) hx hb hown (hts _ tw_732) d_Md_place_37 ?_
        refine qj_aload_n hx hb d_Md_place_40 rfl 1 rfl ?_
        refine qj_get hx hb hts hin_12 hown hK (by decide) rfl rfl 49 (by decide) (hts _ tw_683) (fun _ h => h) (qr (some 35)) rfl d_Md_place_41 ?_
        refine qj_iload_n hx hb d_Md_place_44 rfl 0 rfl ?_
        have hf9 := q_ix_s hf; clear hf; obtain ⟨hi7, hf⟩ := hf9
        refine qj_iald (t0 := 0) hx hb hK (by decide) (fun _ _ => rfl) rfl hi7 d_Md_place_45 ?_
        refine qj_imul hx hb d_Md_place_46 ?_
        refine qj_iadd hx hb d_Md_place_47 ?_
        exact hret _ _ _ _ d_Md_place_48 (congrArg (fun z => (z, M)) (Option.some.inj hf))
      · replace hf := q_if_t hc5 hf
        refine qj_iconst (v := (-1)) hx hb d_Md_place_27 (by decide) ?_
        refine qj_goto (tgt := 48) hx hb d_Md_place_28 (by decide) ?_
        exact hret _ _ _ _ d_Md_place_48 (congrArg (fun z => (z, M)) (Option.some.inj hf))
theorem d_Md_lines_0 : decode prog_14_method_72_code 0 = .ok (.aload_n 0, 1) := by decide +kernel
theorem d_Md_lines_1 : decode prog_14_method_72_code 1 = .ok (.getfield 133, 3) := by decide +kernel
theorem d_Md_lines_4 : decode prog_14_method_72_code 4 = .ok (.ifCond .eq 10, 3) := by decide +kernel
theorem d_Md_lines_7 : decode prog_14_method_72_code 7 = .ok (.aload_n 0, 1) := by decide +kernel
theorem d_Md_lines_8 : decode prog_14_method_72_code 8 = .ok (.getfield 313, 3) := by decide +kernel
theorem d_Md_lines_11 : decode prog_14_method_72_code 11 = .ok (.goto 4, 3) := by decide +kernel
theorem d_Md_lines_14 : decode prog_14_method_72_code 14 = .ok (.iconst (-1), 1) := by decide +kernel
theorem d_Md_lines_15 : decode prog_14_method_72_code 15 = .ok (.ireturn, 1) := by decide +kernel
def f_Md_lines  (M : qM) : Option Int32 := if (M.1 0 37) = 0 then (some (-1)) else (some (M.1 0 39))
abbrev rm_Md_lines : Room := { frames := 0, cells := 0, slots := 0, locals := 0 }
set_option maxRecDepth 100000 in
set_option maxHeartbeats 4000000 in
theorem c_Md_lines {l : Launch} {D : va_G} {dA : Nat → ClassId} {b : Nat}   (M : qM) (out : Int32) (hf : f_Md_lines M = some out) : CTi l y_Md_lines w_Md_lines rm_Md_lines D (tysX dA) (enM dA b) 38 b (fun _ => True) [qr (some 0)] M (out, M) := by
  refine qm_i (cc := prog_14_method_72_code) (nL := 1) (by decide) rfl (Nat.le_of_ble_eq_true rfl) ?_
  intro p e s m args below meth c Q hx hb hts0 hown hml hK hs hret
  have hts : ∀ w ∈ lw_g, w.before args s = true := fun w h => hts0 w (List.mem_cons_of_mem _ h)
  show QJ p l e rm_Md_lines s m args below meth c (qA 38 b) b 1 0 0 Q (qWd D (enM dA b) 38 b) M 0 [(0, qr (some 0))] []
  unfold f_Md_lines at hf
  refine qj_aload_n hx hb d_Md_lines_0 rfl 0 rfl ?_
  refine qj_get hx hb hts hin_12 hown hK (by decide) rfl rfl 37 (by decide) (hts _ tw_586) (fun _ h => h) (qi (M.1 0 37)) rfl d_Md_lines_1 ?_
  refine qj_if_eq (tgt := 14) hx hb d_Md_lines_4 (by decide) (fun hc1 => ?_) (fun hc1 => ?_)
  · replace hf := q_if_t hc1 hf
    refine qj_iconst (v := (-1)) hx hb d_Md_lines_14 (by decide) ?_
    exact hret _ _ _ _ d_Md_lines_15 (congrArg (fun z => (z, M)) (Option.some.inj hf))
  · replace hf := q_if_f hc1 hf
    refine qj_aload_n hx hb d_Md_lines_7 rfl 0 rfl ?_
    refine qj_get hx hb hts hin_12 hown hK (by decide) rfl rfl 39 (by decide) (hts _ tw_689) (fun _ h => h) (qi (M.1 0 39)) rfl d_Md_lines_8 ?_
    refine qj_goto (tgt := 15) hx hb d_Md_lines_11 (by decide) ?_
    exact hret _ _ _ _ d_Md_lines_15 (congrArg (fun z => (z, M)) (Option.some.inj hf))
theorem d_Md_inked_0 : decode prog_14_method_74_code 0 = .ok (.iload_n 2, 1) := by decide +kernel
theorem d_Md_inked_1 : decode prog_14_method_74_code 1 = .ok (.aload_n 0, 1) := by decide +kernel
theorem d_Md_inked_2 : decode prog_14_method_74_code 2 = .ok (.getfield 110, 3) := by decide +kernel
theorem d_Md_inked_5 : decode prog_14_method_74_code 5 = .ok (.iload_n 1, 1) := by decide +kernel
theorem d_Md_inked_6 : decode prog_14_method_74_code 6 = .ok (.iaload, 1) := by decide +kernel
theorem d_Md_inked_7 : decode prog_14_method_74_code 7 = .ok (.isub, 1) := by decide +kernel
theorem d_Md_inked_8 : decode prog_14_method_74_code 8 = .ok (.istore 5, 2) := by decide +kernel
theorem d_Md_inked_10 : decode prog_14_method_74_code 10 = .ok (.iload_n 3, 1) := by decide +kernel
theorem d_Md_inked_11 : decode prog_14_method_74_code 11 = .ok (.aload_n 0, 1) := by decide +kernel
theorem d_Md_inked_12 : decode prog_14_method_74_code 12 = .ok (.getfield 113, 3) := by decide +kernel
theorem d_Md_inked_15 : decode prog_14_method_74_code 15 = .ok (.iload_n 1, 1) := by decide +kernel
theorem d_Md_inked_16 : decode prog_14_method_74_code 16 = .ok (.iaload, 1) := by decide +kernel
theorem d_Md_inked_17 : decode prog_14_method_74_code 17 = .ok (.isub, 1) := by decide +kernel
theorem d_Md_inked_18 : decode prog_14_method_74_code 18 = .ok (.istore 6, 2) := by decide +kernel
theorem d_Md_inked_20 : decode prog_14_method_74_code 20 = .ok (.iload 5, 2) := by decide +kernel
theorem d_Md_inked_22 : decode prog_14_method_74_code 22 = .ok (.ifCond .lt 22, 3) := by decide +kernel
theorem d_Md_inked_25 : decode prog_14_method_74_code 25 = .ok (.iload 5, 2) := by decide +kernel
theorem d_Md_inked_27 : decode prog_14_method_74_code 27 = .ok (.iload 4, 2) := by decide +kernel
theorem d_Md_inked_29 : decode prog_14_method_74_code 29 = .ok (.if_icmp .ge 15, 3) := by decide +kernel
theorem d_Md_inked_32 : decode prog_14_method_74_code 32 = .ok (.iload 6, 2) := by decide +kernel
theorem d_Md_inked_34 : decode prog_14_method_74_code 34 = .ok (.ifCond .lt 10, 3) := by decide +kernel
theorem d_Md_inked_37 : decode prog_14_method_74_code 37 = .ok (.iload 6, 2) := by decide +kernel
theorem d_Md_inked_39 : decode prog_14_method_74_code 39 = .ok (.iload 4, 2) := by decide +kernel
theorem d_Md_inked_41 : decode prog_14_method_74_code 41 = .ok (.if_icmp .lt 5, 3) := by decide +kernel
theorem d_Md_inked_44 : decode prog_14_method_74_code 44 = .ok (.iconst 0, 1) := by decide +kernel
theorem d_Md_inked_45 : decode prog_14_method_74_code 45 = .ok (.ireturn, 1) := by decide +kernel
theorem d_Md_inked_46 : decode prog_14_method_74_code 46 = .ok (.aload_n 0, 1) := by decide +kernel
theorem d_Md_inked_47 : decode prog_14_method_74_code 47 = .ok (.getfield 40, 3) := by decide +kernel
theorem d_Md_inked_50 : decode prog_14_method_74_code 50 = .ok (.iload_n 1, 1) := by decide +kernel
theorem d_Md_inked_51 : decode prog_14_method_74_code 51 = .ok (.iaload, 1) := by decide +kernel
theorem d_Md_inked_52 : decode prog_14_method_74_code 52 = .ok (.iconst 2, 1) := by decide +kernel
theorem d_Md_inked_53 : decode prog_14_method_74_code 53 = .ok (.iconst 2, 1) := by decide +kernel
theorem d_Md_inked_54 : decode prog_14_method_74_code 54 = .ok (.iload 6, 2) := by decide +kernel
theorem d_Md_inked_56 : decode prog_14_method_74_code 56 = .ok (.imul, 1) := by decide +kernel
theorem d_Md_inked_57 : decode prog_14_method_74_code 57 = .ok (.iload 4, 2) := by decide +kernel
theorem d_Md_inked_59 : decode prog_14_method_74_code 59 = .ok (.idiv, 1) := by decide +kernel
theorem d_Md_inked_60 : decode prog_14_method_74_code 60 = .ok (.imul, 1) := by decide +kernel
theorem d_Md_inked_61 : decode prog_14_method_74_code 61 = .ok (.iconst 2, 1) := by decide +kernel
theorem d_Md_inked_62 : decode prog_14_method_74_code 62 = .ok (.iload 5, 2) := by decide +kernel
theorem d_Md_inked_64 : decode prog_14_method_74_code 64 = .ok (.imul, 1) := by decide +kernel
theorem d_Md_inked_65 : decode prog_14_method_74_code 65 = .ok (.iload 4, 2) := by decide +kernel
theorem d_Md_inked_67 : decode prog_14_method_74_code 67 = .ok (.idiv, 1) := by decide +kernel
theorem d_Md_inked_68 : decode prog_14_method_74_code 68 = .ok (.iadd, 1) := by decide +kernel
theorem d_Md_inked_69 : decode prog_14_method_74_code 69 = .ok (.ishr, 1) := by decide +kernel
theorem d_Md_inked_70 : decode prog_14_method_74_code 70 = .ok (.iconst 1, 1) := by decide +kernel
theorem d_Md_inked_71 : decode prog_14_method_74_code 71 = .ok (.iand, 1) := by decide +kernel
theorem d_Md_inked_72 : decode prog_14_method_74_code 72 = .ok (.iconst 1, 1) := by decide +kernel
theorem d_Md_inked_73 : decode prog_14_method_74_code 73 = .ok (.if_icmp .ne 7, 3) := by decide +kernel
theorem d_Md_inked_76 : decode prog_14_method_74_code 76 = .ok (.iconst 1, 1) := by decide +kernel
theorem d_Md_inked_77 : decode prog_14_method_74_code 77 = .ok (.goto 4, 3) := by decide +kernel
theorem d_Md_inked_80 : decode prog_14_method_74_code 80 = .ok (.iconst 0, 1) := by decide +kernel
theorem d_Md_inked_81 : decode prog_14_method_74_code 81 = .ok (.ireturn, 1) := by decide +kernel
def f_Md_inked (a1 : Int32) (a2 : Int32) (a3 : Int32) (a4 : Int32) (M : qM) : Option Int32 := q_ix a1 160 <| q_lt (a2 - (M.1 34 a1.toNatClampNeg)) fun x2 => q_ix a1 160 <| q_lt (a3 - (M.1 35 a1.toNatClampNeg)) fun x4 => if x2 < 0 then (some 0) else (if a4 ≤ x2 then (some 0) else (if x4 < 0 then (some 0) else (if x4 < a4 then (q_ix a1 160 <| q_dk a4 <| q_dk a4 <| if (((M.1 11 a1.toNatClampNeg) >>> (((2 * ((2 * x4) / a4)) + ((2 * x2) / a4)) &&& 31)) &&& 1) = 1 then (some 1) else (some 0)) else (some 0))))
abbrev rm_Md_inked : Room := { frames := 0, cells := 0, slots := 0, locals := 0 }
set_option maxRecDepth 100000 in
set_option maxHeartbeats 4000000 in
theorem c_Md_inked {l : Launch} {D : va_G} {dA : Nat → ClassId} {b : Nat} (a1 : Int32) (a2 : Int32) (a3 : Int32) (a4 : Int32)  (M : qM) (out : Int32) (hf : f_Md_inked a1 a2 a3 a4 M = some out) : CTi l y_Md_inked w_Md_inked rm_Md_inked D (tysX dA) (enM dA b) 38 b (fun _ => True) [qr (some 0), qi a1, qi a2, qi a3, qi a4] M (out, M) := by
  refine qm_z (cc := prog_14_method_74_code) (nL := 7) (by decide) rfl (Nat.le_of_ble_eq_true rfl) ?_
  intro p e s m args below meth c Q hx hb hts0 hown hml hK hs hret
  have hts : ∀ w ∈ lw_g, w.before args s = true := fun w h => hts0 w (List.mem_cons_of_mem _ h)
  show QJ p l e rm_Md_inked s m args below meth c (qA 38 b) b 7 0 0 Q (qWd D (enM dA b) 38 b) M 0 [(0, qr (some 0)), (1, qi a1), (2, qi a2), (3, qi a3), (4, qi a4)] []
  unfold f_Md_inked at hf
  refine qj_iload_n hx hb d_Md_inked_0 rfl 2 rfl ?_
  refine qj_aload_n hx hb d_Md_inked_1 rfl 0 rfl ?_
  refine qj_get hx hb hts hin_12 hown hK (by decide) rfl rfl 48 (by decide) (hts _ tw_696) (fun _ h => h) (qr (some 34)) rfl d_Md_inked_2 ?_
  refine qj_iload_n hx hb d_Md_inked_5 rfl 1 rfl ?_
  have hf9 := q_ix_s hf; clear hf; obtain ⟨hi1, hf⟩ := hf9
  refine qj_iald (t0 := 0) hx hb hK (by decide) (fun _ _ => rfl) rfl hi1 d_Md_inked_6 ?_
  refine qj_isub hx hb d_Md_inked_7 ?_
  have hf9 := q_lt_s hf; clear hf; obtain ⟨x2, ex2, hf⟩ := hf9
  rw [← ex2]
  refine qj_istore hx hb d_Md_inked_8 (by decide) rfl ?_
  refine qj_iload_n hx hb d_Md_inked_10 rfl 4 rfl ?_
  refine qj_aload_n hx hb d_Md_inked_11 rfl 1 rfl ?_
  refine qj_get hx hb hts hin_12 hown hK (by decide) rfl rfl 49 (by decide) (hts _ tw_683) (fun _ h => h) (qr (some 35)) rfl d_Md_inked_12 ?_
  refine qj_iload_n hx hb d_Md_inked_15 rfl 2 rfl ?_
  have hf9 := q_ix_s hf; clear hf; obtain ⟨hi3, hf⟩ := hf9
  refine qj_iald (t0 := 0) hx hb hK (by decide) (fun _ _ => rfl) rfl hi3 d_Md_inked_16 ?_
  refine qj_isub hx hb d_Md_inked_17 ?_
  have hf9 := q_lt_s hf; clear hf; obtain ⟨x4, ex4, hf⟩ := hf9
  rw [← ex4]
  refine qj_istore hx hb d_Md_inked_18 (by decide) rfl ?_
  refine qj_iload hx hb d_Md_inked_20 1 rfl ?_
  refine qj_if_lt (tgt := 44) hx hb d_Md_inked_22 (by decide) (fun hc5 => ?_) (fun hc5 => ?_)
  · replace hf := q_if_t hc5 hf
    refine qj_iconst (v := 0) hx hb d_Md_inked_44 (by decide) ?_
    exact hret _ _ _ _ (Or.inl rfl) d_Md_inked_45 (congrArg (fun z => (z, M)) (Option.some.inj hf))
  · replace hf := q_if_f hc5 hf
    refine qj_iload hx hb d_Md_inked_25 1 rfl ?_
    refine qj_iload hx hb d_Md_inked_27 6 rfl ?_
    refine qj_icmp_ge (tgt := 44) hx hb d_Md_inked_29 (by decide) (fun hc6 => ?_) (fun hc6 => ?_)
    · replace hf := q_if_t hc6 hf
      refine qj_iconst (v := 0) hx hb d_Md_inked_44 (by decide) ?_
      exact hret _ _ _ _ (Or.inl rfl) d_Md_inked_45 (congrArg (fun z => (z, M)) (Option.some.inj hf))
    · replace hf := q_if_f hc6 hf
      refine qj_iload hx hb d_Md_inked_32 0 rfl ?_
      refine qj_if_lt (tgt := 44) hx hb d_Md_inked_34 (by decide) (fun hc7 => ?_) (fun hc7 => ?_)
      · replace hf := q_if_t hc7 hf
        refine qj_iconst (v := 0) hx hb d_Md_inked_44 (by decide) ?_
        exact hret _ _ _ _ (Or.inl rfl) d_Md_inked_45 (congrArg (fun z => (z, M)) (Option.some.inj hf))
      · replace hf := q_if_f hc7 hf
        refine qj_iload hx hb d_Md_inked_37 0 rfl ?_
        refine qj_iload hx hb d_Md_inked_39 6 rfl ?_
        refine qj_icmp_lt (tgt := 46) hx hb d_Md_inked_41 (by decide) (fun hc8 => ?_) (fun hc8 => ?_)
        · replace hf := q_if_t hc8 hf
          refine qj_aload_n hx hb d_Md_inked_46 rfl 2 rfl ?_
          refine qj_get hx hb hts hin_12 hown hK (by decide) rfl rfl 18 (by decide) (hts _ tw_568) (fun _ h => h) (qr (some 11)) rfl d_Md_inked_47 ?_
          refine qj_iload_n hx hb d_Md_inked_50 rfl 3 rfl ?_
          have hf9 := q_ix_s hf; clear hf; obtain ⟨hi9, hf⟩ := hf9
          refine qj_iald (t0 := 0) hx hb hK (by decide) (fun _ _ => rfl) rfl hi9 d_Md_inked_51 ?_
          refine qj_iconst (v := 2) hx hb d_Md_inked_52 (by decide) ?_
          refine qj_iconst (v := 2) hx hb d_Md_inked_53 (by decide) ?_
          refine qj_iload hx hb d_Md_inked_54 0 rfl ?_
          refine qj_imul hx hb d_Md_inked_56 ?_
          refine qj_iload hx hb d_Md_inked_57 6 rfl ?_
          have hf9 := q_dk_s hf; clear hf; obtain ⟨hd10, hf⟩ := hf9
          refine qj_idiv hx hb d_Md_inked_59 hd10 ?_
          refine qj_imul hx hb d_Md_inked_60 ?_
          refine qj_iconst (v := 2) hx hb d_Md_inked_61 (by decide) ?_
          refine qj_iload hx hb d_Md_inked_62 1 rfl ?_
          refine qj_imul hx hb d_Md_inked_64 ?_
          refine qj_iload hx hb d_Md_inked_65 6 rfl ?_
          have hf9 := q_dk_s hf; clear hf; obtain ⟨hd11, hf⟩ := hf9
          refine qj_idiv hx hb d_Md_inked_67 hd11 ?_
          refine qj_iadd hx hb d_Md_inked_68 ?_
          refine qj_ishr hx hb d_Md_inked_69 ?_
          refine qj_iconst (v := 1) hx hb d_Md_inked_70 (by decide) ?_
          refine qj_iand hx hb d_Md_inked_71 ?_
          refine qj_iconst (v := 1) hx hb d_Md_inked_72 (by decide) ?_
          refine qj_icmp_ne (tgt := 80) hx hb d_Md_inked_73 (by decide) (fun hc12 => ?_) (fun hc12 => ?_)
          · replace hf := q_if_f hc12 hf
            refine qj_iconst (v := 0) hx hb d_Md_inked_80 (by decide) ?_
            exact hret _ _ _ _ (Or.inl rfl) d_Md_inked_81 (congrArg (fun z => (z, M)) (Option.some.inj hf))
          · replace hf := q_if_t hc12 hf
            refine qj_iconst (v := 1) hx hb d_Md_inked_76 (by decide) ?_
            refine qj_goto (tgt := 81) hx hb d_Md_inked_77 (by decide) ?_
            exact hret _ _ _ _ (Or.inr rfl) d_Md_inked_81 (congrArg (fun z => (z, M)) (Option.some.inj hf))
        · replace hf := q_if_f hc8 hf
          refine qj_iconst (v := 0) hx hb d_Md_inked_44 (by decide) ?_
          exact hret _ _ _ _ (Or.inl rfl) d_Md_inked_45 (congrArg (fun z => (z, M)) (Option.some.inj hf))
theorem d_Md_pixel_0 : decode prog_14_method_73_code 0 = .ok (.aload_n 0, 1) := by decide +kernel
theorem d_Md_pixel_1 : decode prog_14_method_73_code 1 = .ok (.getfield 133, 3) := by decide +kernel
theorem d_Md_pixel_4 : decode prog_14_method_73_code 4 = .ok (.ifCond .eq 25, 3) := by decide +kernel
theorem d_Md_pixel_7 : decode prog_14_method_73_code 7 = .ok (.iload_n 1, 1) := by decide +kernel
theorem d_Md_pixel_8 : decode prog_14_method_73_code 8 = .ok (.ifCond .lt 21, 3) := by decide +kernel
theorem d_Md_pixel_11 : decode prog_14_method_73_code 11 = .ok (.iload_n 1, 1) := by decide +kernel
theorem d_Md_pixel_12 : decode prog_14_method_73_code 12 = .ok (.aload_n 0, 1) := by decide +kernel
theorem d_Md_pixel_13 : decode prog_14_method_73_code 13 = .ok (.getfield 310, 3) := by decide +kernel
theorem d_Md_pixel_16 : decode prog_14_method_73_code 16 = .ok (.if_icmp .ge 13, 3) := by decide +kernel
theorem d_Md_pixel_19 : decode prog_14_method_73_code 19 = .ok (.iload_n 2, 1) := by decide +kernel
theorem d_Md_pixel_20 : decode prog_14_method_73_code 20 = .ok (.ifCond .lt 9, 3) := by decide +kernel
theorem d_Md_pixel_23 : decode prog_14_method_73_code 23 = .ok (.iload_n 2, 1) := by decide +kernel
theorem d_Md_pixel_24 : decode prog_14_method_73_code 24 = .ok (.bipush 63, 2) := by decide +kernel
theorem d_Md_pixel_26 : decode prog_14_method_73_code 26 = .ok (.if_icmp .le 5, 3) := by decide +kernel
theorem d_Md_pixel_29 : decode prog_14_method_73_code 29 = .ok (.iconst (-1), 1) := by decide +kernel
theorem d_Md_pixel_30 : decode prog_14_method_73_code 30 = .ok (.ireturn, 1) := by decide +kernel
theorem d_Md_pixel_31 : decode prog_14_method_73_code 31 = .ok (.iconst 0, 1) := by decide +kernel
theorem d_Md_pixel_32 : decode prog_14_method_73_code 32 = .ok (.istore_n 3, 1) := by decide +kernel
theorem d_Md_pixel_33 : decode prog_14_method_73_code 33 = .ok (.iconst 1, 1) := by decide +kernel
theorem d_Md_pixel_34 : decode prog_14_method_73_code 34 = .ok (.istore 4, 2) := by decide +kernel
theorem d_Md_pixel_36 : decode prog_14_method_73_code 36 = .ok (.iload 4, 2) := by decide +kernel
theorem d_Md_pixel_38 : decode prog_14_method_73_code 38 = .ok (.aload_n 0, 1) := by decide +kernel
theorem d_Md_pixel_39 : decode prog_14_method_73_code 39 = .ok (.getfield 142, 3) := by decide +kernel
theorem d_Md_pixel_42 : decode prog_14_method_73_code 42 = .ok (.if_icmp .ge 129, 3) := by decide +kernel
theorem d_Md_pixel_45 : decode prog_14_method_73_code 45 = .ok (.aload_n 0, 1) := by decide +kernel
theorem d_Md_pixel_46 : decode prog_14_method_73_code 46 = .ok (.getfield 89, 3) := by decide +kernel
theorem d_Md_pixel_49 : decode prog_14_method_73_code 49 = .ok (.iload 4, 2) := by decide +kernel
theorem d_Md_pixel_51 : decode prog_14_method_73_code 51 = .ok (.baload, 1) := by decide +kernel
theorem d_Md_pixel_52 : decode prog_14_method_73_code 52 = .ok (.ifCond .eq 81, 3) := by decide +kernel
theorem d_Md_pixel_55 : decode prog_14_method_73_code 55 = .ok (.iload_n 1, 1) := by decide +kernel
theorem d_Md_pixel_56 : decode prog_14_method_73_code 56 = .ok (.aload_n 0, 1) := by decide +kernel
theorem d_Md_pixel_57 : decode prog_14_method_73_code 57 = .ok (.getfield 95, 3) := by decide +kernel
theorem d_Md_pixel_60 : decode prog_14_method_73_code 60 = .ok (.iload 4, 2) := by decide +kernel
theorem d_Md_pixel_62 : decode prog_14_method_73_code 62 = .ok (.iaload, 1) := by decide +kernel
theorem d_Md_pixel_63 : decode prog_14_method_73_code 63 = .ok (.if_icmp .lt 70, 3) := by decide +kernel
theorem d_Md_pixel_66 : decode prog_14_method_73_code 66 = .ok (.iload_n 1, 1) := by decide +kernel
theorem d_Md_pixel_67 : decode prog_14_method_73_code 67 = .ok (.aload_n 0, 1) := by decide +kernel
theorem d_Md_pixel_68 : decode prog_14_method_73_code 68 = .ok (.getfield 95, 3) := by decide +kernel
theorem d_Md_pixel_71 : decode prog_14_method_73_code 71 = .ok (.iload 4, 2) := by decide +kernel
theorem d_Md_pixel_73 : decode prog_14_method_73_code 73 = .ok (.iaload, 1) := by decide +kernel
theorem d_Md_pixel_74 : decode prog_14_method_73_code 74 = .ok (.aload_n 0, 1) := by decide +kernel
theorem d_Md_pixel_75 : decode prog_14_method_73_code 75 = .ok (.getfield 98, 3) := by decide +kernel
theorem d_Md_pixel_78 : decode prog_14_method_73_code 78 = .ok (.iload 4, 2) := by decide +kernel
theorem d_Md_pixel_80 : decode prog_14_method_73_code 80 = .ok (.iaload, 1) := by decide +kernel
theorem d_Md_pixel_81 : decode prog_14_method_73_code 81 = .ok (.iadd, 1) := by decide +kernel
theorem d_Md_pixel_82 : decode prog_14_method_73_code 82 = .ok (.iconst 2, 1) := by decide +kernel
theorem d_Md_pixel_83 : decode prog_14_method_73_code 83 = .ok (.aload_n 0, 1) := by decide +kernel
theorem d_Md_pixel_84 : decode prog_14_method_73_code 84 = .ok (.getfield 83, 3) := by decide +kernel
theorem d_Md_pixel_87 : decode prog_14_method_73_code 87 = .ok (.sipush 200, 3) := by decide +kernel
theorem d_Md_pixel_90 : decode prog_14_method_73_code 90 = .ok (.iload 4, 2) := by decide +kernel
theorem d_Md_pixel_92 : decode prog_14_method_73_code 92 = .ok (.iadd, 1) := by decide +kernel
theorem d_Md_pixel_93 : decode prog_14_method_73_code 93 = .ok (.iaload, 1) := by decide +kernel
theorem d_Md_pixel_94 : decode prog_14_method_73_code 94 = .ok (.imul, 1) := by decide +kernel
theorem d_Md_pixel_95 : decode prog_14_method_73_code 95 = .ok (.iadd, 1) := by decide +kernel
theorem d_Md_pixel_96 : decode prog_14_method_73_code 96 = .ok (.if_icmp .ge 37, 3) := by decide +kernel
theorem d_Md_pixel_99 : decode prog_14_method_73_code 99 = .ok (.iload_n 2, 1) := by decide +kernel
theorem d_Md_pixel_100 : decode prog_14_method_73_code 100 = .ok (.aload_n 0, 1) := by decide +kernel
theorem d_Md_pixel_101 : decode prog_14_method_73_code 101 = .ok (.getfield 104, 3) := by decide +kernel
theorem d_Md_pixel_104 : decode prog_14_method_73_code 104 = .ok (.iload 4, 2) := by decide +kernel
theorem d_Md_pixel_106 : decode prog_14_method_73_code 106 = .ok (.iaload, 1) := by decide +kernel
theorem d_Md_pixel_107 : decode prog_14_method_73_code 107 = .ok (.if_icmp .lt 26, 3) := by decide +kernel
theorem d_Md_pixel_110 : decode prog_14_method_73_code 110 = .ok (.iload_n 2, 1) := by decide +kernel
theorem d_Md_pixel_111 : decode prog_14_method_73_code 111 = .ok (.aload_n 0, 1) := by decide +kernel
theorem d_Md_pixel_112 : decode prog_14_method_73_code 112 = .ok (.getfield 104, 3) := by decide +kernel
theorem d_Md_pixel_115 : decode prog_14_method_73_code 115 = .ok (.iload 4, 2) := by decide +kernel
theorem d_Md_pixel_117 : decode prog_14_method_73_code 117 = .ok (.iaload, 1) := by decide +kernel
theorem d_Md_pixel_118 : decode prog_14_method_73_code 118 = .ok (.aload_n 0, 1) := by decide +kernel
theorem d_Md_pixel_119 : decode prog_14_method_73_code 119 = .ok (.getfield 101, 3) := by decide +kernel
theorem d_Md_pixel_122 : decode prog_14_method_73_code 122 = .ok (.iload 4, 2) := by decide +kernel
theorem d_Md_pixel_124 : decode prog_14_method_73_code 124 = .ok (.iaload, 1) := by decide +kernel
theorem d_Md_pixel_125 : decode prog_14_method_73_code 125 = .ok (.iadd, 1) := by decide +kernel
theorem d_Md_pixel_126 : decode prog_14_method_73_code 126 = .ok (.if_icmp .ge 7, 3) := by decide +kernel
theorem d_Md_pixel_129 : decode prog_14_method_73_code 129 = .ok (.iconst 1, 1) := by decide +kernel
theorem d_Md_pixel_130 : decode prog_14_method_73_code 130 = .ok (.goto 4, 3) := by decide +kernel
theorem d_Md_pixel_133 : decode prog_14_method_73_code 133 = .ok (.iconst 0, 1) := by decide +kernel
theorem d_Md_pixel_134 : decode prog_14_method_73_code 134 = .ok (.istore 5, 2) := by decide +kernel
theorem d_Md_pixel_136 : decode prog_14_method_73_code 136 = .ok (.iload 5, 2) := by decide +kernel
theorem d_Md_pixel_138 : decode prog_14_method_73_code 138 = .ok (.ifCond .eq 27, 3) := by decide +kernel
theorem d_Md_pixel_141 : decode prog_14_method_73_code 141 = .ok (.aload_n 0, 1) := by decide +kernel
theorem d_Md_pixel_142 : decode prog_14_method_73_code 142 = .ok (.getfield 83, 3) := by decide +kernel
theorem d_Md_pixel_145 : decode prog_14_method_73_code 145 = .ok (.bipush 40, 2) := by decide +kernel
theorem d_Md_pixel_147 : decode prog_14_method_73_code 147 = .ok (.iload 4, 2) := by decide +kernel
theorem d_Md_pixel_149 : decode prog_14_method_73_code 149 = .ok (.iadd, 1) := by decide +kernel
theorem d_Md_pixel_150 : decode prog_14_method_73_code 150 = .ok (.iaload, 1) := by decide +kernel
theorem d_Md_pixel_151 : decode prog_14_method_73_code 151 = .ok (.ifCond .eq 14, 3) := by decide +kernel
theorem d_Md_pixel_154 : decode prog_14_method_73_code 154 = .ok (.aload_n 0, 1) := by decide +kernel
theorem d_Md_pixel_155 : decode prog_14_method_73_code 155 = .ok (.getfield 83, 3) := by decide +kernel
theorem d_Md_pixel_158 : decode prog_14_method_73_code 158 = .ok (.bipush 40, 2) := by decide +kernel
theorem d_Md_pixel_160 : decode prog_14_method_73_code 160 = .ok (.iload 4, 2) := by decide +kernel
theorem d_Md_pixel_162 : decode prog_14_method_73_code 162 = .ok (.iadd, 1) := by decide +kernel
theorem d_Md_pixel_163 : decode prog_14_method_73_code 163 = .ok (.iaload, 1) := by decide +kernel
theorem d_Md_pixel_164 : decode prog_14_method_73_code 164 = .ok (.istore_n 3, 1) := by decide +kernel
theorem d_Md_pixel_165 : decode prog_14_method_73_code 165 = .ok (.iinc 4 1, 3) := by decide +kernel
theorem d_Md_pixel_168 : decode prog_14_method_73_code 168 = .ok (.goto (-132), 3) := by decide +kernel
theorem d_Md_pixel_171 : decode prog_14_method_73_code 171 = .ok (.iconst 1, 1) := by decide +kernel
theorem d_Md_pixel_172 : decode prog_14_method_73_code 172 = .ok (.istore 4, 2) := by decide +kernel
theorem d_Md_pixel_174 : decode prog_14_method_73_code 174 = .ok (.iload 4, 2) := by decide +kernel
theorem d_Md_pixel_176 : decode prog_14_method_73_code 176 = .ok (.aload_n 0, 1) := by decide +kernel
theorem d_Md_pixel_177 : decode prog_14_method_73_code 177 = .ok (.getfield 142, 3) := by decide +kernel
theorem d_Md_pixel_180 : decode prog_14_method_73_code 180 = .ok (.if_icmp .ge 109, 3) := by decide +kernel
theorem d_Md_pixel_183 : decode prog_14_method_73_code 183 = .ok (.iconst 0, 1) := by decide +kernel
theorem d_Md_pixel_184 : decode prog_14_method_73_code 184 = .ok (.istore 5, 2) := by decide +kernel
theorem d_Md_pixel_186 : decode prog_14_method_73_code 186 = .ok (.iload 5, 2) := by decide +kernel
theorem d_Md_pixel_188 : decode prog_14_method_73_code 188 = .ok (.aload_n 0, 1) := by decide +kernel
theorem d_Md_pixel_189 : decode prog_14_method_73_code 189 = .ok (.getfield 154, 3) := by decide +kernel
theorem d_Md_pixel_192 : decode prog_14_method_73_code 192 = .ok (.if_icmp .ge 91, 3) := by decide +kernel
theorem d_Md_pixel_195 : decode prog_14_method_73_code 195 = .ok (.aload_n 0, 1) := by decide +kernel
theorem d_Md_pixel_196 : decode prog_14_method_73_code 196 = .ok (.getfield 19, 3) := by decide +kernel
theorem d_Md_pixel_199 : decode prog_14_method_73_code 199 = .ok (.aload_n 0, 1) := by decide +kernel
theorem d_Md_pixel_200 : decode prog_14_method_73_code 200 = .ok (.getfield 16, 3) := by decide +kernel
theorem d_Md_pixel_203 : decode prog_14_method_73_code 203 = .ok (.iload 4, 2) := by decide +kernel
theorem d_Md_pixel_205 : decode prog_14_method_73_code 205 = .ok (.iaload, 1) := by decide +kernel
theorem d_Md_pixel_206 : decode prog_14_method_73_code 206 = .ok (.iaload, 1) := by decide +kernel
theorem d_Md_pixel_207 : decode prog_14_method_73_code 207 = .ok (.iconst 1, 1) := by decide +kernel
theorem d_Md_pixel_208 : decode prog_14_method_73_code 208 = .ok (.if_icmp .ne 75, 3) := by decide +kernel
theorem d_Md_pixel_211 : decode prog_14_method_73_code 211 = .ok (.aload_n 0, 1) := by decide +kernel
theorem d_Md_pixel_212 : decode prog_14_method_73_code 212 = .ok (.getfield 43, 3) := by decide +kernel
theorem d_Md_pixel_215 : decode prog_14_method_73_code 215 = .ok (.iload 5, 2) := by decide +kernel
theorem d_Md_pixel_217 : decode prog_14_method_73_code 217 = .ok (.iaload, 1) := by decide +kernel
theorem d_Md_pixel_218 : decode prog_14_method_73_code 218 = .ok (.aload_n 0, 1) := by decide +kernel
theorem d_Md_pixel_219 : decode prog_14_method_73_code 219 = .ok (.getfield 16, 3) := by decide +kernel
theorem d_Md_pixel_222 : decode prog_14_method_73_code 222 = .ok (.iload 4, 2) := by decide +kernel
theorem d_Md_pixel_224 : decode prog_14_method_73_code 224 = .ok (.iaload, 1) := by decide +kernel
theorem d_Md_pixel_225 : decode prog_14_method_73_code 225 = .ok (.if_icmp .ne 52, 3) := by decide +kernel
theorem d_Md_pixel_228 : decode prog_14_method_73_code 228 = .ok (.aload_n 0, 1) := by decide +kernel
theorem d_Md_pixel_229 : decode prog_14_method_73_code 229 = .ok (.getfield 107, 3) := by decide +kernel
theorem d_Md_pixel_232 : decode prog_14_method_73_code 232 = .ok (.iload 5, 2) := by decide +kernel
theorem d_Md_pixel_234 : decode prog_14_method_73_code 234 = .ok (.baload, 1) := by decide +kernel
theorem d_Md_pixel_235 : decode prog_14_method_73_code 235 = .ok (.ifCond .eq 42, 3) := by decide +kernel
theorem d_Md_pixel_238 : decode prog_14_method_73_code 238 = .ok (.aload_n 0, 1) := by decide +kernel
theorem d_Md_pixel_239 : decode prog_14_method_73_code 239 = .ok (.iload 5, 2) := by decide +kernel
theorem d_Md_pixel_241 : decode prog_14_method_73_code 241 = .ok (.iload_n 1, 1) := by decide +kernel
theorem d_Md_pixel_242 : decode prog_14_method_73_code 242 = .ok (.iload_n 2, 1) := by decide +kernel
theorem d_Md_pixel_243 : decode prog_14_method_73_code 243 = .ok (.aload_n 0, 1) := by decide +kernel
theorem d_Md_pixel_244 : decode prog_14_method_73_code 244 = .ok (.getfield 83, 3) := by decide +kernel
theorem d_Md_pixel_247 : decode prog_14_method_73_code 247 = .ok (.bipush 80, 2) := by decide +kernel
theorem d_Md_pixel_249 : decode prog_14_method_73_code 249 = .ok (.aload_n 0, 1) := by decide +kernel
theorem d_Md_pixel_250 : decode prog_14_method_73_code 250 = .ok (.getfield 74, 3) := by decide +kernel
theorem d_Md_pixel_253 : decode prog_14_method_73_code 253 = .ok (.iload 4, 2) := by decide +kernel
theorem d_Md_pixel_255 : decode prog_14_method_73_code 255 = .ok (.iaload, 1) := by decide +kernel
theorem d_Md_pixel_256 : decode prog_14_method_73_code 256 = .ok (.iadd, 1) := by decide +kernel
theorem d_Md_pixel_257 : decode prog_14_method_73_code 257 = .ok (.iaload, 1) := by decide +kernel
theorem d_Md_pixel_258 : decode prog_14_method_73_code 258 = .ok (.invokevirtual 373, 3) := by decide +kernel
theorem d_Md_pixel_261 : decode prog_14_method_73_code 261 = .ok (.ifCond .eq 16, 3) := by decide +kernel
theorem d_Md_pixel_264 : decode prog_14_method_73_code 264 = .ok (.aload_n 0, 1) := by decide +kernel
theorem d_Md_pixel_265 : decode prog_14_method_73_code 265 = .ok (.getfield 83, 3) := by decide +kernel
theorem d_Md_pixel_268 : decode prog_14_method_73_code 268 = .ok (.aload_n 0, 1) := by decide +kernel
theorem d_Md_pixel_269 : decode prog_14_method_73_code 269 = .ok (.getfield 74, 3) := by decide +kernel
theorem d_Md_pixel_272 : decode prog_14_method_73_code 272 = .ok (.iload 4, 2) := by decide +kernel
theorem d_Md_pixel_274 : decode prog_14_method_73_code 274 = .ok (.iaload, 1) := by decide +kernel
theorem d_Md_pixel_275 : decode prog_14_method_73_code 275 = .ok (.iaload, 1) := by decide +kernel
theorem d_Md_pixel_276 : decode prog_14_method_73_code 276 = .ok (.istore_n 3, 1) := by decide +kernel
theorem d_Md_pixel_277 : decode prog_14_method_73_code 277 = .ok (.iinc 5 1, 3) := by decide +kernel
theorem d_Md_pixel_280 : decode prog_14_method_73_code 280 = .ok (.goto (-94), 3) := by decide +kernel
theorem d_Md_pixel_283 : decode prog_14_method_73_code 283 = .ok (.iinc 4 1, 3) := by decide +kernel
theorem d_Md_pixel_286 : decode prog_14_method_73_code 286 = .ok (.goto (-112), 3) := by decide +kernel
theorem d_Md_pixel_289 : decode prog_14_method_73_code 289 = .ok (.iload_n 3, 1) := by decide +kernel
theorem d_Md_pixel_290 : decode prog_14_method_73_code 290 = .ok (.ireturn, 1) := by decide +kernel
def f_Md_pixel_36 (M : qM) (a1 : Int32) (a2 : Int32) : Nat → (Int32 → Option Int32) → Int32 → Int32 → Option Int32
  | 0, _, _, _ => none
  | n + 1, K8, x6, x7 => if (M.1 0 5) ≤ x7 then (K8 x6) else (q_ix x7 40 <| q_lt (fun (x11 : Int32) => if x11 = 0 then (f_Md_pixel_36 M a1 a2 n K8 x6 (x7 + 1)) else (q_ix (40 + x7) 280 <| if (M.1 25 (40 + x7).toNatClampNeg) = 0 then (f_Md_pixel_36 M a1 a2 n K8 x6 (x7 + 1)) else (q_ix (40 + x7) 280 <| q_lt (M.1 25 (40 + x7).toNatClampNeg) fun x16 => f_Md_pixel_36 M a1 a2 n K8 x16 (x7 + 1)))) fun (j17 : Int32 → Option Int32) => q_lt (j17 0) fun (j18 : Option Int32) => if (M.1 27 x7.toNatClampNeg) = 0 then (j18) else (q_ix x7 40 <| if a1 < (M.1 29 x7.toNatClampNeg) then (j18) else (q_ix x7 40 <| q_ix x7 40 <| q_ix (200 + x7) 280 <| if (((M.1 29 x7.toNatClampNeg) + (M.1 30 x7.toNatClampNeg)) + (2 * (M.1 25 (200 + x7).toNatClampNeg))) ≤ a1 then (j18) else (q_ix x7 40 <| if a2 < (M.1 32 x7.toNatClampNeg) then (j18) else (q_ix x7 40 <| q_ix x7 40 <| if ((M.1 32 x7.toNatClampNeg) + (M.1 31 x7.toNatClampNeg)) ≤ a2 then (j18) else (j17 1))))))
def f_Md_pixel_186 (M : qM) (x33 : Int32) (a1 : Int32) (a2 : Int32) : Nat → (Int32 → Option Int32) → Int32 → Int32 → Option Int32
  | 0, _, _, _ => none
  | n + 1, K38, x36, x37 => if (M.1 0 17) ≤ x37 then (K38 x36) else (q_ix x33 40 <| q_ix (M.1 3 x33.toNatClampNeg) 40 <| if (M.1 4 (M.1 3 x33.toNatClampNeg).toNatClampNeg) = 1 then (q_ix x37 160 <| q_ix x33 40 <| if (M.1 12 x37.toNatClampNeg) = (M.1 3 x33.toNatClampNeg) then (q_ix x37 160 <| if (M.1 33 x37.toNatClampNeg) = 0 then (f_Md_pixel_186 M x33 a1 a2 n K38 x36 (x37 + 1)) else (q_ix x33 40 <| q_ix (80 + (M.1 22 x33.toNatClampNeg)) 280 <| q_bp (f_Md_inked x37 a1 a2 (M.1 25 (80 + (M.1 22 x33.toNatClampNeg)).toNatClampNeg) M) fun x50 => if x50 = 0 then (f_Md_pixel_186 M x33 a1 a2 n K38 x36 (x37 + 1)) else (q_ix x33 40 <| q_ix (M.1 22 x33.toNatClampNeg) 280 <| q_lt (M.1 25 (M.1 22 x33.toNatClampNeg).toNatClampNeg) fun x54 => f_Md_pixel_186 M x33 a1 a2 n K38 x54 (x37 + 1)))) else (f_Md_pixel_186 M x33 a1 a2 n K38 x36 (x37 + 1))) else (K38 x36))
def f_Md_pixel_174 (M : qM) (a1 : Int32) (a2 : Int32) : Nat → (Int32 → Option Int32) → Int32 → Int32 → Option Int32
  | 0, _, _, _ => none
  | n + 1, K34, x32, x33 => if (M.1 0 5) ≤ x33 then (K34 x32) else (f_Md_pixel_186 M x33 a1 a2 1000 (fun (x55 : Int32) => f_Md_pixel_174 M a1 a2 n K34 x55 (x33 + 1)) x32 0)
def f_Md_pixel (a1 : Int32) (a2 : Int32) (M : qM) : Option Int32 := if (M.1 0 37) = 0 then (some (-1)) else (if a1 < 0 then (some (-1)) else (if (M.1 0 38) ≤ a1 then (some (-1)) else (if a2 < 0 then (some (-1)) else (if a2 ≤ 63 then (f_Md_pixel_36 M a1 a2 1000 (fun (x31 : Int32) => f_Md_pixel_174 M a1 a2 1000 (fun (x56 : Int32) => some x56) x31 1) 0 1) else (some (-1))))))
abbrev rm_Md_pixel : Room := { frames := 1, cells := 0, slots := 0, locals := 26 }
set_option maxRecDepth 100000 in
set_option maxHeartbeats 4000000 in
theorem c_Md_pixel {l : Launch} {D : va_G} {dA : Nat → ClassId} {b : Nat} (a1 : Int32) (a2 : Int32)  (M : qM) (out : Int32) (hf : f_Md_pixel a1 a2 M = some out) : CTi l y_Md_pixel w_Md_pixel rm_Md_pixel D (tysX dA) (enM dA b) 38 b (fun _ => True) [qr (some 0), qi a1, qi a2] M (out, M) := by
  refine qm_i (cc := prog_14_method_73_code) (nL := 6) (by decide) rfl (Nat.le_of_ble_eq_true rfl) ?_
  intro p e s m args below meth c Q hx hb hts0 hown hml hK hs hret
  have hts : ∀ w ∈ lw_g, w.before args s = true := fun w h => hts0 w (List.mem_cons_of_mem _ h)
  show QJ p l e rm_Md_pixel s m args below meth c (qA 38 b) b 6 0 0 Q (qWd D (enM dA b) 38 b) M 0 [(0, qr (some 0)), (1, qi a1), (2, qi a2)] []
  unfold f_Md_pixel at hf
  refine qj_aload_n hx hb d_Md_pixel_0 rfl 0 rfl ?_
  refine qj_get hx hb hts hin_12 hown hK (by decide) rfl rfl 37 (by decide) (hts _ tw_586) (fun _ h => h) (qi (M.1 0 37)) rfl d_Md_pixel_1 ?_
  refine qj_if_eq (tgt := 29) hx hb d_Md_pixel_4 (by decide) (fun hc1 => ?_) (fun hc1 => ?_)
  · replace hf := q_if_t hc1 hf
    refine qj_iconst (v := (-1)) hx hb d_Md_pixel_29 (by decide) ?_
    exact hret _ _ _ _ d_Md_pixel_30 (congrArg (fun z => (z, M)) (Option.some.inj hf))
  · replace hf := q_if_f hc1 hf
    refine qj_iload_n hx hb d_Md_pixel_7 rfl 1 rfl ?_
    refine qj_if_lt (tgt := 29) hx hb d_Md_pixel_8 (by decide) (fun hc2 => ?_) (fun hc2 => ?_)
    · replace hf := q_if_t hc2 hf
      refine qj_iconst (v := (-1)) hx hb d_Md_pixel_29 (by decide) ?_
      exact hret _ _ _ _ d_Md_pixel_30 (congrArg (fun z => (z, M)) (Option.some.inj hf))
    · replace hf := q_if_f hc2 hf
      refine qj_iload_n hx hb d_Md_pixel_11 rfl 1 rfl ?_
      refine qj_aload_n hx hb d_Md_pixel_12 rfl 0 rfl ?_
      refine qj_get hx hb hts hin_12 hown hK (by decide) rfl rfl 38 (by decide) (hts _ tw_719) (fun _ h => h) (qi (M.1 0 38)) rfl d_Md_pixel_13 ?_
      refine qj_icmp_ge (tgt := 29) hx hb d_Md_pixel_16 (by decide) (fun hc3 => ?_) (fun hc3 => ?_)
      · replace hf := q_if_t hc3 hf
        refine qj_iconst (v := (-1)) hx hb d_Md_pixel_29 (by decide) ?_
        exact hret _ _ _ _ d_Md_pixel_30 (congrArg (fun z => (z, M)) (Option.some.inj hf))
      · replace hf := q_if_f hc3 hf
        refine qj_iload_n hx hb d_Md_pixel_19 rfl 2 rfl ?_
        refine qj_if_lt (tgt := 29) hx hb d_Md_pixel_20 (by decide) (fun hc4 => ?_) (fun hc4 => ?_)
        · replace hf := q_if_t hc4 hf
          refine qj_iconst (v := (-1)) hx hb d_Md_pixel_29 (by decide) ?_
          exact hret _ _ _ _ d_Md_pixel_30 (congrArg (fun z => (z, M)) (Option.some.inj hf))
        · replace hf := q_if_f hc4 hf
          refine qj_iload_n hx hb d_Md_pixel_23 rfl 2 rfl ?_
          refine qj_bipush (v := 63) hx hb d_Md_pixel_24 (by decide) ?_
          refine qj_icmp_le (tgt := 31) hx hb d_Md_pixel_26 (by decide) (fun hc5 => ?_) (fun hc5 => ?_)
          · replace hf := q_if_t hc5 hf
            refine qj_iconst (v := 0) hx hb d_Md_pixel_31 (by decide) ?_
            refine qj_istore_n hx hb d_Md_pixel_32 rfl (by decide) rfl ?_
            refine qj_iconst (v := 1) hx hb d_Md_pixel_33 (by decide) ?_
            refine qj_istore hx hb d_Md_pixel_34 (by decide) rfl ?_
            have hL36 : ∀ (n : Nat) (K8 : Int32 → Option Int32), (∀ (x31 : Int32), K8 x31 = some out → QJ p l e rm_Md_pixel s m args below meth c (qA 38 b) b 6 0 0 Q (qWd D (enM dA b) 38 b) M 171 [(0, qr (some 0)), (1, qi a1), (2, qi a2), (3, qi x31)] []) → ∀ (x6 : Int32) (x7 : Int32), f_Md_pixel_36 M a1 a2 n K8 x6 x7 = some out → QJ p l e rm_Md_pixel s m args below meth c (qA 38 b) b 6 0 0 Q (qWd D (enM dA b) 38 b) M 36 [(0, qr (some 0)), (1, qi a1), (2, qi a2), (3, qi x6), (4, qi x7)] [] := by
              clear hf
              intro n
              induction n with
              | zero =>
                intro K8 hK8 x6 x7 hf
                exact absurd hf (by simp [f_Md_pixel_36])
              | succ n ih36 =>
                intro K8 hK8 x6 x7 hf
                rw [f_Md_pixel_36] at hf
                have ih36 := ih36 K8 hK8
                refine qj_iload hx hb d_Md_pixel_36 4 rfl ?_
                refine qj_aload_n hx hb d_Md_pixel_38 rfl 0 rfl ?_
                refine qj_get hx hb hts hin_12 hown hK (by decide) rfl rfl 5 (by decide) (hts _ tw_447) (fun _ h => h) (qi (M.1 0 5)) rfl d_Md_pixel_39 ?_
                refine qj_icmp_ge (tgt := 171) hx hb d_Md_pixel_42 (by decide) (fun hc9 => ?_) (fun hc9 => ?_)
                · replace hf := q_if_t hc9 hf
                  refine qj_sub [0, 1, 2, 3] rfl ?_
                  exact hK8 x6 hf
                · replace hf := q_if_f hc9 hf
                  refine qj_aload_n hx hb d_Md_pixel_45 rfl 0 rfl ?_
                  refine qj_get hx hb hts hin_12 hown hK (by decide) rfl rfl 41 (by decide) (hts _ tw_665) (fun _ h => h) (qr (some 27)) rfl d_Md_pixel_46 ?_
                  refine qj_iload hx hb d_Md_pixel_49 4 rfl ?_
                  have hf9 := q_ix_s hf; clear hf; obtain ⟨hi10, hf⟩ := hf9
                  refine qj_zald (t0 := 2) hx hb hK (by decide) (fun _ _ => rfl) rfl hi10 d_Md_pixel_51 ?_
                  have hf9 := q_lt_s hf; clear hf; obtain ⟨j17, ej17, hf⟩ := hf9
                  have hj17 : ∀ (x11 : Int32), j17 x11 = some out → QJ p l e rm_Md_pixel s m args below meth c (qA 38 b) b 6 0 0 Q (qWd D (enM dA b) 38 b) M 134 [(0, qr (some 0)), (1, qi a1), (2, qi a2), (3, qi x6), (4, qi x7)] [qi x11] := by
                    clear hf
                    intro x11 hf
                    rw [ej17] at hf
                    refine qj_istore hx hb d_Md_pixel_134 (by decide) rfl ?_
                    refine qj_iload hx hb d_Md_pixel_136 0 rfl ?_
                    refine qj_if_eq (tgt := 165) hx hb d_Md_pixel_138 (by decide) (fun hc12 => ?_) (fun hc12 => ?_)
                    · replace hf := q_if_t hc12 hf
                      refine qj_iinc (j := 5) (v := x7 + 1) hx hb d_Md_pixel_165 rfl rfl (by decide) rfl ?_
                      refine qj_goto (tgt := 36) hx hb d_Md_pixel_168 (by decide) ?_
                      refine qj_sub [2, 3, 4, 5, 0] rfl ?_
                      exact ih36 x6 (x7 + 1) hf
                    · replace hf := q_if_f hc12 hf
                      refine qj_aload_n hx hb d_Md_pixel_141 rfl 1 rfl ?_
                      refine qj_get hx hb hts hin_12 hown hK (by decide) rfl rfl 36 (by decide) (hts _ tw_642) (fun _ h => h) (qr (some 25)) rfl d_Md_pixel_142 ?_
                      refine qj_bipush (v := 40) hx hb d_Md_pixel_145 (by decide) ?_
                      refine qj_iload hx hb d_Md_pixel_147 5 rfl ?_
                      refine qj_iadd hx hb d_Md_pixel_149 ?_
                      have hf9 := q_ix_s hf; clear hf; obtain ⟨hi13, hf⟩ := hf9
                      refine qj_iald (t0 := 0) hx hb hK (by decide) (fun _ _ => rfl) rfl hi13 d_Md_pixel_150 ?_
                      refine qj_if_eq (tgt := 165) hx hb d_Md_pixel_151 (by decide) (fun hc14 => ?_) (fun hc14 => ?_)
                      · replace hf := q_if_t hc14 hf
                        refine qj_iinc (j := 5) (v := x7 + 1) hx hb d_Md_pixel_165 rfl rfl (by decide) rfl ?_
                        refine qj_goto (tgt := 36) hx hb d_Md_pixel_168 (by decide) ?_
                        refine qj_sub [2, 3, 4, 5, 0] rfl ?_
                        exact ih36 x6 (x7 + 1) hf
                      · replace hf := q_if_f hc14 hf
                        refine qj_aload_n hx hb d_Md_pixel_154 rfl 1 rfl ?_
                        refine qj_get hx hb hts hin_12 hown hK (by decide) rfl rfl 36 (by decide) (hts _ tw_642) (fun _ h => h) (qr (some 25)) rfl d_Md_pixel_155 ?_
                        refine qj_bipush (v := 40) hx hb d_Md_pixel_158 (by decide) ?_
                        refine qj_iload hx hb d_Md_pixel_160 5 rfl ?_
                        refine qj_iadd hx hb d_Md_pixel_162 ?_
                        have hf9 := q_ix_s hf; clear hf; obtain ⟨hi15, hf⟩ := hf9
                        refine qj_iald (t0 := 0) hx hb hK (by decide) (fun _ _ => rfl) rfl hi15 d_Md_pixel_163 ?_
                        have hf9 := q_lt_s hf; clear hf; obtain ⟨x16, ex16, hf⟩ := hf9
                        rw [← ex16]
                        refine qj_istore_n hx hb d_Md_pixel_164 rfl (by decide) rfl ?_
                        refine qj_iinc (j := 5) (v := x7 + 1) hx hb d_Md_pixel_165 rfl rfl (by decide) rfl ?_
                        refine qj_goto (tgt := 36) hx hb d_Md_pixel_168 (by decide) ?_
                        refine qj_sub [3, 4, 5, 1, 0] rfl ?_
                        exact ih36 x16 (x7 + 1) hf
                  have hf9 := q_lt_s hf; clear hf; obtain ⟨j18, ej18, hf⟩ := hf9
                  have hj18 : j18 = some out → QJ p l e rm_Md_pixel s m args below meth c (qA 38 b) b 6 0 0 Q (qWd D (enM dA b) 38 b) M 133 [(0, qr (some 0)), (1, qi a1), (2, qi a2), (3, qi x6), (4, qi x7)] [] := by
                    clear hf
                    intro hf
                    rw [ej18] at hf
                    refine qj_iconst (v := 0) hx hb d_Md_pixel_133 (by decide) ?_
                    exact hj17 0 hf
                  refine qj_if_eq (tgt := 133) hx hb d_Md_pixel_52 (by decide) (fun hc19 => ?_) (fun hc19 => ?_)
                  · replace hf := q_if_t hc19 hf
                    exact hj18  hf
                  · replace hf := q_if_f hc19 hf
                    refine qj_iload_n hx hb d_Md_pixel_55 rfl 1 rfl ?_
                    refine qj_aload_n hx hb d_Md_pixel_56 rfl 0 rfl ?_
                    refine qj_get hx hb hts hin_12 hown hK (by decide) rfl rfl 43 (by decide) (hts _ tw_667) (fun _ h => h) (qr (some 29)) rfl d_Md_pixel_57 ?_
                    refine qj_iload hx hb d_Md_pixel_60 4 rfl ?_
                    have hf9 := q_ix_s hf; clear hf; obtain ⟨hi20, hf⟩ := hf9
                    refine qj_iald (t0 := 0) hx hb hK (by decide) (fun _ _ => rfl) rfl hi20 d_Md_pixel_62 ?_
                    refine qj_icmp_lt (tgt := 133) hx hb d_Md_pixel_63 (by decide) (fun hc21 => ?_) (fun hc21 => ?_)
                    · replace hf := q_if_t hc21 hf
                      exact hj18  hf
                    · replace hf := q_if_f hc21 hf
                      refine qj_iload_n hx hb d_Md_pixel_66 rfl 1 rfl ?_
                      refine qj_aload_n hx hb d_Md_pixel_67 rfl 0 rfl ?_
                      refine qj_get hx hb hts hin_12 hown hK (by decide) rfl rfl 43 (by decide) (hts _ tw_667) (fun _ h => h) (qr (some 29)) rfl d_Md_pixel_68 ?_
                      refine qj_iload hx hb d_Md_pixel_71 4 rfl ?_
                      have hf9 := q_ix_s hf; clear hf; obtain ⟨hi22, hf⟩ := hf9
                      refine qj_iald (t0 := 0) hx hb hK (by decide) (fun _ _ => rfl) rfl hi22 d_Md_pixel_73 ?_
                      refine qj_aload_n hx hb d_Md_pixel_74 rfl 0 rfl ?_
                      refine qj_get hx hb hts hin_12 hown hK (by decide) rfl rfl 44 (by decide) (hts _ tw_672) (fun _ h => h) (qr (some 30)) rfl d_Md_pixel_75 ?_
                      refine qj_iload hx hb d_Md_pixel_78 4 rfl ?_
                      have hf9 := q_ix_s hf; clear hf; obtain ⟨hi23, hf⟩ := hf9
                      refine qj_iald (t0 := 0) hx hb hK (by decide) (fun _ _ => rfl) rfl hi23 d_Md_pixel_80 ?_
                      refine qj_iadd hx hb d_Md_pixel_81 ?_
                      refine qj_iconst (v := 2) hx hb d_Md_pixel_82 (by decide) ?_
                      refine qj_aload_n hx hb d_Md_pixel_83 rfl 0 rfl ?_
                      refine qj_get hx hb hts hin_12 hown hK (by decide) rfl rfl 36 (by decide) (hts _ tw_642) (fun _ h => h) (qr (some 25)) rfl d_Md_pixel_84 ?_
                      refine qj_sipush (v := 200) hx hb d_Md_pixel_87 (by decide) ?_
                      refine qj_iload hx hb d_Md_pixel_90 4 rfl ?_
                      refine qj_iadd hx hb d_Md_pixel_92 ?_
                      have hf9 := q_ix_s hf; clear hf; obtain ⟨hi24, hf⟩ := hf9
                      refine qj_iald (t0 := 0) hx hb hK (by decide) (fun _ _ => rfl) rfl hi24 d_Md_pixel_93 ?_
                      refine qj_imul hx hb d_Md_pixel_94 ?_
                      refine qj_iadd hx hb d_Md_pixel_95 ?_
                      refine qj_icmp_ge (tgt := 133) hx hb d_Md_pixel_96 (by decide) (fun hc25 => ?_) (fun hc25 => ?_)
                      · replace hf := q_if_t hc25 hf
                        exact hj18  hf
                      · replace hf := q_if_f hc25 hf
                        refine qj_iload_n hx hb d_Md_pixel_99 rfl 2 rfl ?_
                        refine qj_aload_n hx hb d_Md_pixel_100 rfl 0 rfl ?_
                        refine qj_get hx hb hts hin_12 hown hK (by decide) rfl rfl 46 (by decide) (hts _ tw_713) (fun _ h => h) (qr (some 32)) rfl d_Md_pixel_101 ?_
                        refine qj_iload hx hb d_Md_pixel_104 4 rfl ?_
                        have hf9 := q_ix_s hf; clear hf; obtain ⟨hi26, hf⟩ := hf9
                        refine qj_iald (t0 := 0) hx hb hK (by decide) (fun _ _ => rfl) rfl hi26 d_Md_pixel_106 ?_
                        refine qj_icmp_lt (tgt := 133) hx hb d_Md_pixel_107 (by decide) (fun hc27 => ?_) (fun hc27 => ?_)
                        · replace hf := q_if_t hc27 hf
                          exact hj18  hf
                        · replace hf := q_if_f hc27 hf
                          refine qj_iload_n hx hb d_Md_pixel_110 rfl 2 rfl ?_
                          refine qj_aload_n hx hb d_Md_pixel_111 rfl 0 rfl ?_
                          refine qj_get hx hb hts hin_12 hown hK (by decide) rfl rfl 46 (by decide) (hts _ tw_713) (fun _ h => h) (qr (some 32)) rfl d_Md_pixel_112 ?_
                          refine qj_iload hx hb d_Md_pixel_115 4 rfl ?_
                          have hf9 := q_ix_s hf; clear hf; obtain ⟨hi28, hf⟩ := hf9
                          refine qj_iald (t0 := 0) hx hb hK (by decide) (fun _ _ => rfl) rfl hi28 d_Md_pixel_117 ?_
                          refine qj_aload_n hx hb d_Md_pixel_118 rfl 0 rfl ?_
                          refine qj_get hx hb hts hin_12 hown hK (by decide) rfl rfl 45 (by decide) (hts _ tw_714) (fun _ h => h) (qr (some 31)) rfl d_Md_pixel_119 ?_
                          refine qj_iload hx hb d_Md_pixel_122 4 rfl ?_
                          have hf9 := q_ix_s hf; clear hf; obtain ⟨hi29, hf⟩ := hf9
                          refine qj_iald (t0 := 0) hx hb hK (by decide) (fun _ _ => rfl) rfl hi29 d_Md_pixel_124 ?_
                          refine qj_iadd hx hb d_Md_pixel_125 ?_
                          refine qj_icmp_ge (tgt := 133) hx hb d_Md_pixel_126 (by decide) (fun hc30 => ?_) (fun hc30 => ?_)
                          · replace hf := q_if_t hc30 hf
                            exact hj18  hf
                          · replace hf := q_if_f hc30 hf
                            refine qj_iconst (v := 1) hx hb d_Md_pixel_129 (by decide) ?_
                            refine qj_goto (tgt := 134) hx hb d_Md_pixel_130 (by decide) ?_
                            exact hj17 1 hf
            refine qj_sub [2, 3, 4, 1, 0] rfl ?_
            refine hL36 _ _ (fun x31 hf9 => ?_) 0 1 hf
            clear hf; have hf := hf9; clear hf9
            refine qj_iconst (v := 1) hx hb d_Md_pixel_171 (by decide) ?_
            refine qj_istore hx hb d_Md_pixel_172 (by decide) rfl ?_
            have hL174 : ∀ (n : Nat) (K34 : Int32 → Option Int32), (∀ (x56 : Int32), K34 x56 = some out → QJ p l e rm_Md_pixel s m args below meth c (qA 38 b) b 6 0 0 Q (qWd D (enM dA b) 38 b) M 289 [(3, qi x56)] []) → ∀ (x32 : Int32) (x33 : Int32), f_Md_pixel_174 M a1 a2 n K34 x32 x33 = some out → QJ p l e rm_Md_pixel s m args below meth c (qA 38 b) b 6 0 0 Q (qWd D (enM dA b) 38 b) M 174 [(0, qr (some 0)), (1, qi a1), (2, qi a2), (3, qi x32), (4, qi x33)] [] := by
              clear hf
              intro n
              induction n with
              | zero =>
                intro K34 hK34 x32 x33 hf
                exact absurd hf (by simp [f_Md_pixel_174])
              | succ n ih174 =>
                intro K34 hK34 x32 x33 hf
                rw [f_Md_pixel_174] at hf
                have ih174 := ih174 K34 hK34
                refine qj_iload hx hb d_Md_pixel_174 4 rfl ?_
                refine qj_aload_n hx hb d_Md_pixel_176 rfl 0 rfl ?_
                refine qj_get hx hb hts hin_12 hown hK (by decide) rfl rfl 5 (by decide) (hts _ tw_447) (fun _ h => h) (qi (M.1 0 5)) rfl d_Md_pixel_177 ?_
                refine qj_icmp_ge (tgt := 289) hx hb d_Md_pixel_180 (by decide) (fun hc35 => ?_) (fun hc35 => ?_)
                · replace hf := q_if_t hc35 hf
                  refine qj_sub [3] rfl ?_
                  exact hK34 x32 hf
                · replace hf := q_if_f hc35 hf
                  refine qj_iconst (v := 0) hx hb d_Md_pixel_183 (by decide) ?_
                  refine qj_istore hx hb d_Md_pixel_184 (by decide) rfl ?_
                  have hL186 : ∀ (n : Nat) (K38 : Int32 → Option Int32), (∀ (x55 : Int32), K38 x55 = some out → QJ p l e rm_Md_pixel s m args below meth c (qA 38 b) b 6 0 0 Q (qWd D (enM dA b) 38 b) M 283 [(0, qr (some 0)), (1, qi a1), (2, qi a2), (3, qi x55), (4, qi x33)] []) → ∀ (x36 : Int32) (x37 : Int32), f_Md_pixel_186 M x33 a1 a2 n K38 x36 x37 = some out → QJ p l e rm_Md_pixel s m args below meth c (qA 38 b) b 6 0 0 Q (qWd D (enM dA b) 38 b) M 186 [(0, qr (some 0)), (1, qi a1), (2, qi a2), (3, qi x36), (4, qi x33), (5, qi x37)] [] := by
                    clear hf
                    intro n
                    induction n with
                    | zero =>
                      intro K38 hK38 x36 x37 hf
                      exact absurd hf (by simp [f_Md_pixel_186])
                    | succ n ih186 =>
                      intro K38 hK38 x36 x37 hf
                      rw [f_Md_pixel_186] at hf
                      have ih186 := ih186 K38 hK38
                      refine qj_iload hx hb d_Md_pixel_186 5 rfl ?_
                      refine qj_aload_n hx hb d_Md_pixel_188 rfl 0 rfl ?_
                      refine qj_get hx hb hts hin_12 hown hK (by decide) rfl rfl 17 (by decide) (hts _ tw_456) (fun _ h => h) (qi (M.1 0 17)) rfl d_Md_pixel_189 ?_
                      refine qj_icmp_ge (tgt := 283) hx hb d_Md_pixel_192 (by decide) (fun hc39 => ?_) (fun hc39 => ?_)
                      · replace hf := q_if_t hc39 hf
                        refine qj_sub [0, 1, 2, 3, 4] rfl ?_
                        exact hK38 x36 hf
                      · replace hf := q_if_f hc39 hf
                        refine qj_aload_n hx hb d_Md_pixel_195 rfl 0 rfl ?_
                        refine qj_get hx hb hts hin_12 hown hK (by decide) rfl rfl 8 (by decide) (hts _ tw_450) (fun _ h => h) (qr (some 4)) rfl d_Md_pixel_196 ?_
                        refine qj_aload_n hx hb d_Md_pixel_199 rfl 0 rfl ?_
                        refine qj_get hx hb hts hin_12 hown hK (by decide) rfl rfl 6 (by decide) (hts _ tw_448) (fun _ h => h) (qr (some 3)) rfl d_Md_pixel_200 ?_
                        refine qj_iload hx hb d_Md_pixel_203 4 rfl ?_
                        have hf9 := q_ix_s hf; clear hf; obtain ⟨hi40, hf⟩ := hf9
                        refine qj_iald (t0 := 0) hx hb hK (by decide) (fun _ _ => rfl) rfl hi40 d_Md_pixel_205 ?_
                        have hf9 := q_ix_s hf; clear hf; obtain ⟨hi41, hf⟩ := hf9
                        refine qj_iald (t0 := 0) hx hb hK (by decide) (fun _ _ => rfl) rfl hi41 d_Md_pixel_206 ?_
                        refine qj_iconst (v := 1) hx hb d_Md_pixel_207 (by decide) ?_
                        refine qj_icmp_ne (tgt := 283) hx hb d_Md_pixel_208 (by decide) (fun hc42 => ?_) (fun hc42 => ?_)
                        · replace hf := q_if_f hc42 hf
                          refine qj_sub [0, 1, 2, 3, 4] rfl ?_
                          exact hK38 x36 hf
                        · replace hf := q_if_t hc42 hf
                          refine qj_aload_n hx hb d_Md_pixel_211 rfl 0 rfl ?_
                          refine qj_get hx hb hts hin_12 hown hK (by decide) rfl rfl 19 (by decide) (hts _ tw_569) (fun _ h => h) (qr (some 12)) rfl d_Md_pixel_212 ?_
                          refine qj_iload hx hb d_Md_pixel_215 5 rfl ?_
                          have hf9 := q_ix_s hf; clear hf; obtain ⟨hi43, hf⟩ := hf9
                          refine qj_iald (t0 := 0) hx hb hK (by decide) (fun _ _ => rfl) rfl hi43 d_Md_pixel_217 ?_
                          refine qj_aload_n hx hb d_Md_pixel_218 rfl 0 rfl ?_
                          refine qj_get hx hb hts hin_12 hown hK (by decide) rfl rfl 6 (by decide) (hts _ tw_448) (fun _ h => h) (qr (some 3)) rfl d_Md_pixel_219 ?_
                          refine qj_iload hx hb d_Md_pixel_222 4 rfl ?_
                          have hf9 := q_ix_s hf; clear hf; obtain ⟨hi44, hf⟩ := hf9
                          refine qj_iald (t0 := 0) hx hb hK (by decide) (fun _ _ => rfl) rfl hi44 d_Md_pixel_224 ?_
                          refine qj_icmp_ne (tgt := 277) hx hb d_Md_pixel_225 (by decide) (fun hc45 => ?_) (fun hc45 => ?_)
                          · replace hf := q_if_f hc45 hf
                            refine qj_iinc (j := 5) (v := x37 + 1) hx hb d_Md_pixel_277 rfl rfl (by decide) rfl ?_
                            refine qj_goto (tgt := 186) hx hb d_Md_pixel_280 (by decide) ?_
                            refine qj_sub [1, 2, 3, 4, 5, 0] rfl ?_
                            exact ih186 x36 (x37 + 1) hf
                          · replace hf := q_if_t hc45 hf
                            refine qj_aload_n hx hb d_Md_pixel_228 rfl 0 rfl ?_
                            refine qj_get hx hb hts hin_12 hown hK (by decide) rfl rfl 47 (by decide) (hts _ tw_694) (fun _ h => h) (qr (some 33)) rfl d_Md_pixel_229 ?_
                            refine qj_iload hx hb d_Md_pixel_232 5 rfl ?_
                            have hf9 := q_ix_s hf; clear hf; obtain ⟨hi46, hf⟩ := hf9
                            refine qj_zald (t0 := 2) hx hb hK (by decide) (fun _ _ => rfl) rfl hi46 d_Md_pixel_234 ?_
                            refine qj_if_eq (tgt := 277) hx hb d_Md_pixel_235 (by decide) (fun hc47 => ?_) (fun hc47 => ?_)
                            · replace hf := q_if_t hc47 hf
                              refine qj_iinc (j := 5) (v := x37 + 1) hx hb d_Md_pixel_277 rfl rfl (by decide) rfl ?_
                              refine qj_goto (tgt := 186) hx hb d_Md_pixel_280 (by decide) ?_
                              refine qj_sub [1, 2, 3, 4, 5, 0] rfl ?_
                              exact ih186 x36 (x37 + 1) hf
                            · replace hf := q_if_f hc47 hf
                              refine qj_aload_n hx hb d_Md_pixel_238 rfl 0 rfl ?_
                              refine qj_iload hx hb d_Md_pixel_239 5 rfl ?_
                              refine qj_iload_n hx hb d_Md_pixel_241 rfl 1 rfl ?_
                              refine qj_iload_n hx hb d_Md_pixel_242 rfl 2 rfl ?_
                              refine qj_aload_n hx hb d_Md_pixel_243 rfl 0 rfl ?_
                              refine qj_get hx hb hts hin_12 hown hK (by decide) rfl rfl 36 (by decide) (hts _ tw_642) (fun _ h => h) (qr (some 25)) rfl d_Md_pixel_244 ?_
                              refine qj_bipush (v := 80) hx hb d_Md_pixel_247 (by decide) ?_
                              refine qj_aload_n hx hb d_Md_pixel_249 rfl 0 rfl ?_
                              refine qj_get hx hb hts hin_12 hown hK (by decide) rfl rfl 33 (by decide) (hts _ tw_630) (fun _ h => h) (qr (some 22)) rfl d_Md_pixel_250 ?_
                              refine qj_iload hx hb d_Md_pixel_253 4 rfl ?_
                              have hf9 := q_ix_s hf; clear hf; obtain ⟨hi48, hf⟩ := hf9
                              refine qj_iald (t0 := 0) hx hb hK (by decide) (fun _ _ => rfl) rfl hi48 d_Md_pixel_255 ?_
                              refine qj_iadd hx hb d_Md_pixel_256 ?_
                              have hf9 := q_ix_s hf; clear hf; obtain ⟨hi49, hf⟩ := hf9
                              refine qj_iald (t0 := 0) hx hb hK (by decide) (fun _ _ => rfl) rfl hi49 d_Md_pixel_257 ?_
                              have hf9 := q_bp_s hf; clear hf; obtain ⟨x50, hx50, hf⟩ := hf9
                              refine qc_Vi (st := []) hx hb hml hown hts hK qT_ok hs (c_Md_inked x37 a1 a2 (M.1 25 (80 + (M.1 22 x33.toNatClampNeg)).toNatClampNeg) M _ hx50) ⟨(callB_of 4 hts (q_good tw_733) rfl rfl rfl (hts _ tw_459) (hts _ tw_734) (by decide +kernel) ⟨by decide, by decide⟩), (hts _ tw_735), (hts _ tw_736)⟩ (by decide) rfl rfl rfl rfl (Nat.le_of_ble_eq_true rfl) d_Md_pixel_258 ?_
                              refine qj_if_eq (tgt := 277) hx hb d_Md_pixel_261 (by decide) (fun hc51 => ?_) (fun hc51 => ?_)
                              · replace hf := q_if_t hc51 hf
                                refine qj_iinc (j := 5) (v := x37 + 1) hx hb d_Md_pixel_277 rfl rfl (by decide) rfl ?_
                                refine qj_goto (tgt := 186) hx hb d_Md_pixel_280 (by decide) ?_
                                refine qj_sub [1, 2, 3, 4, 5, 0] rfl ?_
                                exact ih186 x36 (x37 + 1) hf
                              · replace hf := q_if_f hc51 hf
                                refine qj_aload_n hx hb d_Md_pixel_264 rfl 0 rfl ?_
                                refine qj_get hx hb hts hin_12 hown hK (by decide) rfl rfl 36 (by decide) (hts _ tw_642) (fun _ h => h) (qr (some 25)) rfl d_Md_pixel_265 ?_
                                refine qj_aload_n hx hb d_Md_pixel_268 rfl 0 rfl ?_
                                refine qj_get hx hb hts hin_12 hown hK (by decide) rfl rfl 33 (by decide) (hts _ tw_630) (fun _ h => h) (qr (some 22)) rfl d_Md_pixel_269 ?_
                                refine qj_iload hx hb d_Md_pixel_272 4 rfl ?_
                                have hf9 := q_ix_s hf; clear hf; obtain ⟨hi52, hf⟩ := hf9
                                refine qj_iald (t0 := 0) hx hb hK (by decide) (fun _ _ => rfl) rfl hi52 d_Md_pixel_274 ?_
                                have hf9 := q_ix_s hf; clear hf; obtain ⟨hi53, hf⟩ := hf9
                                refine qj_iald (t0 := 0) hx hb hK (by decide) (fun _ _ => rfl) rfl hi53 d_Md_pixel_275 ?_
                                have hf9 := q_lt_s hf; clear hf; obtain ⟨x54, ex54, hf⟩ := hf9
                                rw [← ex54]
                                refine qj_istore_n hx hb d_Md_pixel_276 rfl (by decide) rfl ?_
                                refine qj_iinc (j := 5) (v := x37 + 1) hx hb d_Md_pixel_277 rfl rfl (by decide) rfl ?_
                                refine qj_goto (tgt := 186) hx hb d_Md_pixel_280 (by decide) ?_
                                refine qj_sub [2, 3, 4, 1, 5, 0] rfl ?_
                                exact ih186 x54 (x37 + 1) hf
                  refine qj_sub [1, 2, 3, 4, 5, 0] rfl ?_
                  refine hL186 _ _ (fun x55 hf9 => ?_) x32 0 hf
                  clear hf; have hf := hf9; clear hf9
                  refine qj_iinc (j := 4) (v := x33 + 1) hx hb d_Md_pixel_283 rfl rfl (by decide) rfl ?_
                  refine qj_goto (tgt := 174) hx hb d_Md_pixel_286 (by decide) ?_
                  refine qj_sub [1, 2, 3, 4, 0] rfl ?_
                  exact ih174 x55 (x33 + 1) hf
            refine qj_sub [1, 2, 3, 4, 0] rfl ?_
            refine hL174 _ _ (fun x56 hf9 => ?_) x31 1 hf
            clear hf; have hf := hf9; clear hf9
            refine qj_iload_n hx hb d_Md_pixel_289 rfl 0 rfl ?_
            exact hret _ _ _ _ d_Md_pixel_290 (congrArg (fun z => (z, M)) (Option.some.inj hf))
          · replace hf := q_if_f hc5 hf
            refine qj_iconst (v := (-1)) hx hb d_Md_pixel_29 (by decide) ?_
            exact hret _ _ _ _ d_Md_pixel_30 (congrArg (fun z => (z, M)) (Option.some.inj hf))
