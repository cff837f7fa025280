theorem d_Md_character_0 : decode prog_14_method_34_code 0 = .ok (.iload_n 1, 1) := by decide +kernel
theorem d_Md_character_1 : decode prog_14_method_34_code 1 = .ok (.bipush 32, 2) := by decide +kernel
theorem d_Md_character_3 : decode prog_14_method_34_code 3 = .ok (.if_icmp .ne 24, 3) := by decide +kernel
theorem d_Md_character_6 : decode prog_14_method_34_code 6 = .ok (.aload_n 0, 1) := by decide +kernel
theorem d_Md_character_7 : decode prog_14_method_34_code 7 = .ok (.aload_n 0, 1) := by decide +kernel
theorem d_Md_character_8 : decode prog_14_method_34_code 8 = .ok (.getfield 31, 3) := by decide +kernel
theorem d_Md_character_11 : decode prog_14_method_34_code 11 = .ok (.aload_n 0, 1) := by decide +kernel
theorem d_Md_character_12 : decode prog_14_method_34_code 12 = .ok (.getfield 148, 3) := by decide +kernel
theorem d_Md_character_15 : decode prog_14_method_34_code 15 = .ok (.iconst 1, 1) := by decide +kernel
theorem d_Md_character_16 : decode prog_14_method_34_code 16 = .ok (.isub, 1) := by decide +kernel
theorem d_Md_character_17 : decode prog_14_method_34_code 17 = .ok (.iaload, 1) := by decide +kernel
theorem d_Md_character_18 : decode prog_14_method_34_code 18 = .ok (.ldc 215, 2) := by decide +kernel
theorem d_Md_character_20 : decode prog_14_method_34_code 20 = .ok (.invokevirtual 192, 3) := by decide +kernel
theorem d_Md_character_23 : decode prog_14_method_34_code 23 = .ok (.ifCond .eq 4, 3) := by decide +kernel
theorem d_Md_character_26 : decode prog_14_method_34_code 26 = .ok (.return_, 1) := by decide +kernel
theorem d_Md_character_27 : decode prog_14_method_34_code 27 = .ok (.aload_n 0, 1) := by decide +kernel
theorem d_Md_character_28 : decode prog_14_method_34_code 28 = .ok (.invokevirtual 240, 3) := by decide +kernel
theorem d_Md_character_31 : decode prog_14_method_34_code 31 = .ok (.aload_n 0, 1) := by decide +kernel
theorem d_Md_character_32 : decode prog_14_method_34_code 32 = .ok (.getfield 129, 3) := by decide +kernel
theorem d_Md_character_35 : decode prog_14_method_34_code 35 = .ok (.ifCond .eq 4, 3) := by decide +kernel
theorem d_Md_character_38 : decode prog_14_method_34_code 38 = .ok (.return_, 1) := by decide +kernel
theorem d_Md_character_39 : decode prog_14_method_34_code 39 = .ok (.aload_n 0, 1) := by decide +kernel
theorem d_Md_character_40 : decode prog_14_method_34_code 40 = .ok (.aload_n 0, 1) := by decide +kernel
theorem d_Md_character_41 : decode prog_14_method_34_code 41 = .ok (.getfield 148, 3) := by decide +kernel
theorem d_Md_character_44 : decode prog_14_method_34_code 44 = .ok (.invokevirtual 226, 3) := by decide +kernel
theorem d_Md_character_47 : decode prog_14_method_34_code 47 = .ok (.aload_n 0, 1) := by decide +kernel
theorem d_Md_character_48 : decode prog_14_method_34_code 48 = .ok (.getfield 208, 3) := by decide +kernel
theorem d_Md_character_51 : decode prog_14_method_34_code 51 = .ok (.iconst 1, 1) := by decide +kernel
theorem d_Md_character_52 : decode prog_14_method_34_code 52 = .ok (.isub, 1) := by decide +kernel
theorem d_Md_character_53 : decode prog_14_method_34_code 53 = .ok (.istore_n 2, 1) := by decide +kernel
theorem d_Md_character_54 : decode prog_14_method_34_code 54 = .ok (.iload_n 2, 1) := by decide +kernel
theorem d_Md_character_55 : decode prog_14_method_34_code 55 = .ok (.ifCond .le 27, 3) := by decide +kernel
theorem d_Md_character_58 : decode prog_14_method_34_code 58 = .ok (.aload_n 0, 1) := by decide +kernel
theorem d_Md_character_59 : decode prog_14_method_34_code 59 = .ok (.getfield 25, 3) := by decide +kernel
theorem d_Md_character_62 : decode prog_14_method_34_code 62 = .ok (.aload_n 0, 1) := by decide +kernel
theorem d_Md_character_63 : decode prog_14_method_34_code 63 = .ok (.getfield 16, 3) := by decide +kernel
theorem d_Md_character_66 : decode prog_14_method_34_code 66 = .ok (.iload_n 2, 1) := by decide +kernel
theorem d_Md_character_67 : decode prog_14_method_34_code 67 = .ok (.iaload, 1) := by decide +kernel
theorem d_Md_character_68 : decode prog_14_method_34_code 68 = .ok (.iaload, 1) := by decide +kernel
theorem d_Md_character_69 : decode prog_14_method_34_code 69 = .ok (.aload_n 0, 1) := by decide +kernel
theorem d_Md_character_70 : decode prog_14_method_34_code 70 = .ok (.getfield 211, 3) := by decide +kernel
theorem d_Md_character_73 : decode prog_14_method_34_code 73 = .ok (.if_icmp .le 9, 3) := by decide +kernel
theorem d_Md_character_76 : decode prog_14_method_34_code 76 = .ok (.iinc 2 (-1), 3) := by decide +kernel
theorem d_Md_character_79 : decode prog_14_method_34_code 79 = .ok (.goto (-25), 3) := by decide +kernel
theorem d_Md_character_82 : decode prog_14_method_34_code 82 = .ok (.aload_n 0, 1) := by decide +kernel
theorem d_Md_character_83 : decode prog_14_method_34_code 83 = .ok (.getfield 16, 3) := by decide +kernel
theorem d_Md_character_86 : decode prog_14_method_34_code 86 = .ok (.iload_n 2, 1) := by decide +kernel
theorem d_Md_character_87 : decode prog_14_method_34_code 87 = .ok (.iaload, 1) := by decide +kernel
theorem d_Md_character_88 : decode prog_14_method_34_code 88 = .ok (.istore_n 3, 1) := by decide +kernel
theorem d_Md_character_89 : decode prog_14_method_34_code 89 = .ok (.aload_n 0, 1) := by decide +kernel
theorem d_Md_character_90 : decode prog_14_method_34_code 90 = .ok (.getfield 19, 3) := by decide +kernel
theorem d_Md_character_93 : decode prog_14_method_34_code 93 = .ok (.iload_n 3, 1) := by decide +kernel
theorem d_Md_character_94 : decode prog_14_method_34_code 94 = .ok (.iaload, 1) := by decide +kernel
theorem d_Md_character_95 : decode prog_14_method_34_code 95 = .ok (.iconst 1, 1) := by decide +kernel
theorem d_Md_character_96 : decode prog_14_method_34_code 96 = .ok (.if_icmp .ne 16, 3) := by decide +kernel
theorem d_Md_character_99 : decode prog_14_method_34_code 99 = .ok (.aload_n 0, 1) := by decide +kernel
theorem d_Md_character_100 : decode prog_14_method_34_code 100 = .ok (.getfield 25, 3) := by decide +kernel
theorem d_Md_character_103 : decode prog_14_method_34_code 103 = .ok (.iload_n 3, 1) := by decide +kernel
theorem d_Md_character_104 : decode prog_14_method_34_code 104 = .ok (.iaload, 1) := by decide +kernel
theorem d_Md_character_105 : decode prog_14_method_34_code 105 = .ok (.aload_n 0, 1) := by decide +kernel
theorem d_Md_character_106 : decode prog_14_method_34_code 106 = .ok (.getfield 211, 3) := by decide +kernel
theorem d_Md_character_109 : decode prog_14_method_34_code 109 = .ok (.if_icmp .eq 10, 3) := by decide +kernel
theorem d_Md_character_112 : decode prog_14_method_34_code 112 = .ok (.aload_n 0, 1) := by decide +kernel
theorem d_Md_character_113 : decode prog_14_method_34_code 113 = .ok (.iconst 1, 1) := by decide +kernel
theorem d_Md_character_114 : decode prog_14_method_34_code 114 = .ok (.iconst 0, 1) := by decide +kernel
theorem d_Md_character_115 : decode prog_14_method_34_code 115 = .ok (.invokevirtual 229, 3) := by decide +kernel
theorem d_Md_character_118 : decode prog_14_method_34_code 118 = .ok (.istore_n 3, 1) := by decide +kernel
theorem d_Md_character_119 : decode prog_14_method_34_code 119 = .ok (.aload_n 0, 1) := by decide +kernel
theorem d_Md_character_120 : decode prog_14_method_34_code 120 = .ok (.getfield 129, 3) := by decide +kernel
theorem d_Md_character_123 : decode prog_14_method_34_code 123 = .ok (.ifCond .eq 4, 3) := by decide +kernel
theorem d_Md_character_126 : decode prog_14_method_34_code 126 = .ok (.return_, 1) := by decide +kernel
theorem d_Md_character_127 : decode prog_14_method_34_code 127 = .ok (.aload_n 0, 1) := by decide +kernel
theorem d_Md_character_128 : decode prog_14_method_34_code 128 = .ok (.getfield 40, 3) := by decide +kernel
theorem d_Md_character_131 : decode prog_14_method_34_code 131 = .ok (.aload_n 0, 1) := by decide +kernel
theorem d_Md_character_132 : decode prog_14_method_34_code 132 = .ok (.getfield 154, 3) := by decide +kernel
theorem d_Md_character_135 : decode prog_14_method_34_code 135 = .ok (.iload_n 1, 1) := by decide +kernel
theorem d_Md_character_136 : decode prog_14_method_34_code 136 = .ok (.iastore, 1) := by decide +kernel
theorem d_Md_character_137 : decode prog_14_method_34_code 137 = .ok (.aload_n 0, 1) := by decide +kernel
theorem d_Md_character_138 : decode prog_14_method_34_code 138 = .ok (.getfield 43, 3) := by decide +kernel
theorem d_Md_character_141 : decode prog_14_method_34_code 141 = .ok (.aload_n 0, 1) := by decide +kernel
theorem d_Md_character_142 : decode prog_14_method_34_code 142 = .ok (.getfield 154, 3) := by decide +kernel
theorem d_Md_character_145 : decode prog_14_method_34_code 145 = .ok (.iload_n 3, 1) := by decide +kernel
theorem d_Md_character_146 : decode prog_14_method_34_code 146 = .ok (.iastore, 1) := by decide +kernel
theorem d_Md_character_147 : decode prog_14_method_34_code 147 = .ok (.aload_n 0, 1) := by decide +kernel
theorem d_Md_character_148 : decode prog_14_method_34_code 148 = .ok (.dup, 1) := by decide +kernel
theorem d_Md_character_149 : decode prog_14_method_34_code 149 = .ok (.getfield 154, 3) := by decide +kernel
theorem d_Md_character_152 : decode prog_14_method_34_code 152 = .ok (.iconst 1, 1) := by decide +kernel
theorem d_Md_character_153 : decode prog_14_method_34_code 153 = .ok (.iadd, 1) := by decide +kernel
theorem d_Md_character_154 : decode prog_14_method_34_code 154 = .ok (.putfield 154, 3) := by decide +kernel
theorem d_Md_character_157 : decode prog_14_method_34_code 157 = .ok (.return_, 1) := by decide +kernel
def f_Md_character_54 (M3 : qM) : Nat → (Int32 → Option qM) → Int32 → Option qM
  | 0, _, _ => none
  | n + 1, K5, x4 => if x4 ≤ 0 then (K5 x4) else (q_ix x4 40 <| q_ix (M3.1 3 x4.toNatClampNeg) 40 <| if (M3.1 6 (M3.1 3 x4.toNatClampNeg).toNatClampNeg) ≤ (M3.1 0 21) then (K5 x4) else (f_Md_character_54 M3 n K5 (x4 + (-1))))
def f_Md_character (a1 : Int32) (M : qM) : Option qM := q_lt (q_cv (f_Md_renew M) fun M1 => if (M1.1 0 4) = 0 then (q_cv (f_Md_findPlace (M1.1 0 13) M1) fun M3 => f_Md_character_54 M3 1000 (fun (x10 : Int32) => q_ix x10 40 <| q_ix (M3.1 3 x10.toNatClampNeg) 40 <| q_lt (fun (x13 : Int32) (M14 : qM) => if (M14.1 0 4) = 0 then (q_ix (M14.1 0 17) 160 <| q_lt (qsI M14 11 (M14.1 0 17).toNatClampNeg a1) fun M17 => q_ix (M17.1 0 17) 160 <| q_lt (qsI M17 12 (M17.1 0 17).toNatClampNeg x13) fun M19 => q_lt (qsI M19 0 17 ((M19.1 0 17) + 1)) fun M20 => some M20) else (some M14)) fun (j21 : Int32 → qM → Option qM) => q_lt (q_cl (f_Md_create 1 0 M3) fun x22 M23 => j21 x22 M23) fun (j24 : Option qM) => if (M3.1 4 (M3.1 3 x10.toNatClampNeg).toNatClampNeg) = 1 then (q_ix (M3.1 3 x10.toNatClampNeg) 40 <| if (M3.1 6 (M3.1 3 x10.toNatClampNeg).toNatClampNeg) = (M3.1 0 21) then (j21 (M3.1 3 x10.toNatClampNeg) M3) else (j24)) else (j24)) ((M3.1 0 20) - 1)) else (some M1)) fun (j28 : Option qM) => if a1 = 32 then (q_ix ((M.1 0 13) - 1) 40 <| q_bp (f_Md_named (M.1 8 ((M.1 0 13) - 1).toNatClampNeg) 655360 M) fun x31 => if x31 = 0 then (j28) else (some M)) else (j28)
abbrev rm_Md_character : Room := { frames := 5, cells := 0, slots := 0, locals := 110 }
set_option maxRecDepth 100000 in
set_option maxHeartbeats 4000000 in
theorem c_Md_character {l : Launch} {D : va_G} {dA : Nat → ClassId} {b : Nat} (a1 : Int32)  (M : qM) (out : qM) (hf : f_Md_character a1 M = some out) : CTv l y_Md_character w_Md_character rm_Md_character D (tysX dA) (enM dA b) 38 b (fun _ => True) [qr (some 0), qi a1] M out := by
  refine qm_v (cc := prog_14_method_34_code) (nL := 4) (by decide) rfl (Nat.le_of_ble_eq_true rfl) ?_
  intro p e s m args below meth c Q hx hb hts0 hown hml hK hs hret
  have hts : ∀ w ∈ lw_g, w.before args s = true := fun w h => hts0 w (List.mem_cons_of_mem _ h)
  show QJ p l e rm_Md_character s m args below meth c (qA 38 b) b 4 0 0 Q (qWd D (enM dA b) 38 b) M 0 [(0, qr (some 0)), (1, qi a1)] []
  unfold f_Md_character at hf
  refine qj_iload_n hx hb d_Md_character_0 rfl 1 rfl ?_
  refine qj_bipush (v := 32) hx hb d_Md_character_1 (by decide) ?_
  have hf9 := q_lt_s hf; clear hf; obtain ⟨j28, ej28, hf⟩ := hf9
  have hj28 : j28 = some out → QJ p l e rm_Md_character s m args below meth c (qA 38 b) b 4 0 0 Q (qWd D (enM dA b) 38 b) M 27 [(0, qr (some 0)), (1, qi a1)] [] := by
    clear hf
    intro hf
    rw [ej28] at hf
    refine qj_aload_n hx hb d_Md_character_27 rfl 0 rfl ?_
    have hf9 := q_cv_s hf; clear hf; obtain ⟨M1, hM1, hf⟩ := hf9
    refine qc_Vv (st := []) hx hb hml hown hts hK qT_ok hs (c_Md_renew  M _ hM1) ⟨(callB_of 0 hts (q_good tw_517) rfl rfl rfl (hts _ tw_459) (hts _ tw_518) (by decide +kernel) ⟨by decide, by decide⟩), (hts _ tw_519), (hts _ tw_520)⟩ (by decide) rfl rfl rfl rfl (Nat.le_of_ble_eq_true rfl) d_Md_character_28 ?_
    refine qj_aload_n hx hb d_Md_character_31 rfl 0 rfl ?_
    refine qj_get hx hb hts hin_12 hown hK (by decide) rfl rfl 4 (by decide) (hts _ tw_446) (fun _ h => h) (qi (M1.1 0 4)) rfl d_Md_character_32 ?_
    refine qj_if_eq (tgt := 39) hx hb d_Md_character_35 (by decide) (fun hc2 => ?_) (fun hc2 => ?_)
    · replace hf := q_if_t hc2 hf
      refine qj_aload_n hx hb d_Md_character_39 rfl 0 rfl ?_
      refine qj_aload_n hx hb d_Md_character_40 rfl 0 rfl ?_
      refine qj_get hx hb hts hin_12 hown hK (by decide) rfl rfl 13 (by decide) (hts _ tw_454) (fun _ h => h) (qi (M1.1 0 13)) rfl d_Md_character_41 ?_
      have hf9 := q_cv_s hf; clear hf; obtain ⟨M3, hM3, hf⟩ := hf9
      refine qc_Vv (st := []) hx hb hml hown hts hK qT_ok hs (c_Md_findPlace (M1.1 0 13) M1 _ hM3) ⟨(callB_of 1 hts (q_good tw_504) rfl rfl rfl (hts _ tw_459) (hts _ tw_505) (by decide +kernel) ⟨by decide, by decide⟩), (hts _ tw_506), (hts _ tw_507)⟩ (by decide) rfl rfl rfl rfl (Nat.le_of_ble_eq_true rfl) d_Md_character_44 ?_
      refine qj_aload_n hx hb d_Md_character_47 rfl 0 rfl ?_
      refine qj_get hx hb hts hin_12 hown hK (by decide) rfl rfl 20 (by decide) (hts _ tw_486) (fun _ h => h) (qi (M3.1 0 20)) rfl d_Md_character_48 ?_
      refine qj_iconst (v := 1) hx hb d_Md_character_51 (by decide) ?_
      refine qj_isub hx hb d_Md_character_52 ?_
      refine qj_istore_n hx hb d_Md_character_53 rfl (by decide) rfl ?_
      have hL54 : ∀ (n : Nat) (K5 : Int32 → Option qM), (∀ (x10 : Int32), K5 x10 = some out → QJ p l e rm_Md_character s m args below meth c (qA 38 b) b 4 0 0 Q (qWd D (enM dA b) 38 b) M3 82 [(0, qr (some 0)), (1, qi a1), (2, qi x10)] []) → ∀ (x4 : Int32), f_Md_character_54 M3 n K5 x4 = some out → QJ p l e rm_Md_character s m args below meth c (qA 38 b) b 4 0 0 Q (qWd D (enM dA b) 38 b) M3 54 [(0, qr (some 0)), (1, qi a1), (2, qi x4)] [] := by
        clear hf
        intro n
        induction n with
        | zero =>
          intro K5 hK5 x4 hf
          exact absurd hf (by simp [f_Md_character_54])
        | succ n ih54 =>
          intro K5 hK5 x4 hf
          rw [f_Md_character_54] at hf
          have ih54 := ih54 K5 hK5
          refine qj_iload_n hx hb d_Md_character_54 rfl 2 rfl ?_
          refine qj_if_le (tgt := 82) hx hb d_Md_character_55 (by decide) (fun hc6 => ?_) (fun hc6 => ?_)
          · replace hf := q_if_t hc6 hf
            exact hK5 x4 hf
          · replace hf := q_if_f hc6 hf
            refine qj_aload_n hx hb d_Md_character_58 rfl 0 rfl ?_
            refine qj_get hx hb hts hin_12 hown hK (by decide) rfl rfl 10 (by decide) (hts _ tw_452) (fun _ h => h) (qr (some 6)) rfl d_Md_character_59 ?_
            refine qj_aload_n hx hb d_Md_character_62 rfl 0 rfl ?_
            refine qj_get hx hb hts hin_12 hown hK (by decide) rfl rfl 6 (by decide) (hts _ tw_448) (fun _ h => h) (qr (some 3)) rfl d_Md_character_63 ?_
            refine qj_iload_n hx hb d_Md_character_66 rfl 2 rfl ?_
            have hf9 := q_ix_s hf; clear hf; obtain ⟨hi7, hf⟩ := hf9
            refine qj_iald (t0 := 0) hx hb hK (by decide) (fun _ _ => rfl) rfl hi7 d_Md_character_67 ?_
            have hf9 := q_ix_s hf; clear hf; obtain ⟨hi8, hf⟩ := hf9
            refine qj_iald (t0 := 0) hx hb hK (by decide) (fun _ _ => rfl) rfl hi8 d_Md_character_68 ?_
            refine qj_aload_n hx hb d_Md_character_69 rfl 0 rfl ?_
            refine qj_get hx hb hts hin_12 hown hK (by decide) rfl rfl 21 (by decide) (hts _ tw_487) (fun _ h => h) (qi (M3.1 0 21)) rfl d_Md_character_70 ?_
            refine qj_icmp_le (tgt := 82) hx hb d_Md_character_73 (by decide) (fun hc9 => ?_) (fun hc9 => ?_)
            · replace hf := q_if_t hc9 hf
              exact hK5 x4 hf
            · replace hf := q_if_f hc9 hf
              refine qj_iinc (j := 2) (v := x4 + (-1)) hx hb d_Md_character_76 rfl rfl (by decide) rfl ?_
              refine qj_goto (tgt := 54) hx hb d_Md_character_79 (by decide) ?_
              refine qj_sub [1, 2, 0] rfl ?_
              exact ih54 (x4 + (-1)) hf
      refine qj_sub [1, 2, 0] rfl ?_
      refine hL54 _ _ (fun x10 hf9 => ?_) ((M3.1 0 20) - 1) hf
      clear hf; have hf := hf9; clear hf9
      refine qj_aload_n hx hb d_Md_character_82 rfl 0 rfl ?_
      refine qj_get hx hb hts hin_12 hown hK (by decide) rfl rfl 6 (by decide) (hts _ tw_448) (fun _ h => h) (qr (some 3)) rfl d_Md_character_83 ?_
      refine qj_iload_n hx hb d_Md_character_86 rfl 2 rfl ?_
      have hf9 := q_ix_s hf; clear hf; obtain ⟨hi11, hf⟩ := hf9
      refine qj_iald (t0 := 0) hx hb hK (by decide) (fun _ _ => rfl) rfl hi11 d_Md_character_87 ?_
      refine qj_istore_n hx hb d_Md_character_88 rfl (by decide) rfl ?_
      refine qj_aload_n hx hb d_Md_character_89 rfl 1 rfl ?_
      refine qj_get hx hb hts hin_12 hown hK (by decide) rfl rfl 8 (by decide) (hts _ tw_450) (fun _ h => h) (qr (some 4)) rfl d_Md_character_90 ?_
      refine qj_iload_n hx hb d_Md_character_93 rfl 0 rfl ?_
      have hf9 := q_ix_s hf; clear hf; obtain ⟨hi12, hf⟩ := hf9
      refine qj_iald (t0 := 0) hx hb hK (by decide) (fun _ _ => rfl) rfl hi12 d_Md_character_94 ?_
      refine qj_iconst (v := 1) hx hb d_Md_character_95 (by decide) ?_
      have hf9 := q_lt_s hf; clear hf; obtain ⟨j21, ej21, hf⟩ := hf9
      have hj21 : ∀ (x13 : Int32) (M14 : qM), j21 x13 M14 = some out → QJ p l e rm_Md_character s m args below meth c (qA 38 b) b 4 0 0 Q (qWd D (enM dA b) 38 b) M14 119 [(0, qr (some 0)), (1, qi a1), (3, qi x13)] [] := by
        clear hf
        intro x13 M14 hf
        rw [ej21] at hf
        refine qj_aload_n hx hb d_Md_character_119 rfl 0 rfl ?_
        refine qj_get hx hb hts hin_12 hown hK (by decide) rfl rfl 4 (by decide) (hts _ tw_446) (fun _ h => h) (qi (M14.1 0 4)) rfl d_Md_character_120 ?_
        refine qj_if_eq (tgt := 127) hx hb d_Md_character_123 (by decide) (fun hc15 => ?_) (fun hc15 => ?_)
        · replace hf := q_if_t hc15 hf
          refine qj_aload_n hx hb d_Md_character_127 rfl 0 rfl ?_
          refine qj_get hx hb hts hin_12 hown hK (by decide) rfl rfl 18 (by decide) (hts _ tw_568) (fun _ h => h) (qr (some 11)) rfl d_Md_character_128 ?_
          refine qj_aload_n hx hb d_Md_character_131 rfl 0 rfl ?_
          refine qj_get hx hb hts hin_12 hown hK (by decide) rfl rfl 17 (by decide) (hts _ tw_456) (fun _ h => h) (qi (M14.1 0 17)) rfl d_Md_character_132 ?_
          refine qj_iload_n hx hb d_Md_character_135 rfl 1 rfl ?_
          have hf9 := q_ix_s hf; clear hf; obtain ⟨hi16, hf⟩ := hf9
          have hf9 := q_lt_s hf; clear hf; obtain ⟨M17, eM17, hf⟩ := hf9
          refine qj_iast (t0 := 0) hx hb hK (by decide) (fun _ _ => rfl) rfl hi16 eM17 d_Md_character_136 ?_
          refine qj_aload_n hx hb d_Md_character_137 rfl 0 rfl ?_
          refine qj_get hx hb hts hin_12 hown hK (by decide) rfl rfl 19 (by decide) (hts _ tw_569) (fun _ h => h) (qr (some 12)) rfl d_Md_character_138 ?_
          refine qj_aload_n hx hb d_Md_character_141 rfl 0 rfl ?_
          refine qj_get hx hb hts hin_12 hown hK (by decide) rfl rfl 17 (by decide) (hts _ tw_456) (fun _ h => h) (qi (M17.1 0 17)) rfl d_Md_character_142 ?_
          refine qj_iload_n hx hb d_Md_character_145 rfl 2 rfl ?_
          have hf9 := q_ix_s hf; clear hf; obtain ⟨hi18, hf⟩ := hf9
          have hf9 := q_lt_s hf; clear hf; obtain ⟨M19, eM19, hf⟩ := hf9
          refine qj_iast (t0 := 0) hx hb hK (by decide) (fun _ _ => rfl) rfl hi18 eM19 d_Md_character_146 ?_
          refine qj_aload_n hx hb d_Md_character_147 rfl 0 rfl ?_
          refine qj_dup hx hb d_Md_character_148 ?_
          refine qj_get hx hb hts hin_12 hown hK (by decide) rfl rfl 17 (by decide) (hts _ tw_456) (fun _ h => h) (qi (M19.1 0 17)) rfl d_Md_character_149 ?_
          refine qj_iconst (v := 1) hx hb d_Md_character_152 (by decide) ?_
          refine qj_iadd hx hb d_Md_character_153 ?_
          have hf9 := q_lt_s hf; clear hf; obtain ⟨M20, eM20, hf⟩ := hf9
          refine qj_puti (ty := .int) hx hb hts hin_12 ty_12 tyok_12 nm_12 hown hK (by decide) rfl rfl 17 (by decide) (hts _ tw_456) (fun _ h => h) rfl (by decide +kernel) rfl rfl (Nat.le_of_ble_eq_true rfl) sm_17 eM20 d_Md_character_154 ?_
          exact hret _ _ _ d_Md_character_157 (Option.some.inj hf)
        · replace hf := q_if_f hc15 hf
          exact hret _ _ _ d_Md_character_126 (Option.some.inj hf)
      have hf9 := q_lt_s hf; clear hf; obtain ⟨j24, ej24, hf⟩ := hf9
      have hj24 : j24 = some out → QJ p l e rm_Md_character s m args below meth c (qA 38 b) b 4 0 0 Q (qWd D (enM dA b) 38 b) M3 112 [(0, qr (some 0)), (1, qi a1)] [] := by
        clear hf
        intro hf
        rw [ej24] at hf
        refine qj_aload_n hx hb d_Md_character_112 rfl 0 rfl ?_
        refine qj_iconst (v := 1) hx hb d_Md_character_113 (by decide) ?_
        refine qj_iconst (v := 0) hx hb d_Md_character_114 (by decide) ?_
        have hf9 := q_cl_s hf; clear hf; obtain ⟨x22, M23, hx22, hf⟩ := hf9
        refine qc_Vi (st := []) hx hb hml hown hts hK qT_ok hs (c_Md_create 1 0 M3 _ hx22) ⟨(callB_of 2 hts (q_good tw_508) rfl rfl rfl (hts _ tw_459) (hts _ tw_509) (by decide +kernel) ⟨by decide, by decide⟩), (hts _ tw_510), (hts _ tw_511)⟩ (by decide) rfl rfl rfl rfl (Nat.le_of_ble_eq_true rfl) d_Md_character_115 ?_
        refine qj_istore_n hx hb d_Md_character_118 rfl (by decide) rfl ?_
        refine qj_sub [1, 2, 0] rfl ?_
        exact hj21 x22 M23 hf
      refine qj_icmp_ne (tgt := 112) hx hb d_Md_character_96 (by decide) (fun hc25 => ?_) (fun hc25 => ?_)
      · replace hf := q_if_f hc25 hf
        refine qj_sub [1, 2] rfl ?_
        exact hj24  hf
      · replace hf := q_if_t hc25 hf
        refine qj_aload_n hx hb d_Md_character_99 rfl 1 rfl ?_
        refine qj_get hx hb hts hin_12 hown hK (by decide) rfl rfl 10 (by decide) (hts _ tw_452) (fun _ h => h) (qr (some 6)) rfl d_Md_character_100 ?_
        refine qj_iload_n hx hb d_Md_character_103 rfl 0 rfl ?_
        have hf9 := q_ix_s hf; clear hf; obtain ⟨hi26, hf⟩ := hf9
        refine qj_iald (t0 := 0) hx hb hK (by decide) (fun _ _ => rfl) rfl hi26 d_Md_character_104 ?_
        refine qj_aload_n hx hb d_Md_character_105 rfl 1 rfl ?_
        refine qj_get hx hb hts hin_12 hown hK (by decide) rfl rfl 21 (by decide) (hts _ tw_487) (fun _ h => h) (qi (M3.1 0 21)) rfl d_Md_character_106 ?_
        refine qj_icmp_eq (tgt := 119) hx hb d_Md_character_109 (by decide) (fun hc27 => ?_) (fun hc27 => ?_)
        · replace hf := q_if_t hc27 hf
          refine qj_sub [1, 2, 0] rfl ?_
          exact hj21 (M3.1 3 x10.toNatClampNeg) M3 hf
        · replace hf := q_if_f hc27 hf
          refine qj_sub [1, 2] rfl ?_
          exact hj24  hf
    · replace hf := q_if_f hc2 hf
      exact hret _ _ _ d_Md_character_38 (Option.some.inj hf)
  refine qj_icmp_ne (tgt := 27) hx hb d_Md_character_3 (by decide) (fun hc29 => ?_) (fun hc29 => ?_)
  · replace hf := q_if_f hc29 hf
    exact hj28  hf
  · replace hf := q_if_t hc29 hf
    refine qj_aload_n hx hb d_Md_character_6 rfl 0 rfl ?_
    refine qj_aload_n hx hb d_Md_character_7 rfl 0 rfl ?_
    refine qj_get hx hb hts hin_12 hown hK (by decide) rfl rfl 12 (by decide) (hts _ tw_453) (fun _ h => h) (qr (some 8)) rfl d_Md_character_8 ?_
    refine qj_aload_n hx hb d_Md_character_11 rfl 0 rfl ?_
    refine qj_get hx hb hts hin_12 hown hK (by decide) rfl rfl 13 (by decide) (hts _ tw_454) (fun _ h => h) (qi (M.1 0 13)) rfl d_Md_character_12 ?_
    refine qj_iconst (v := 1) hx hb d_Md_character_15 (by decide) ?_
    refine qj_isub hx hb d_Md_character_16 ?_
    have hf9 := q_ix_s hf; clear hf; obtain ⟨hi30, hf⟩ := hf9
    refine qj_iald (t0 := 0) hx hb hK (by decide) (fun _ _ => rfl) rfl hi30 d_Md_character_17 ?_
    refine qj_ldc (v := 655360) hx hb hown (hts _ tw_489) d_Md_character_18 ?_
    have hf9 := q_bp_s hf; clear hf; obtain ⟨x31, hx31, hf⟩ := hf9
    refine qc_Vi (st := []) hx hb hml hown hts hK qT_ok hs (c_Md_named (M.1 8 ((M.1 0 13) - 1).toNatClampNeg) 655360 M _ hx31) ⟨(callB_of 2 hts (q_good tw_466) rfl rfl rfl (hts _ tw_459) (hts _ tw_467) (by decide +kernel) ⟨by decide, by decide⟩), (hts _ tw_468), (hts _ tw_469)⟩ (by decide) rfl rfl rfl rfl (Nat.le_of_ble_eq_true rfl) d_Md_character_20 ?_
    refine qj_if_eq (tgt := 27) hx hb d_Md_character_23 (by decide) (fun hc32 => ?_) (fun hc32 => ?_)
    · replace hf := q_if_t hc32 hf
      exact hj28  hf
    · replace hf := q_if_f hc32 hf
      exact hret _ _ _ d_Md_character_26 (Option.some.inj hf)
theorem d_Md_entity_0 : decode prog_14_method_12_code 0 = .ok (.aload_n 0, 1) := by decide +kernel
theorem d_Md_entity_1 : decode prog_14_method_12_code 1 = .ok (.iload_n 1, 1) := by decide +kernel
theorem d_Md_entity_2 : decode prog_14_method_12_code 2 = .ok (.iconst 2, 1) := by decide +kernel
theorem d_Md_entity_3 : decode prog_14_method_12_code 3 = .ok (.iadd, 1) := by decide +kernel
theorem d_Md_entity_4 : decode prog_14_method_12_code 4 = .ok (.invokevirtual 157, 3) := by decide +kernel
theorem d_Md_entity_7 : decode prog_14_method_12_code 7 = .ok (.istore_n 3, 1) := by decide +kernel
theorem d_Md_entity_8 : decode prog_14_method_12_code 8 = .ok (.iload_n 2, 1) := by decide +kernel
theorem d_Md_entity_9 : decode prog_14_method_12_code 9 = .ok (.iconst (-1), 1) := by decide +kernel
theorem d_Md_entity_10 : decode prog_14_method_12_code 10 = .ok (.if_icmp .eq 8, 3) := by decide +kernel
theorem d_Md_entity_13 : decode prog_14_method_12_code 13 = .ok (.iload_n 3, 1) := by decide +kernel
theorem d_Md_entity_14 : decode prog_14_method_12_code 14 = .ok (.iconst (-1), 1) := by decide +kernel
theorem d_Md_entity_15 : decode prog_14_method_12_code 15 = .ok (.if_icmp .ne 5, 3) := by decide +kernel
theorem d_Md_entity_18 : decode prog_14_method_12_code 18 = .ok (.iconst (-1), 1) := by decide +kernel
theorem d_Md_entity_19 : decode prog_14_method_12_code 19 = .ok (.ireturn, 1) := by decide +kernel
theorem d_Md_entity_20 : decode prog_14_method_12_code 20 = .ok (.iload_n 3, 1) := by decide +kernel
theorem d_Md_entity_21 : decode prog_14_method_12_code 21 = .ok (.bipush 59, 2) := by decide +kernel
theorem d_Md_entity_23 : decode prog_14_method_12_code 23 = .ok (.if_icmp .ne 35, 3) := by decide +kernel
theorem d_Md_entity_26 : decode prog_14_method_12_code 26 = .ok (.aload_n 0, 1) := by decide +kernel
theorem d_Md_entity_27 : decode prog_14_method_12_code 27 = .ok (.iload_n 2, 1) := by decide +kernel
theorem d_Md_entity_28 : decode prog_14_method_12_code 28 = .ok (.bipush 108, 2) := by decide +kernel
theorem d_Md_entity_30 : decode prog_14_method_12_code 30 = .ok (.if_icmp .ne 8, 3) := by decide +kernel
theorem d_Md_entity_33 : decode prog_14_method_12_code 33 = .ok (.bipush 60, 2) := by decide +kernel
theorem d_Md_entity_35 : decode prog_14_method_12_code 35 = .ok (.goto 16, 3) := by decide +kernel
theorem d_Md_entity_38 : decode prog_14_method_12_code 38 = .ok (.iload_n 2, 1) := by decide +kernel
theorem d_Md_entity_39 : decode prog_14_method_12_code 39 = .ok (.bipush 103, 2) := by decide +kernel
theorem d_Md_entity_41 : decode prog_14_method_12_code 41 = .ok (.if_icmp .ne 8, 3) := by decide +kernel
theorem d_Md_entity_44 : decode prog_14_method_12_code 44 = .ok (.bipush 62, 2) := by decide +kernel
theorem d_Md_entity_46 : decode prog_14_method_12_code 46 = .ok (.goto 5, 3) := by decide +kernel
theorem d_Md_entity_49 : decode prog_14_method_12_code 49 = .ok (.bipush 38, 2) := by decide +kernel
theorem d_Md_entity_51 : decode prog_14_method_12_code 51 = .ok (.invokevirtual 172, 3) := by decide +kernel
theorem d_Md_entity_54 : decode prog_14_method_12_code 54 = .ok (.iload_n 1, 1) := by decide +kernel
theorem d_Md_entity_55 : decode prog_14_method_12_code 55 = .ok (.iconst 3, 1) := by decide +kernel
theorem d_Md_entity_56 : decode prog_14_method_12_code 56 = .ok (.iadd, 1) := by decide +kernel
theorem d_Md_entity_57 : decode prog_14_method_12_code 57 = .ok (.ireturn, 1) := by decide +kernel
theorem d_Md_entity_58 : decode prog_14_method_12_code 58 = .ok (.aload_n 0, 1) := by decide +kernel
theorem d_Md_entity_59 : decode prog_14_method_12_code 59 = .ok (.bipush 38, 2) := by decide +kernel
theorem d_Md_entity_61 : decode prog_14_method_12_code 61 = .ok (.invokevirtual 172, 3) := by decide +kernel
theorem d_Md_entity_64 : decode prog_14_method_12_code 64 = .ok (.aload_n 0, 1) := by decide +kernel
theorem d_Md_entity_65 : decode prog_14_method_12_code 65 = .ok (.getfield 129, 3) := by decide +kernel
theorem d_Md_entity_68 : decode prog_14_method_12_code 68 = .ok (.ifCond .ne 8, 3) := by decide +kernel
theorem d_Md_entity_71 : decode prog_14_method_12_code 71 = .ok (.aload_n 0, 1) := by decide +kernel
theorem d_Md_entity_72 : decode prog_14_method_12_code 72 = .ok (.iload_n 2, 1) := by decide +kernel
theorem d_Md_entity_73 : decode prog_14_method_12_code 73 = .ok (.invokevirtual 172, 3) := by decide +kernel
theorem d_Md_entity_76 : decode prog_14_method_12_code 76 = .ok (.iload_n 1, 1) := by decide +kernel
theorem d_Md_entity_77 : decode prog_14_method_12_code 77 = .ok (.iconst 2, 1) := by decide +kernel
theorem d_Md_entity_78 : decode prog_14_method_12_code 78 = .ok (.iadd, 1) := by decide +kernel
theorem d_Md_entity_79 : decode prog_14_method_12_code 79 = .ok (.ireturn, 1) := by decide +kernel
def f_Md_entity (a1 : Int32) (a2 : Int32) (M : qM) : Option (Int32 × qM) := q_bp (f_Md_peek (a1 + 2) M) fun x1 => if a2 = (-1) then (some ((-1), M)) else (if x1 = (-1) then (some ((-1), M)) else (if x1 = 59 then (q_lt (fun (x8 : Int32) => q_cv (f_Md_character x8 M) fun M9 => some (a1 + 3, M9)) fun (j10 : Int32 → Option (Int32 × qM)) => if a2 = 108 then (j10 60) else (if a2 = 103 then (j10 62) else (j10 38))) else (q_cv (f_Md_character 38 M) fun M5 => if (M5.1 0 4) = 0 then (q_cv (f_Md_character a2 M5) fun M7 => some (a1 + 2, M7)) else (some (a1 + 2, M5)))))
abbrev rm_Md_entity : Room := { frames := 6, cells := 0, slots := 0, locals := 133 }
set_option maxRecDepth 100000 in
set_option maxHeartbeats 4000000 in
theorem c_Md_entity {l : Launch} {D : va_G} {dA : Nat → ClassId} {b : Nat} (a1 : Int32) (a2 : Int32)  (M : qM) (out : Int32 × qM) (hf : f_Md_entity a1 a2 M = some out) : CTi l y_Md_entity w_Md_entity rm_Md_entity D (tysX dA) (enM dA b) 38 b (fun _ => True) [qr (some 0), qi a1, qi a2] M out := by
  refine qm_i (cc := prog_14_method_12_code) (nL := 4) (by decide) rfl (Nat.le_of_ble_eq_true rfl) ?_
  intro p e s m args below meth c Q hx hb hts0 hown hml hK hs hret
  have hts : ∀ w ∈ lw_g, w.before args s = true := fun w h => hts0 w (List.mem_cons_of_mem _ h)
  show QJ p l e rm_Md_entity s m args below meth c (qA 38 b) b 4 0 0 Q (qWd D (enM dA b) 38 b) M 0 [(0, qr (some 0)), (1, qi a1), (2, qi a2)] []
  unfold f_Md_entity at hf
  refine qj_aload_n hx hb d_Md_entity_0 rfl 0 rfl ?_
  refine qj_iload_n hx hb d_Md_entity_1 rfl 1 rfl ?_
  refine qj_iconst (v := 2) hx hb d_Md_entity_2 (by decide) ?_
  refine qj_iadd hx hb d_Md_entity_3 ?_
  have hf9 := q_bp_s hf; clear hf; obtain ⟨x1, hx1, hf⟩ := hf9
  refine qc_Vi (st := []) hx hb hml hown hts hK qT_ok hs (c_Md_peek (a1 + 2) M _ hx1) ⟨(callB_of 1 hts (q_good tw_549) rfl rfl rfl (hts _ tw_459) (hts _ tw_550) (by decide +kernel) ⟨by decide, by decide⟩), (hts _ tw_551), (hts _ tw_552)⟩ (by decide) rfl rfl rfl rfl (Nat.le_of_ble_eq_true rfl) d_Md_entity_4 ?_
  refine qj_istore_n hx hb d_Md_entity_7 rfl (by decide) rfl ?_
  refine qj_iload_n hx hb d_Md_entity_8 rfl 3 rfl ?_
  refine qj_iconst (v := (-1)) hx hb d_Md_entity_9 (by decide) ?_
  refine qj_icmp_eq (tgt := 18) hx hb d_Md_entity_10 (by decide) (fun hc2 => ?_) (fun hc2 => ?_)
  · replace hf := q_if_t hc2 hf
    refine qj_iconst (v := (-1)) hx hb d_Md_entity_18 (by decide) ?_
    exact hret _ _ _ _ d_Md_entity_19 (Option.some.inj hf)
  · replace hf := q_if_f hc2 hf
    refine qj_iload_n hx hb d_Md_entity_13 rfl 0 rfl ?_
    refine qj_iconst (v := (-1)) hx hb d_Md_entity_14 (by decide) ?_
    refine qj_icmp_ne (tgt := 20) hx hb d_Md_entity_15 (by decide) (fun hc3 => ?_) (fun hc3 => ?_)
    · replace hf := q_if_f hc3 hf
      refine qj_iload_n hx hb d_Md_entity_20 rfl 0 rfl ?_
      refine qj_bipush (v := 59) hx hb d_Md_entity_21 (by decide) ?_
      refine qj_icmp_ne (tgt := 58) hx hb d_Md_entity_23 (by decide) (fun hc4 => ?_) (fun hc4 => ?_)
      · replace hf := q_if_f hc4 hf
        refine qj_aload_n hx hb d_Md_entity_58 rfl 1 rfl ?_
        refine qj_bipush (v := 38) hx hb d_Md_entity_59 (by decide) ?_
        have hf9 := q_cv_s hf; clear hf; obtain ⟨M5, hM5, hf⟩ := hf9
        refine qc_Vv (st := []) hx hb hml hown hts hK qT_ok hs (c_Md_character 38 M _ hM5) ⟨(callB_of 1 hts (q_good tw_570) rfl rfl rfl (hts _ tw_459) (hts _ tw_571) (by decide +kernel) ⟨by decide, by decide⟩), (hts _ tw_572), (hts _ tw_573)⟩ (by decide) rfl rfl rfl rfl (Nat.le_of_ble_eq_true rfl) d_Md_entity_61 ?_
        refine qj_aload_n hx hb d_Md_entity_64 rfl 1 rfl ?_
        refine qj_get hx hb hts hin_12 hown hK (by decide) rfl rfl 4 (by decide) (hts _ tw_446) (fun _ h => h) (qi (M5.1 0 4)) rfl d_Md_entity_65 ?_
        refine qj_if_ne (tgt := 76) hx hb d_Md_entity_68 (by decide) (fun hc6 => ?_) (fun hc6 => ?_)
        · replace hf := q_if_f hc6 hf
          refine qj_iload_n hx hb d_Md_entity_76 rfl 2 rfl ?_
          refine qj_iconst (v := 2) hx hb d_Md_entity_77 (by decide) ?_
          refine qj_iadd hx hb d_Md_entity_78 ?_
          exact hret _ _ _ _ d_Md_entity_79 (Option.some.inj hf)
        · replace hf := q_if_t hc6 hf
          refine qj_aload_n hx hb d_Md_entity_71 rfl 1 rfl ?_
          refine qj_iload_n hx hb d_Md_entity_72 rfl 3 rfl ?_
          have hf9 := q_cv_s hf; clear hf; obtain ⟨M7, hM7, hf⟩ := hf9
          refine qc_Vv (st := []) hx hb hml hown hts hK qT_ok hs (c_Md_character a2 M5 _ hM7) ⟨(callB_of 1 hts (q_good tw_570) rfl rfl rfl (hts _ tw_459) (hts _ tw_571) (by decide +kernel) ⟨by decide, by decide⟩), (hts _ tw_572), (hts _ tw_573)⟩ (by decide) rfl rfl rfl rfl (Nat.le_of_ble_eq_true rfl) d_Md_entity_73 ?_
          refine qj_iload_n hx hb d_Md_entity_76 rfl 2 rfl ?_
          refine qj_iconst (v := 2) hx hb d_Md_entity_77 (by decide) ?_
          refine qj_iadd hx hb d_Md_entity_78 ?_
          exact hret _ _ _ _ d_Md_entity_79 (Option.some.inj hf)
      · replace hf := q_if_t hc4 hf
        refine qj_aload_n hx hb d_Md_entity_26 rfl 1 rfl ?_
        refine qj_iload_n hx hb d_Md_entity_27 rfl 3 rfl ?_
        refine qj_bipush (v := 108) hx hb d_Md_entity_28 (by decide) ?_
        have hf9 := q_lt_s hf; clear hf; obtain ⟨j10, ej10, hf⟩ := hf9
        have hj10 : ∀ (x8 : Int32), j10 x8 = some out → QJ p l e rm_Md_entity s m args below meth c (qA 38 b) b 4 0 0 Q (qWd D (enM dA b) 38 b) M 51 [(1, qi a1)] [qi x8, qr (some 0)] := by
          clear hf
          intro x8 hf
          rw [ej10] at hf
          have hf9 := q_cv_s hf; clear hf; obtain ⟨M9, hM9, hf⟩ := hf9
          refine qc_Vv (st := []) hx hb hml hown hts hK qT_ok hs (c_Md_character x8 M _ hM9) ⟨(callB_of 1 hts (q_good tw_570) rfl rfl rfl (hts _ tw_459) (hts _ tw_571) (by decide +kernel) ⟨by decide, by decide⟩), (hts _ tw_572), (hts _ tw_573)⟩ (by decide) rfl rfl rfl rfl (Nat.le_of_ble_eq_true rfl) d_Md_entity_51 ?_
          refine qj_iload_n hx hb d_Md_entity_54 rfl 0 rfl ?_
          refine qj_iconst (v := 3) hx hb d_Md_entity_55 (by decide) ?_
          refine qj_iadd hx hb d_Md_entity_56 ?_
          exact hret _ _ _ _ d_Md_entity_57 (Option.some.inj hf)
        refine qj_icmp_ne (tgt := 38) hx hb d_Md_entity_30 (by decide) (fun hc11 => ?_) (fun hc11 => ?_)
        · replace hf := q_if_f hc11 hf
          refine qj_iload_n hx hb d_Md_entity_38 rfl 3 rfl ?_
          refine qj_bipush (v := 103) hx hb d_Md_entity_39 (by decide) ?_
          refine qj_icmp_ne (tgt := 49) hx hb d_Md_entity_41 (by decide) (fun hc12 => ?_) (fun hc12 => ?_)
          · replace hf := q_if_f hc12 hf
            refine qj_bipush (v := 38) hx hb d_Md_entity_49 (by decide) ?_
            refine qj_sub [2] rfl ?_
            exact hj10 38 hf
          · replace hf := q_if_t hc12 hf
            refine qj_bipush (v := 62) hx hb d_Md_entity_44 (by decide) ?_
            refine qj_goto (tgt := 51) hx hb d_Md_entity_46 (by decide) ?_
            refine qj_sub [2] rfl ?_
            exact hj10 62 hf
        · replace hf := q_if_t hc11 hf
          refine qj_bipush (v := 60) hx hb d_Md_entity_33 (by decide) ?_
          refine qj_goto (tgt := 51) hx hb d_Md_entity_35 (by decide) ?_
          refine qj_sub [2] rfl ?_
          exact hj10 60 hf
    · replace hf := q_if_t hc3 hf
      refine qj_iconst (v := (-1)) hx hb d_Md_entity_18 (by decide) ?_
      exact hret _ _ _ _ d_Md_entity_19 (Option.some.inj hf)
theorem d_Md_read_0 : decode prog_14_method_10_code 0 = .ok (.aload_n 0, 1) := by decide +kernel
theorem d_Md_read_1 : decode prog_14_method_10_code 1 = .ok (.invokevirtual 122, 3) := by decide +kernel
theorem d_Md_read_4 : decode prog_14_method_10_code 4 = .ok (.iconst 0, 1) := by decide +kernel
theorem d_Md_read_5 : decode prog_14_method_10_code 5 = .ok (.istore_n 1, 1) := by decide +kernel
theorem d_Md_read_6 : decode prog_14_method_10_code 6 = .ok (.iload_n 1, 1) := by decide +kernel
theorem d_Md_read_7 : decode prog_14_method_10_code 7 = .ok (.ifCond .lt 123, 3) := by decide +kernel
theorem d_Md_read_10 : decode prog_14_method_10_code 10 = .ok (.iload_n 1, 1) := by decide +kernel
theorem d_Md_read_11 : decode prog_14_method_10_code 11 = .ok (.aload_n 0, 1) := by decide +kernel
theorem d_Md_read_12 : decode prog_14_method_10_code 12 = .ok (.getfield 125, 3) := by decide +kernel
theorem d_Md_read_15 : decode prog_14_method_10_code 15 = .ok (.if_icmp .ge 115, 3) := by decide +kernel
theorem d_Md_read_18 : decode prog_14_method_10_code 18 = .ok (.aload_n 0, 1) := by decide +kernel
theorem d_Md_read_19 : decode prog_14_method_10_code 19 = .ok (.getfield 129, 3) := by decide +kernel
theorem d_Md_read_22 : decode prog_14_method_10_code 22 = .ok (.ifCond .ne 108, 3) := by decide +kernel
theorem d_Md_read_25 : decode prog_14_method_10_code 25 = .ok (.aload_n 0, 1) := by decide +kernel
theorem d_Md_read_26 : decode prog_14_method_10_code 26 = .ok (.getfield 7, 3) := by decide +kernel
theorem d_Md_read_29 : decode prog_14_method_10_code 29 = .ok (.iload_n 1, 1) := by decide +kernel
theorem d_Md_read_30 : decode prog_14_method_10_code 30 = .ok (.iaload, 1) := by decide +kernel
theorem d_Md_read_31 : decode prog_14_method_10_code 31 = .ok (.istore_n 2, 1) := by decide +kernel
theorem d_Md_read_32 : decode prog_14_method_10_code 32 = .ok (.aload_n 0, 1) := by decide +kernel
theorem d_Md_read_33 : decode prog_14_method_10_code 33 = .ok (.iload_n 1, 1) := by decide +kernel
theorem d_Md_read_34 : decode prog_14_method_10_code 34 = .ok (.iconst 1, 1) := by decide +kernel
theorem d_Md_read_35 : decode prog_14_method_10_code 35 = .ok (.iadd, 1) := by decide +kernel
theorem d_Md_read_36 : decode prog_14_method_10_code 36 = .ok (.invokevirtual 157, 3) := by decide +kernel
theorem d_Md_read_39 : decode prog_14_method_10_code 39 = .ok (.istore_n 3, 1) := by decide +kernel
theorem d_Md_read_40 : decode prog_14_method_10_code 40 = .ok (.iload_n 2, 1) := by decide +kernel
theorem d_Md_read_41 : decode prog_14_method_10_code 41 = .ok (.bipush 60, 2) := by decide +kernel
theorem d_Md_read_43 : decode prog_14_method_10_code 43 = .ok (.if_icmp .ne 37, 3) := by decide +kernel
theorem d_Md_read_46 : decode prog_14_method_10_code 46 = .ok (.iload_n 3, 1) := by decide +kernel
theorem d_Md_read_47 : decode prog_14_method_10_code 47 = .ok (.bipush 47, 2) := by decide +kernel
theorem d_Md_read_49 : decode prog_14_method_10_code 49 = .ok (.if_icmp .eq 21, 3) := by decide +kernel
theorem d_Md_read_52 : decode prog_14_method_10_code 52 = .ok (.iload_n 3, 1) := by decide +kernel
theorem d_Md_read_53 : decode prog_14_method_10_code 53 = .ok (.bipush 33, 2) := by decide +kernel
theorem d_Md_read_55 : decode prog_14_method_10_code 55 = .ok (.if_icmp .eq 15, 3) := by decide +kernel
theorem d_Md_read_58 : decode prog_14_method_10_code 58 = .ok (.iload_n 3, 1) := by decide +kernel
theorem d_Md_read_59 : decode prog_14_method_10_code 59 = .ok (.iconst (-1), 1) := by decide +kernel
theorem d_Md_read_60 : decode prog_14_method_10_code 60 = .ok (.if_icmp .eq 10, 3) := by decide +kernel
theorem d_Md_read_63 : decode prog_14_method_10_code 63 = .ok (.iload_n 3, 1) := by decide +kernel
theorem d_Md_read_64 : decode prog_14_method_10_code 64 = .ok (.invokestatic 161, 3) := by decide +kernel
theorem d_Md_read_67 : decode prog_14_method_10_code 67 = .ok (.ifCond .eq 13, 3) := by decide +kernel
theorem d_Md_read_70 : decode prog_14_method_10_code 70 = .ok (.aload_n 0, 1) := by decide +kernel
theorem d_Md_read_71 : decode prog_14_method_10_code 71 = .ok (.iload_n 1, 1) := by decide +kernel
theorem d_Md_read_72 : decode prog_14_method_10_code 72 = .ok (.iload_n 3, 1) := by decide +kernel
theorem d_Md_read_73 : decode prog_14_method_10_code 73 = .ok (.invokevirtual 165, 3) := by decide +kernel
theorem d_Md_read_76 : decode prog_14_method_10_code 76 = .ok (.istore_n 1, 1) := by decide +kernel
theorem d_Md_read_77 : decode prog_14_method_10_code 77 = .ok (.goto 50, 3) := by decide +kernel
theorem d_Md_read_80 : decode prog_14_method_10_code 80 = .ok (.iload_n 2, 1) := by decide +kernel
theorem d_Md_read_81 : decode prog_14_method_10_code 81 = .ok (.bipush 38, 2) := by decide +kernel
theorem d_Md_read_83 : decode prog_14_method_10_code 83 = .ok (.if_icmp .ne 36, 3) := by decide +kernel
theorem d_Md_read_86 : decode prog_14_method_10_code 86 = .ok (.iload_n 3, 1) := by decide +kernel
theorem d_Md_read_87 : decode prog_14_method_10_code 87 = .ok (.bipush 108, 2) := by decide +kernel
theorem d_Md_read_89 : decode prog_14_method_10_code 89 = .ok (.if_icmp .eq 20, 3) := by decide +kernel
theorem d_Md_read_92 : decode prog_14_method_10_code 92 = .ok (.iload_n 3, 1) := by decide +kernel
theorem d_Md_read_93 : decode prog_14_method_10_code 93 = .ok (.bipush 103, 2) := by decide +kernel
theorem d_Md_read_95 : decode prog_14_method_10_code 95 = .ok (.if_icmp .eq 14, 3) := by decide +kernel
theorem d_Md_read_98 : decode prog_14_method_10_code 98 = .ok (.iload_n 3, 1) := by decide +kernel
theorem d_Md_read_99 : decode prog_14_method_10_code 99 = .ok (.bipush 97, 2) := by decide +kernel
theorem d_Md_read_101 : decode prog_14_method_10_code 101 = .ok (.if_icmp .eq 8, 3) := by decide +kernel
theorem d_Md_read_104 : decode prog_14_method_10_code 104 = .ok (.iload_n 3, 1) := by decide +kernel
theorem d_Md_read_105 : decode prog_14_method_10_code 105 = .ok (.iconst (-1), 1) := by decide +kernel
theorem d_Md_read_106 : decode prog_14_method_10_code 106 = .ok (.if_icmp .ne 13, 3) := by decide +kernel
theorem d_Md_read_109 : decode prog_14_method_10_code 109 = .ok (.aload_n 0, 1) := by decide +kernel
theorem d_Md_read_110 : decode prog_14_method_10_code 110 = .ok (.iload_n 1, 1) := by decide +kernel
theorem d_Md_read_111 : decode prog_14_method_10_code 111 = .ok (.iload_n 3, 1) := by decide +kernel
theorem d_Md_read_112 : decode prog_14_method_10_code 112 = .ok (.invokevirtual 169, 3) := by decide +kernel
theorem d_Md_read_115 : decode prog_14_method_10_code 115 = .ok (.istore_n 1, 1) := by decide +kernel
theorem d_Md_read_116 : decode prog_14_method_10_code 116 = .ok (.goto 11, 3) := by decide +kernel
theorem d_Md_read_119 : decode prog_14_method_10_code 119 = .ok (.aload_n 0, 1) := by decide +kernel
theorem d_Md_read_120 : decode prog_14_method_10_code 120 = .ok (.iload_n 2, 1) := by decide +kernel
theorem d_Md_read_121 : decode prog_14_method_10_code 121 = .ok (.invokevirtual 172, 3) := by decide +kernel
theorem d_Md_read_124 : decode prog_14_method_10_code 124 = .ok (.iinc 1 1, 3) := by decide +kernel
theorem d_Md_read_127 : decode prog_14_method_10_code 127 = .ok (.goto (-121), 3) := by decide +kernel
theorem d_Md_read_130 : decode prog_14_method_10_code 130 = .ok (.return_, 1) := by decide +kernel
def f_Md_read_6  : Nat → (qM → Option qM) → Int32 → qM → Option qM
  | 0, _, _, _ => none
  | n + 1, K4, x2, M3 => if x2 < 0 then (K4 M3) else (if (M3.1 0 0) ≤ x2 then (K4 M3) else (if (M3.1 0 4) = 0 then (q_ix x2 160 <| q_bp (f_Md_peek (x2 + 1) M3) fun x9 => q_lt (q_lt (q_cv (f_Md_character (M3.1 1 x2.toNatClampNeg) M3) fun M10 => f_Md_read_6 n K4 (x2 + 1) M10) fun (j11 : Option qM) => if (M3.1 1 x2.toNatClampNeg) = 38 then (q_lt (q_cl (f_Md_entity x2 x9 M3) fun x13 M14 => f_Md_read_6 n K4 x13 M14) fun (j15 : Option qM) => if x9 = 108 then (j15) else (if x9 = 103 then (j15) else (if x9 = 97 then (j15) else (if x9 = (-1) then (j15) else (j11))))) else (j11)) fun (j20 : Option qM) => if (M3.1 1 x2.toNatClampNeg) = 60 then (q_lt (q_cl (f_Md_tag x2 x9 M3) fun x22 M23 => f_Md_read_6 n K4 x22 M23) fun (j24 : Option qM) => if x9 = 47 then (j24) else (if x9 = 33 then (j24) else (if x9 = (-1) then (j24) else (q_bp (f_Md_small x9 M3) fun x28 => if x28 = 0 then (j20) else (j24))))) else (j20)) else (K4 M3)))
def f_Md_read  (M : qM) : Option qM := q_cv (f_Md_reset M) fun M1 => f_Md_read_6 1000 (fun (M30 : qM) => some M30) 0 M1
abbrev rm_Md_read : Room := { frames := 8, cells := 0, slots := 0, locals := 189 }
set_option maxRecDepth 100000 in
set_option maxHeartbeats 4000000 in
theorem c_Md_read {l : Launch} {D : va_G} {dA : Nat → ClassId} {b : Nat}   (M : qM) (out : qM) (hf : f_Md_read M = some out) : CTv l y_Md_read w_Md_read rm_Md_read D (tysX dA) (enM dA b) 38 b (fun _ => True) [qr (some 0)] M out := by
  refine qm_v (cc := prog_14_method_10_code) (nL := 4) (by decide) rfl (Nat.le_of_ble_eq_true rfl) ?_
  intro p e s m args below meth c Q hx hb hts0 hown hml hK hs hret
  have hts : ∀ w ∈ lw_g, w.before args s = true := fun w h => hts0 w (List.mem_cons_of_mem _ h)
  show QJ p l e rm_Md_read s m args below meth c (qA 38 b) b 4 0 0 Q (qWd D (enM dA b) 38 b) M 0 [(0, qr (some 0))] []
  unfold f_Md_read at hf
  refine qj_aload_n hx hb d_Md_read_0 rfl 0 rfl ?_
  have hf9 := q_cv_s hf; clear hf; obtain ⟨M1, hM1, hf⟩ := hf9
  refine qc_Vv (st := []) hx hb hml hown hts hK qT_ok hs (c_Md_reset  M _ hM1) ⟨(callB_of 0 hts (q_good tw_574) rfl rfl rfl (hts _ tw_459) (hts _ tw_575) (by decide +kernel) ⟨by decide, by decide⟩), (hts _ tw_576), (hts _ tw_577)⟩ (by decide) rfl rfl rfl rfl (Nat.le_of_ble_eq_true rfl) d_Md_read_1 ?_
  refine qj_iconst (v := 0) hx hb d_Md_read_4 (by decide) ?_
  refine qj_istore_n hx hb d_Md_read_5 rfl (by decide) rfl ?_
  have hL6 : ∀ (n : Nat) (K4 : qM → Option qM), (∀ (M30 : qM), K4 M30 = some out → QJ p l e rm_Md_read s m args below meth c (qA 38 b) b 4 0 0 Q (qWd D (enM dA b) 38 b) M30 130 [] []) → ∀ (x2 : Int32) (M3 : qM), f_Md_read_6 n K4 x2 M3 = some out → QJ p l e rm_Md_read s m args below meth c (qA 38 b) b 4 0 0 Q (qWd D (enM dA b) 38 b) M3 6 [(0, qr (some 0)), (1, qi x2)] [] := by
    clear hf
    intro n
    induction n with
    | zero =>
      intro K4 hK4 x2 M3 hf
      exact absurd hf (by simp [f_Md_read_6])
    | succ n ih6 =>
      intro K4 hK4 x2 M3 hf
      rw [f_Md_read_6] at hf
      have ih6 := ih6 K4 hK4
      refine qj_iload_n hx hb d_Md_read_6 rfl 1 rfl ?_
      refine qj_if_lt (tgt := 130) hx hb d_Md_read_7 (by decide) (fun hc5 => ?_) (fun hc5 => ?_)
      · replace hf := q_if_t hc5 hf
        refine qj_sub [] rfl ?_
        exact hK4 M3 hf
      · replace hf := q_if_f hc5 hf
        refine qj_iload_n hx hb d_Md_read_10 rfl 1 rfl ?_
        refine qj_aload_n hx hb d_Md_read_11 rfl 0 rfl ?_
        refine qj_get hx hb hts hin_12 hown hK (by decide) rfl rfl 0 (by decide) (hts _ tw_457) (fun _ h => h) (qi (M3.1 0 0)) rfl d_Md_read_12 ?_
        refine qj_icmp_ge (tgt := 130) hx hb d_Md_read_15 (by decide) (fun hc6 => ?_) (fun hc6 => ?_)
        · replace hf := q_if_t hc6 hf
          refine qj_sub [] rfl ?_
          exact hK4 M3 hf
        · replace hf := q_if_f hc6 hf
          refine qj_aload_n hx hb d_Md_read_18 rfl 0 rfl ?_
          refine qj_get hx hb hts hin_12 hown hK (by decide) rfl rfl 4 (by decide) (hts _ tw_446) (fun _ h => h) (qi (M3.1 0 4)) rfl d_Md_read_19 ?_
          refine qj_if_ne (tgt := 130) hx hb d_Md_read_22 (by decide) (fun hc7 => ?_) (fun hc7 => ?_)
          · replace hf := q_if_f hc7 hf
            refine qj_sub [] rfl ?_
            exact hK4 M3 hf
          · replace hf := q_if_t hc7 hf
            refine qj_aload_n hx hb d_Md_read_25 rfl 0 rfl ?_
            refine qj_get hx hb hts hin_12 hown hK (by decide) rfl rfl 1 (by decide) (hts _ tw_458) (fun _ h => h) (qr (some 1)) rfl d_Md_read_26 ?_
            refine qj_iload_n hx hb d_Md_read_29 rfl 1 rfl ?_
            have hf9 := q_ix_s hf; clear hf; obtain ⟨hi8, hf⟩ := hf9
            refine qj_iald (t0 := 0) hx hb hK (by decide) (fun _ _ => rfl) rfl hi8 d_Md_read_30 ?_
            refine qj_istore_n hx hb d_Md_read_31 rfl (by decide) rfl ?_
            refine qj_aload_n hx hb d_Md_read_32 rfl 1 rfl ?_
            refine qj_iload_n hx hb d_Md_read_33 rfl 2 rfl ?_
            refine qj_iconst (v := 1) hx hb d_Md_read_34 (by decide) ?_
            refine qj_iadd hx hb d_Md_read_35 ?_
            have hf9 := q_bp_s hf; clear hf; obtain ⟨x9, hx9, hf⟩ := hf9
            refine qc_Vi (st := []) hx hb hml hown hts hK qT_ok hs (c_Md_peek (x2 + 1) M3 _ hx9) ⟨(callB_of 1 hts (q_good tw_549) rfl rfl rfl (hts _ tw_459) (hts _ tw_550) (by decide +kernel) ⟨by decide, by decide⟩), (hts _ tw_551), (hts _ tw_552)⟩ (by decide) rfl rfl rfl rfl (Nat.le_of_ble_eq_true rfl) d_Md_read_36 ?_
            refine qj_istore_n hx hb d_Md_read_39 rfl (by decide) rfl ?_
            refine qj_iload_n hx hb d_Md_read_40 rfl 1 rfl ?_
            refine qj_bipush (v := 60) hx hb d_Md_read_41 (by decide) ?_
            have hf9 := q_lt_s hf; clear hf; obtain ⟨j20, ej20, hf⟩ := hf9
            have hj20 : j20 = some out → QJ p l e rm_Md_read s m args below meth c (qA 38 b) b 4 0 0 Q (qWd D (enM dA b) 38 b) M3 80 [(0, qr (some 0)), (1, qi x2), (2, qi (M3.1 1 x2.toNatClampNeg)), (3, qi x9)] [] := by
              clear hf
              intro hf
              rw [ej20] at hf
              refine qj_iload_n hx hb d_Md_read_80 rfl 2 rfl ?_
              refine qj_bipush (v := 38) hx hb d_Md_read_81 (by decide) ?_
              have hf9 := q_lt_s hf; clear hf; obtain ⟨j11, ej11, hf⟩ := hf9
              have hj11 : j11 = some out → QJ p l e rm_Md_read s m args below meth c (qA 38 b) b 4 0 0 Q (qWd D (enM dA b) 38 b) M3 119 [(0, qr (some 0)), (1, qi x2), (2, qi (M3.1 1 x2.toNatClampNeg))] [] := by
                clear hf
                intro hf
                rw [ej11] at hf
                refine qj_aload_n hx hb d_Md_read_119 rfl 0 rfl ?_
                refine qj_iload_n hx hb d_Md_read_120 rfl 2 rfl ?_
                have hf9 := q_cv_s hf; clear hf; obtain ⟨M10, hM10, hf⟩ := hf9
                refine qc_Vv (st := []) hx hb hml hown hts hK qT_ok hs (c_Md_character (M3.1 1 x2.toNatClampNeg) M3 _ hM10) ⟨(callB_of 1 hts (q_good tw_570) rfl rfl rfl (hts _ tw_459) (hts _ tw_571) (by decide +kernel) ⟨by decide, by decide⟩), (hts _ tw_572), (hts _ tw_573)⟩ (by decide) rfl rfl rfl rfl (Nat.le_of_ble_eq_true rfl) d_Md_read_121 ?_
                refine qj_iinc (j := 1) (v := x2 + 1) hx hb d_Md_read_124 rfl rfl (by decide) rfl ?_
                refine qj_goto (tgt := 6) hx hb d_Md_read_127 (by decide) ?_
                refine qj_sub [1, 0] rfl ?_
                exact ih6 (x2 + 1) M10 hf
              refine qj_icmp_ne (tgt := 119) hx hb d_Md_read_83 (by decide) (fun hc12 => ?_) (fun hc12 => ?_)
              · replace hf := q_if_f hc12 hf
                refine qj_sub [0, 1, 2] rfl ?_
                exact hj11  hf
              · replace hf := q_if_t hc12 hf
                refine qj_iload_n hx hb d_Md_read_86 rfl 3 rfl ?_
                refine qj_bipush (v := 108) hx hb d_Md_read_87 (by decide) ?_
                have hf9 := q_lt_s hf; clear hf; obtain ⟨j15, ej15, hf⟩ := hf9
                have hj15 : j15 = some out → QJ p l e rm_Md_read s m args below meth c (qA 38 b) b 4 0 0 Q (qWd D (enM dA b) 38 b) M3 109 [(0, qr (some 0)), (1, qi x2), (3, qi x9)] [] := by
                  clear hf
                  intro hf
                  rw [ej15] at hf
                  refine qj_aload_n hx hb d_Md_read_109 rfl 0 rfl ?_
                  refine qj_iload_n hx hb d_Md_read_110 rfl 1 rfl ?_
                  refine qj_iload_n hx hb d_Md_read_111 rfl 2 rfl ?_
                  have hf9 := q_cl_s hf; clear hf; obtain ⟨x13, M14, hx13, hf⟩ := hf9
                  refine qc_Vi (st := []) hx hb hml hown hts hK qT_ok hs (c_Md_entity x2 x9 M3 _ hx13) ⟨(callB_of 2 hts (q_good tw_578) rfl rfl rfl (hts _ tw_459) (hts _ tw_579) (by decide +kernel) ⟨by decide, by decide⟩), (hts _ tw_580), (hts _ tw_581)⟩ (by decide) rfl rfl rfl rfl (Nat.le_of_ble_eq_true rfl) d_Md_read_112 ?_
                  refine qj_istore_n hx hb d_Md_read_115 rfl (by decide) rfl ?_
                  refine qj_goto (tgt := 127) hx hb d_Md_read_116 (by decide) ?_
                  refine qj_goto (tgt := 6) hx hb d_Md_read_127 (by decide) ?_
                  refine qj_sub [1, 0] rfl ?_
                  exact ih6 x13 M14 hf
                refine qj_icmp_eq (tgt := 109) hx hb d_Md_read_89 (by decide) (fun hc16 => ?_) (fun hc16 => ?_)
                · replace hf := q_if_t hc16 hf
                  refine qj_sub [0, 1, 3] rfl ?_
                  exact hj15  hf
                · replace hf := q_if_f hc16 hf
                  refine qj_iload_n hx hb d_Md_read_92 rfl 3 rfl ?_
                  refine qj_bipush (v := 103) hx hb d_Md_read_93 (by decide) ?_
                  refine qj_icmp_eq (tgt := 109) hx hb d_Md_read_95 (by decide) (fun hc17 => ?_) (fun hc17 => ?_)
                  · replace hf := q_if_t hc17 hf
                    refine qj_sub [0, 1, 3] rfl ?_
                    exact hj15  hf
                  · replace hf := q_if_f hc17 hf
                    refine qj_iload_n hx hb d_Md_read_98 rfl 3 rfl ?_
                    refine qj_bipush (v := 97) hx hb d_Md_read_99 (by decide) ?_
                    refine qj_icmp_eq (tgt := 109) hx hb d_Md_read_101 (by decide) (fun hc18 => ?_) (fun hc18 => ?_)
                    · replace hf := q_if_t hc18 hf
                      refine qj_sub [0, 1, 3] rfl ?_
                      exact hj15  hf
                    · replace hf := q_if_f hc18 hf
                      refine qj_iload_n hx hb d_Md_read_104 rfl 3 rfl ?_
                      refine qj_iconst (v := (-1)) hx hb d_Md_read_105 (by decide) ?_
                      refine qj_icmp_ne (tgt := 119) hx hb d_Md_read_106 (by decide) (fun hc19 => ?_) (fun hc19 => ?_)
                      · replace hf := q_if_f hc19 hf
                        refine qj_sub [0, 1, 2] rfl ?_
                        exact hj11  hf
                      · replace hf := q_if_t hc19 hf
                        refine qj_sub [0, 1, 3] rfl ?_
                        exact hj15  hf
            refine qj_icmp_ne (tgt := 80) hx hb d_Md_read_43 (by decide) (fun hc21 => ?_) (fun hc21 => ?_)
            · replace hf := q_if_f hc21 hf
              refine qj_sub [2, 3, 1, 0] rfl ?_
              exact hj20  hf
            · replace hf := q_if_t hc21 hf
              refine qj_iload_n hx hb d_Md_read_46 rfl 0 rfl ?_
              refine qj_bipush (v := 47) hx hb d_Md_read_47 (by decide) ?_
              have hf9 := q_lt_s hf; clear hf; obtain ⟨j24, ej24, hf⟩ := hf9
              have hj24 : j24 = some out → QJ p l e rm_Md_read s m args below meth c (qA 38 b) b 4 0 0 Q (qWd D (enM dA b) 38 b) M3 70 [(0, qr (some 0)), (1, qi x2), (3, qi x9)] [] := by
                clear hf
                intro hf
                rw [ej24] at hf
                refine qj_aload_n hx hb d_Md_read_70 rfl 0 rfl ?_
                refine qj_iload_n hx hb d_Md_read_71 rfl 1 rfl ?_
                refine qj_iload_n hx hb d_Md_read_72 rfl 2 rfl ?_
                have hf9 := q_cl_s hf; clear hf; obtain ⟨x22, M23, hx22, hf⟩ := hf9
                refine qc_Vi (st := []) hx hb hml hown hts hK qT_ok hs (c_Md_tag x2 x9 M3 _ hx22) ⟨(callB_of 2 hts (q_good tw_582) rfl rfl rfl (hts _ tw_459) (hts _ tw_583) (by decide +kernel) ⟨by decide, by decide⟩), (hts _ tw_584), (hts _ tw_585)⟩ (by decide) rfl rfl rfl rfl (Nat.le_of_ble_eq_true rfl) d_Md_read_73 ?_
                refine qj_istore_n hx hb d_Md_read_76 rfl (by decide) rfl ?_
                refine qj_goto (tgt := 127) hx hb d_Md_read_77 (by decide) ?_
                refine qj_goto (tgt := 6) hx hb d_Md_read_127 (by decide) ?_
                refine qj_sub [1, 0] rfl ?_
                exact ih6 x22 M23 hf
              refine qj_icmp_eq (tgt := 70) hx hb d_Md_read_49 (by decide) (fun hc25 => ?_) (fun hc25 => ?_)
              · replace hf := q_if_t hc25 hf
                refine qj_sub [2, 3, 0] rfl ?_
                exact hj24  hf
              · replace hf := q_if_f hc25 hf
                refine qj_iload_n hx hb d_Md_read_52 rfl 0 rfl ?_
                refine qj_bipush (v := 33) hx hb d_Md_read_53 (by decide) ?_
                refine qj_icmp_eq (tgt := 70) hx hb d_Md_read_55 (by decide) (fun hc26 => ?_) (fun hc26 => ?_)
                · replace hf := q_if_t hc26 hf
                  refine qj_sub [2, 3, 0] rfl ?_
                  exact hj24  hf
                · replace hf := q_if_f hc26 hf
                  refine qj_iload_n hx hb d_Md_read_58 rfl 0 rfl ?_
                  refine qj_iconst (v := (-1)) hx hb d_Md_read_59 (by decide) ?_
                  refine qj_icmp_eq (tgt := 70) hx hb d_Md_read_60 (by decide) (fun hc27 => ?_) (fun hc27 => ?_)
                  · replace hf := q_if_t hc27 hf
                    refine qj_sub [2, 3, 0] rfl ?_
                    exact hj24  hf
                  · replace hf := q_if_f hc27 hf
                    refine qj_iload_n hx hb d_Md_read_63 rfl 0 rfl ?_
                    have hf9 := q_bp_s hf; clear hf; obtain ⟨x28, hx28, hf⟩ := hf9
                    refine qc_Si (st := []) hx hb hml hown hts hK qT_ok hs (c_Md_small x9 M3 _ hx28) ⟨(callB_of 1 hts (q_good tw_460) rfl rfl rfl (hts _ tw_459) (hts _ tw_461) (by decide +kernel) ⟨by decide, by decide⟩), (hts _ tw_462)⟩ rfl rfl (Nat.le_of_ble_eq_true rfl) d_Md_read_64 ?_
                    refine qj_if_eq (tgt := 80) hx hb d_Md_read_67 (by decide) (fun hc29 => ?_) (fun hc29 => ?_)
                    · replace hf := q_if_t hc29 hf
                      refine qj_sub [2, 3, 1, 0] rfl ?_
                      exact hj20  hf
                    · replace hf := q_if_f hc29 hf
                      refine qj_sub [2, 3, 0] rfl ?_
                      exact hj24  hf
  refine qj_sub [1, 0] rfl ?_
  refine hL6 _ _ (fun M30 hf9 => ?_) 0 M1 hf
  clear hf; have hf := hf9; clear hf9
  exact hret _ _ _ d_Md_read_130 (Option.some.inj hf)
theorem d_Md_html_0 : decode prog_14_method_2_code 0 = .ok (.iload_n 1, 1) := by decide +kernel
theorem d_Md_html_1 : decode prog_14_method_2_code 1 = .ok (.bipush 32, 2) := by decide +kernel
theorem d_Md_html_3 : decode prog_14_method_2_code 3 = .ok (.if_icmp .lt 26, 3) := by decide +kernel
theorem d_Md_html_6 : decode prog_14_method_2_code 6 = .ok (.iload_n 1, 1) := by decide +kernel
theorem d_Md_html_7 : decode prog_14_method_2_code 7 = .ok (.bipush 126, 2) := by decide +kernel
theorem d_Md_html_9 : decode prog_14_method_2_code 9 = .ok (.if_icmp .gt 20, 3) := by decide +kernel
theorem d_Md_html_12 : decode prog_14_method_2_code 12 = .ok (.aload_n 0, 1) := by decide +kernel
theorem d_Md_html_13 : decode prog_14_method_2_code 13 = .ok (.getfield 125, 3) := by decide +kernel
theorem d_Md_html_16 : decode prog_14_method_2_code 16 = .ok (.sipush 160, 3) := by decide +kernel
theorem d_Md_html_19 : decode prog_14_method_2_code 19 = .ok (.if_icmp .eq 10, 3) := by decide +kernel
theorem d_Md_html_22 : decode prog_14_method_2_code 22 = .ok (.aload_n 0, 1) := by decide +kernel
theorem d_Md_html_23 : decode prog_14_method_2_code 23 = .ok (.getfield 129, 3) := by decide +kernel
theorem d_Md_html_26 : decode prog_14_method_2_code 26 = .ok (.ifCond .eq 5, 3) := by decide +kernel
theorem d_Md_html_29 : decode prog_14_method_2_code 29 = .ok (.iconst 0, 1) := by decide +kernel
theorem d_Md_html_30 : decode prog_14_method_2_code 30 = .ok (.ireturn, 1) := by decide +kernel
theorem d_Md_html_31 : decode prog_14_method_2_code 31 = .ok (.aload_n 0, 1) := by decide +kernel
theorem d_Md_html_32 : decode prog_14_method_2_code 32 = .ok (.getfield 7, 3) := by decide +kernel
theorem d_Md_html_35 : decode prog_14_method_2_code 35 = .ok (.aload_n 0, 1) := by decide +kernel
theorem d_Md_html_36 : decode prog_14_method_2_code 36 = .ok (.getfield 125, 3) := by decide +kernel
theorem d_Md_html_39 : decode prog_14_method_2_code 39 = .ok (.iload_n 1, 1) := by decide +kernel
theorem d_Md_html_40 : decode prog_14_method_2_code 40 = .ok (.iastore, 1) := by decide +kernel
theorem d_Md_html_41 : decode prog_14_method_2_code 41 = .ok (.aload_n 0, 1) := by decide +kernel
theorem d_Md_html_42 : decode prog_14_method_2_code 42 = .ok (.dup, 1) := by decide +kernel
theorem d_Md_html_43 : decode prog_14_method_2_code 43 = .ok (.getfield 125, 3) := by decide +kernel
theorem d_Md_html_46 : decode prog_14_method_2_code 46 = .ok (.iconst 1, 1) := by decide +kernel
theorem d_Md_html_47 : decode prog_14_method_2_code 47 = .ok (.iadd, 1) := by decide +kernel
theorem d_Md_html_48 : decode prog_14_method_2_code 48 = .ok (.putfield 125, 3) := by decide +kernel
theorem d_Md_html_51 : decode prog_14_method_2_code 51 = .ok (.aload_n 0, 1) := by decide +kernel
theorem d_Md_html_52 : decode prog_14_method_2_code 52 = .ok (.iconst 0, 1) := by decide +kernel
theorem d_Md_html_53 : decode prog_14_method_2_code 53 = .ok (.putfield 133, 3) := by decide +kernel
theorem d_Md_html_56 : decode prog_14_method_2_code 56 = .ok (.aload_n 0, 1) := by decide +kernel
theorem d_Md_html_57 : decode prog_14_method_2_code 57 = .ok (.invokevirtual 136, 3) := by decide +kernel
theorem d_Md_html_60 : decode prog_14_method_2_code 60 = .ok (.aload_n 0, 1) := by decide +kernel
theorem d_Md_html_61 : decode prog_14_method_2_code 61 = .ok (.getfield 129, 3) := by decide +kernel
theorem d_Md_html_64 : decode prog_14_method_2_code 64 = .ok (.ifCond .ne 7, 3) := by decide +kernel
theorem d_Md_html_67 : decode prog_14_method_2_code 67 = .ok (.iconst 1, 1) := by decide +kernel
theorem d_Md_html_68 : decode prog_14_method_2_code 68 = .ok (.goto 4, 3) := by decide +kernel
theorem d_Md_html_71 : decode prog_14_method_2_code 71 = .ok (.iconst 0, 1) := by decide +kernel
theorem d_Md_html_72 : decode prog_14_method_2_code 72 = .ok (.ireturn, 1) := by decide +kernel
def f_Md_html (a1 : Int32) (M : qM) : Option (Int32 × qM) := if a1 < 32 then (some (0, M)) else (if 126 < a1 then (some (0, M)) else (if (M.1 0 0) = 160 then (some (0, M)) else (if (M.1 0 4) = 0 then (q_ix (M.1 0 0) 160 <| q_lt (qsI M 1 (M.1 0 0).toNatClampNeg a1) fun M6 => q_lt (qsI M6 0 0 ((M6.1 0 0) + 1)) fun M7 => q_lt (qsI M7 0 37 0) fun M8 => q_cv (f_Md_read M8) fun M9 => if (M9.1 0 4) = 0 then (some (1, M9)) else (some (0, M9))) else (some (0, M)))))
abbrev rm_Md_html : Room := { frames := 9, cells := 0, slots := 0, locals := 212 }
set_option maxRecDepth 100000 in
set_option maxHeartbeats 4000000 in
theorem c_Md_html {l : Launch} {D : va_G} {dA : Nat → ClassId} {b : Nat} (a1 : Int32)  (M : qM) (out : Int32 × qM) (hf : f_Md_html a1 M = some out) : CTi l y_Md_html w_Md_html rm_Md_html D (tysX dA) (enM dA b) 38 b (fun _ => True) [qr (some 0), qi a1] M out := by
  refine qm_z (cc := prog_14_method_2_code) (nL := 2) (by decide) rfl (Nat.le_of_ble_eq_true rfl) ?_
  intro p e s m args below meth c Q hx hb hts0 hown hml hK hs hret
  have hts : ∀ w ∈ lw_g, w.before args s = true := fun w h => hts0 w (List.mem_cons_of_mem _ h)
  show QJ p l e rm_Md_html s m args below meth c (qA 38 b) b 2 0 0 Q (qWd D (enM dA b) 38 b) M 0 [(0, qr (some 0)), (1, qi a1)] []
  unfold f_Md_html at hf
  refine qj_iload_n hx hb d_Md_html_0 rfl 1 rfl ?_
  refine qj_bipush (v := 32) hx hb d_Md_html_1 (by decide) ?_
  refine qj_icmp_lt (tgt := 29) hx hb d_Md_html_3 (by decide) (fun hc1 => ?_) (fun hc1 => ?_)
  · replace hf := q_if_t hc1 hf
    refine qj_iconst (v := 0) hx hb d_Md_html_29 (by decide) ?_
    exact hret _ _ _ _ (Or.inl rfl) d_Md_html_30 (Option.some.inj hf)
  · replace hf := q_if_f hc1 hf
    refine qj_iload_n hx hb d_Md_html_6 rfl 1 rfl ?_
    refine qj_bipush (v := 126) hx hb d_Md_html_7 (by decide) ?_
    refine qj_icmp_gt (tgt := 29) hx hb d_Md_html_9 (by decide) (fun hc2 => ?_) (fun hc2 => ?_)
    · replace hf := q_if_t hc2 hf
      refine qj_iconst (v := 0) hx hb d_Md_html_29 (by decide) ?_
      exact hret _ _ _ _ (Or.inl rfl) d_Md_html_30 (Option.some.inj hf)
    · replace hf := q_if_f hc2 hf
      refine qj_aload_n hx hb d_Md_html_12 rfl 0 rfl ?_
      refine qj_get hx hb hts hin_12 hown hK (by decide) rfl rfl 0 (by decide) (hts _ tw_457) (fun _ h => h) (qi (M.1 0 0)) rfl d_Md_html_13 ?_
      refine qj_sipush (v := 160) hx hb d_Md_html_16 (by decide) ?_
      refine qj_icmp_eq (tgt := 29) hx hb d_Md_html_19 (by decide) (fun hc3 => ?_) (fun hc3 => ?_)
      · replace hf := q_if_t hc3 hf
        refine qj_iconst (v := 0) hx hb d_Md_html_29 (by decide) ?_
        exact hret _ _ _ _ (Or.inl rfl) d_Md_html_30 (Option.some.inj hf)
      · replace hf := q_if_f hc3 hf
        refine qj_aload_n hx hb d_Md_html_22 rfl 0 rfl ?_
        refine qj_get hx hb hts hin_12 hown hK (by decide) rfl rfl 4 (by decide) (hts _ tw_446) (fun _ h => h) (qi (M.1 0 4)) rfl d_Md_html_23 ?_
        refine qj_if_eq (tgt := 31) hx hb d_Md_html_26 (by decide) (fun hc4 => ?_) (fun hc4 => ?_)
        · replace hf := q_if_t hc4 hf
          refine qj_aload_n hx hb d_Md_html_31 rfl 0 rfl ?_
          refine qj_get hx hb hts hin_12 hown hK (by decide) rfl rfl 1 (by decide) (hts _ tw_458) (fun _ h => h) (qr (some 1)) rfl d_Md_html_32 ?_
          refine qj_aload_n hx hb d_Md_html_35 rfl 0 rfl ?_
          refine qj_get hx hb hts hin_12 hown hK (by decide) rfl rfl 0 (by decide) (hts _ tw_457) (fun _ h => h) (qi (M.1 0 0)) rfl d_Md_html_36 ?_
          refine qj_iload_n hx hb d_Md_html_39 rfl 1 rfl ?_
          have hf9 := q_ix_s hf; clear hf; obtain ⟨hi5, hf⟩ := hf9
          have hf9 := q_lt_s hf; clear hf; obtain ⟨M6, eM6, hf⟩ := hf9
          refine qj_iast (t0 := 0) hx hb hK (by decide) (fun _ _ => rfl) rfl hi5 eM6 d_Md_html_40 ?_
          refine qj_aload_n hx hb d_Md_html_41 rfl 0 rfl ?_
          refine qj_dup hx hb d_Md_html_42 ?_
          refine qj_get hx hb hts hin_12 hown hK (by decide) rfl rfl 0 (by decide) (hts _ tw_457) (fun _ h => h) (qi (M6.1 0 0)) rfl d_Md_html_43 ?_
          refine qj_iconst (v := 1) hx hb d_Md_html_46 (by decide) ?_
          refine qj_iadd hx hb d_Md_html_47 ?_
          have hf9 := q_lt_s hf; clear hf; obtain ⟨M7, eM7, hf⟩ := hf9
          refine qj_puti (ty := .int) hx hb hts hin_12 ty_12 tyok_12 nm_12 hown hK (by decide) rfl rfl 0 (by decide) (hts _ tw_457) (fun _ h => h) rfl (by decide +kernel) rfl rfl (Nat.le_of_ble_eq_true rfl) sm_0 eM7 d_Md_html_48 ?_
          refine qj_aload_n hx hb d_Md_html_51 rfl 0 rfl ?_
          refine qj_iconst (v := 0) hx hb d_Md_html_52 (by decide) ?_
          have hf9 := q_lt_s hf; clear hf; obtain ⟨M8, eM8, hf⟩ := hf9
          refine qj_puti (ty := .boolean) hx hb hts hin_12 ty_12 tyok_12 nm_12 hown hK (by decide) rfl rfl 37 (by decide) (hts _ tw_586) (fun _ h => h) rfl (by decide +kernel) rfl rfl (Nat.le_of_ble_eq_true rfl) sm_37 eM8 d_Md_html_53 ?_
          refine qj_aload_n hx hb d_Md_html_56 rfl 0 rfl ?_
          have hf9 := q_cv_s hf; clear hf; obtain ⟨M9, hM9, hf⟩ := hf9
          refine qc_Vv (st := []) hx hb hml hown hts hK qT_ok hs (c_Md_read  M8 _ hM9) ⟨(callB_of 0 hts (q_good tw_587) rfl rfl rfl (hts _ tw_459) (hts _ tw_588) (by decide +kernel) ⟨by decide, by decide⟩), (hts _ tw_589), (hts _ tw_590)⟩ (by decide) rfl rfl rfl rfl (Nat.le_of_ble_eq_true rfl) d_Md_html_57 ?_
          refine qj_aload_n hx hb d_Md_html_60 rfl 0 rfl ?_
          refine qj_get hx hb hts hin_12 hown hK (by decide) rfl rfl 4 (by decide) (hts _ tw_446) (fun _ h => h) (qi (M9.1 0 4)) rfl d_Md_html_61 ?_
          refine qj_if_ne (tgt := 71) hx hb d_Md_html_64 (by decide) (fun hc10 => ?_) (fun hc10 => ?_)
          · replace hf := q_if_f hc10 hf
            refine qj_iconst (v := 0) hx hb d_Md_html_71 (by decide) ?_
            exact hret _ _ _ _ (Or.inl rfl) d_Md_html_72 (Option.some.inj hf)
          · replace hf := q_if_t hc10 hf
            refine qj_iconst (v := 1) hx hb d_Md_html_67 (by decide) ?_
            refine qj_goto (tgt := 72) hx hb d_Md_html_68 (by decide) ?_
            exact hret _ _ _ _ (Or.inr rfl) d_Md_html_72 (Option.some.inj hf)
        · replace hf := q_if_f hc4 hf
          refine qj_iconst (v := 0) hx hb d_Md_html_29 (by decide) ?_
          exact hret _ _ _ _ (Or.inl rfl) d_Md_html_30 (Option.some.inj hf)
theorem d_Md_css_0 : decode prog_14_method_3_code 0 = .ok (.iload_n 1, 1) := by decide +kernel
theorem d_Md_css_1 : decode prog_14_method_3_code 1 = .ok (.bipush 32, 2) := by decide +kernel
theorem d_Md_css_3 : decode prog_14_method_3_code 3 = .ok (.if_icmp .lt 18, 3) := by decide +kernel
theorem d_Md_css_6 : decode prog_14_method_3_code 6 = .ok (.iload_n 1, 1) := by decide +kernel
theorem d_Md_css_7 : decode prog_14_method_3_code 7 = .ok (.bipush 126, 2) := by decide +kernel
theorem d_Md_css_9 : decode prog_14_method_3_code 9 = .ok (.if_icmp .gt 12, 3) := by decide +kernel
theorem d_Md_css_12 : decode prog_14_method_3_code 12 = .ok (.aload_n 0, 1) := by decide +kernel
theorem d_Md_css_13 : decode prog_14_method_3_code 13 = .ok (.getfield 139, 3) := by decide +kernel
theorem d_Md_css_16 : decode prog_14_method_3_code 16 = .ok (.bipush 120, 2) := by decide +kernel
theorem d_Md_css_18 : decode prog_14_method_3_code 18 = .ok (.if_icmp .ne 5, 3) := by decide +kernel
theorem d_Md_css_21 : decode prog_14_method_3_code 21 = .ok (.iconst 0, 1) := by decide +kernel
theorem d_Md_css_22 : decode prog_14_method_3_code 22 = .ok (.ireturn, 1) := by decide +kernel
theorem d_Md_css_23 : decode prog_14_method_3_code 23 = .ok (.aload_n 0, 1) := by decide +kernel
theorem d_Md_css_24 : decode prog_14_method_3_code 24 = .ok (.getfield 13, 3) := by decide +kernel
theorem d_Md_css_27 : decode prog_14_method_3_code 27 = .ok (.aload_n 0, 1) := by decide +kernel
theorem d_Md_css_28 : decode prog_14_method_3_code 28 = .ok (.getfield 139, 3) := by decide +kernel
theorem d_Md_css_31 : decode prog_14_method_3_code 31 = .ok (.iload_n 1, 1) := by decide +kernel
theorem d_Md_css_32 : decode prog_14_method_3_code 32 = .ok (.iastore, 1) := by decide +kernel
theorem d_Md_css_33 : decode prog_14_method_3_code 33 = .ok (.aload_n 0, 1) := by decide +kernel
theorem d_Md_css_34 : decode prog_14_method_3_code 34 = .ok (.dup, 1) := by decide +kernel
theorem d_Md_css_35 : decode prog_14_method_3_code 35 = .ok (.getfield 139, 3) := by decide +kernel
theorem d_Md_css_38 : decode prog_14_method_3_code 38 = .ok (.iconst 1, 1) := by decide +kernel
theorem d_Md_css_39 : decode prog_14_method_3_code 39 = .ok (.iadd, 1) := by decide +kernel
theorem d_Md_css_40 : decode prog_14_method_3_code 40 = .ok (.putfield 139, 3) := by decide +kernel
theorem d_Md_css_43 : decode prog_14_method_3_code 43 = .ok (.aload_n 0, 1) := by decide +kernel
theorem d_Md_css_44 : decode prog_14_method_3_code 44 = .ok (.iconst 0, 1) := by decide +kernel
theorem d_Md_css_45 : decode prog_14_method_3_code 45 = .ok (.putfield 133, 3) := by decide +kernel
theorem d_Md_css_48 : decode prog_14_method_3_code 48 = .ok (.iconst 1, 1) := by decide +kernel
theorem d_Md_css_49 : decode prog_14_method_3_code 49 = .ok (.ireturn, 1) := by decide +kernel
def f_Md_css (a1 : Int32) (M : qM) : Option (Int32 × qM) := if a1 < 32 then (some (0, M)) else (if 126 < a1 then (some (0, M)) else (if (M.1 0 2) = 120 then (some (0, M)) else (q_ix (M.1 0 2) 120 <| q_lt (qsI M 2 (M.1 0 2).toNatClampNeg a1) fun M5 => q_lt (qsI M5 0 2 ((M5.1 0 2) + 1)) fun M6 => q_lt (qsI M6 0 37 0) fun M7 => some (1, M7))))
abbrev rm_Md_css : Room := { frames := 0, cells := 0, slots := 0, locals := 0 }
set_option maxRecDepth 100000 in
set_option maxHeartbeats 4000000 in
theorem c_Md_css {l : Launch} {D : va_G} {dA : Nat → ClassId} {b : Nat} (a1 : Int32)  (M : qM) (out : Int32 × qM) (hf : f_Md_css a1 M = some out) : CTi l y_Md_css w_Md_css rm_Md_css D (tysX dA) (enM dA b) 38 b (fun _ => True) [qr (some 0), qi a1] M out := by
  refine qm_z (cc := prog_14_method_3_code) (nL := 2) (by decide) rfl (Nat.le_of_ble_eq_true rfl) ?_
  intro p e s m args below meth c Q hx hb hts0 hown hml hK hs hret
  have hts : ∀ w ∈ lw_g, w.before args s = true := fun w h => hts0 w (List.mem_cons_of_mem _ h)
  show QJ p l e rm_Md_css s m args below meth c (qA 38 b) b 2 0 0 Q (qWd D (enM dA b) 38 b) M 0 [(0, qr (some 0)), (1, qi a1)] []
  unfold f_Md_css at hf
  refine qj_iload_n hx hb d_Md_css_0 rfl 1 rfl ?_
  refine qj_bipush (v := 32) hx hb d_Md_css_1 (by decide) ?_
  refine qj_icmp_lt (tgt := 21) hx hb d_Md_css_3 (by decide) (fun hc1 => ?_) (fun hc1 => ?_)
  · replace hf := q_if_t hc1 hf
    refine qj_iconst (v := 0) hx hb d_Md_css_21 (by decide) ?_
    exact hret _ _ _ _ (Or.inl rfl) d_Md_css_22 (Option.some.inj hf)
  · replace hf := q_if_f hc1 hf
    refine qj_iload_n hx hb d_Md_css_6 rfl 1 rfl ?_
    refine qj_bipush (v := 126) hx hb d_Md_css_7 (by decide) ?_
    refine qj_icmp_gt (tgt := 21) hx hb d_Md_css_9 (by decide) (fun hc2 => ?_) (fun hc2 => ?_)
    · replace hf := q_if_t hc2 hf
      refine qj_iconst (v := 0) hx hb d_Md_css_21 (by decide) ?_
      exact hret _ _ _ _ (Or.inl rfl) d_Md_css_22 (Option.some.inj hf)
    · replace hf := q_if_f hc2 hf
      refine qj_aload_n hx hb d_Md_css_12 rfl 0 rfl ?_
      refine qj_get hx hb hts hin_12 hown hK (by decide) rfl rfl 2 (by decide) (hts _ tw_591) (fun _ h => h) (qi (M.1 0 2)) rfl d_Md_css_13 ?_
      refine qj_bipush (v := 120) hx hb d_Md_css_16 (by decide) ?_
      refine qj_icmp_ne (tgt := 23) hx hb d_Md_css_18 (by decide) (fun hc3 => ?_) (fun hc3 => ?_)
      · replace hf := q_if_f hc3 hf
        refine qj_aload_n hx hb d_Md_css_23 rfl 0 rfl ?_
        refine qj_get hx hb hts hin_12 hown hK (by decide) rfl rfl 3 (by decide) (hts _ tw_592) (fun _ h => h) (qr (some 2)) rfl d_Md_css_24 ?_
        refine qj_aload_n hx hb d_Md_css_27 rfl 0 rfl ?_
        refine qj_get hx hb hts hin_12 hown hK (by decide) rfl rfl 2 (by decide) (hts _ tw_591) (fun _ h => h) (qi (M.1 0 2)) rfl d_Md_css_28 ?_
        refine qj_iload_n hx hb d_Md_css_31 rfl 1 rfl ?_
        have hf9 := q_ix_s hf; clear hf; obtain ⟨hi4, hf⟩ := hf9
        have hf9 := q_lt_s hf; clear hf; obtain ⟨M5, eM5, hf⟩ := hf9
        refine qj_iast (t0 := 0) hx hb hK (by decide) (fun _ _ => rfl) rfl hi4 eM5 d_Md_css_32 ?_
        refine qj_aload_n hx hb d_Md_css_33 rfl 0 rfl ?_
        refine qj_dup hx hb d_Md_css_34 ?_
        refine qj_get hx hb hts hin_12 hown hK (by decide) rfl rfl 2 (by decide) (hts _ tw_591) (fun _ h => h) (qi (M5.1 0 2)) rfl d_Md_css_35 ?_
        refine qj_iconst (v := 1) hx hb d_Md_css_38 (by decide) ?_
        refine qj_iadd hx hb d_Md_css_39 ?_
        have hf9 := q_lt_s hf; clear hf; obtain ⟨M6, eM6, hf⟩ := hf9
        refine qj_puti (ty := .int) hx hb hts hin_12 ty_12 tyok_12 nm_12 hown hK (by decide) rfl rfl 2 (by decide) (hts _ tw_591) (fun _ h => h) rfl (by decide +kernel) rfl rfl (Nat.le_of_ble_eq_true rfl) sm_2 eM6 d_Md_css_40 ?_
        refine qj_aload_n hx hb d_Md_css_43 rfl 0 rfl ?_
        refine qj_iconst (v := 0) hx hb d_Md_css_44 (by decide) ?_
        have hf9 := q_lt_s hf; clear hf; obtain ⟨M7, eM7, hf⟩ := hf9
        refine qj_puti (ty := .boolean) hx hb hts hin_12 ty_12 tyok_12 nm_12 hown hK (by decide) rfl rfl 37 (by decide) (hts _ tw_586) (fun _ h => h) rfl (by decide +kernel) rfl rfl (Nat.le_of_ble_eq_true rfl) sm_37 eM7 d_Md_css_45 ?_
        refine qj_iconst (v := 1) hx hb d_Md_css_48 (by decide) ?_
        exact hret _ _ _ _ (Or.inr rfl) d_Md_css_49 (Option.some.inj hf)
      · replace hf := q_if_t hc3 hf
        refine qj_iconst (v := 0) hx hb d_Md_css_21 (by decide) ?_
        exact hret _ _ _ _ (Or.inl rfl) d_Md_css_22 (Option.some.inj hf)
theorem d_Md_clear_0 : decode prog_14_method_4_code 0 = .ok (.aload_n 0, 1) := by decide +kernel
theorem d_Md_clear_1 : decode prog_14_method_4_code 1 = .ok (.iconst 0, 1) := by decide +kernel
theorem d_Md_clear_2 : decode prog_14_method_4_code 2 = .ok (.putfield 125, 3) := by decide +kernel
theorem d_Md_clear_5 : decode prog_14_method_4_code 5 = .ok (.aload_n 0, 1) := by decide +kernel
theorem d_Md_clear_6 : decode prog_14_method_4_code 6 = .ok (.iconst 0, 1) := by decide +kernel
theorem d_Md_clear_7 : decode prog_14_method_4_code 7 = .ok (.putfield 139, 3) := by decide +kernel
theorem d_Md_clear_10 : decode prog_14_method_4_code 10 = .ok (.aload_n 0, 1) := by decide +kernel
theorem d_Md_clear_11 : decode prog_14_method_4_code 11 = .ok (.iconst 0, 1) := by decide +kernel
theorem d_Md_clear_12 : decode prog_14_method_4_code 12 = .ok (.putfield 133, 3) := by decide +kernel
theorem d_Md_clear_15 : decode prog_14_method_4_code 15 = .ok (.aload_n 0, 1) := by decide +kernel
theorem d_Md_clear_16 : decode prog_14_method_4_code 16 = .ok (.invokevirtual 122, 3) := by decide +kernel
theorem d_Md_clear_19 : decode prog_14_method_4_code 19 = .ok (.return_, 1) := by decide +kernel
def f_Md_clear  (M : qM) : Option qM := q_lt (qsI M 0 0 0) fun M1 => q_lt (qsI M1 0 2 0) fun M2 => q_lt (qsI M2 0 37 0) fun M3 => q_cv (f_Md_reset M3) fun M4 => some M4
abbrev rm_Md_clear : Room := { frames := 1, cells := 0, slots := 0, locals := 20 }
set_option maxRecDepth 100000 in
set_option maxHeartbeats 4000000 in
theorem c_Md_clear {l : Launch} {D : va_G} {dA : Nat → ClassId} {b : Nat}   (M : qM) (out : qM) (hf : f_Md_clear M = some out) : CTv l y_Md_clear w_Md_clear rm_Md_clear D (tysX dA) (enM dA b) 38 b (fun _ => True) [qr (some 0)] M out := by
  refine qm_v (cc := prog_14_method_4_code) (nL := 1) (by decide) rfl (Nat.le_of_ble_eq_true rfl) ?_
  intro p e s m args below meth c Q hx hb hts0 hown hml hK hs hret
  have hts : ∀ w ∈ lw_g, w.before args s = true := fun w h => hts0 w (List.mem_cons_of_mem _ h)
  show QJ p l e rm_Md_clear s m args below meth c (qA 38 b) b 1 0 0 Q (qWd D (enM dA b) 38 b) M 0 [(0, qr (some 0))] []
  unfold f_Md_clear at hf
  refine qj_aload_n hx hb d_Md_clear_0 rfl 0 rfl ?_
  refine qj_iconst (v := 0) hx hb d_Md_clear_1 (by decide) ?_
  have hf9 := q_lt_s hf; clear hf; obtain ⟨M1, eM1, hf⟩ := hf9
  refine qj_puti (ty := .int) hx hb hts hin_12 ty_12 tyok_12 nm_12 hown hK (by decide) rfl rfl 0 (by decide) (hts _ tw_457) (fun _ h => h) rfl (by decide +kernel) rfl rfl (Nat.le_of_ble_eq_true rfl) sm_0 eM1 d_Md_clear_2 ?_
  refine qj_aload_n hx hb d_Md_clear_5 rfl 0 rfl ?_
  refine qj_iconst (v := 0) hx hb d_Md_clear_6 (by decide) ?_
  have hf9 := q_lt_s hf; clear hf; obtain ⟨M2, eM2, hf⟩ := hf9
  refine qj_puti (ty := .int) hx hb hts hin_12 ty_12 tyok_12 nm_12 hown hK (by decide) rfl rfl 2 (by decide) (hts _ tw_591) (fun _ h => h) rfl (by decide +kernel) rfl rfl (Nat.le_of_ble_eq_true rfl) sm_2 eM2 d_Md_clear_7 ?_
  refine qj_aload_n hx hb d_Md_clear_10 rfl 0 rfl ?_
  refine qj_iconst (v := 0) hx hb d_Md_clear_11 (by decide) ?_
  have hf9 := q_lt_s hf; clear hf; obtain ⟨M3, eM3, hf⟩ := hf9
  refine qj_puti (ty := .boolean) hx hb hts hin_12 ty_12 tyok_12 nm_12 hown hK (by decide) rfl rfl 37 (by decide) (hts _ tw_586) (fun _ h => h) rfl (by decide +kernel) rfl rfl (Nat.le_of_ble_eq_true rfl) sm_37 eM3 d_Md_clear_12 ?_
  refine qj_aload_n hx hb d_Md_clear_15 rfl 0 rfl ?_
  have hf9 := q_cv_s hf; clear hf; obtain ⟨M4, hM4, hf⟩ := hf9
  refine qc_Vv (st := []) hx hb hml hown hts hK qT_ok hs (c_Md_reset  M3 _ hM4) ⟨(callB_of 0 hts (q_good tw_574) rfl rfl rfl (hts _ tw_459) (hts _ tw_575) (by decide +kernel) ⟨by decide, by decide⟩), (hts _ tw_576), (hts _ tw_577)⟩ (by decide) rfl rfl rfl rfl (Nat.le_of_ble_eq_true rfl) d_Md_clear_16 ?_
  exact hret _ _ _ d_Md_clear_19 (Option.some.inj hf)
theorem d_Md_none_0 : decode prog_14_method_35_code 0 = .ok (.aload_n 0, 1) := by decide +kernel
theorem d_Md_none_1 : decode prog_14_method_35_code 1 = .ok (.getfield 129, 3) := by decide +kernel
theorem d_Md_none_4 : decode prog_14_method_35_code 4 = .ok (.ifCond .ne 15, 3) := by decide +kernel
theorem d_Md_none_7 : decode prog_14_method_35_code 7 = .ok (.iload_n 1, 1) := by decide +kernel
theorem d_Md_none_8 : decode prog_14_method_35_code 8 = .ok (.ifCond .lt 11, 3) := by decide +kernel
theorem d_Md_none_11 : decode prog_14_method_35_code 11 = .ok (.iload_n 1, 1) := by decide +kernel
theorem d_Md_none_12 : decode prog_14_method_35_code 12 = .ok (.aload_n 0, 1) := by decide +kernel
theorem d_Md_none_13 : decode prog_14_method_35_code 13 = .ok (.getfield 142, 3) := by decide +kernel
theorem d_Md_none_16 : decode prog_14_method_35_code 16 = .ok (.if_icmp .lt 7, 3) := by decide +kernel
theorem d_Md_none_19 : decode prog_14_method_35_code 19 = .ok (.iconst 1, 1) := by decide +kernel
theorem d_Md_none_20 : decode prog_14_method_35_code 20 = .ok (.goto 4, 3) := by decide +kernel
theorem d_Md_none_23 : decode prog_14_method_35_code 23 = .ok (.iconst 0, 1) := by decide +kernel
theorem d_Md_none_24 : decode prog_14_method_35_code 24 = .ok (.ireturn, 1) := by decide +kernel
def f_Md_none (a1 : Int32) (M : qM) : Option Int32 := if (M.1 0 4) = 0 then (if a1 < 0 then (some 1) else (if a1 < (M.1 0 5) then (some 0) else (some 1))) else (some 1)
abbrev rm_Md_none : Room := { frames := 0, cells := 0, slots := 0, locals := 0 }
set_option maxRecDepth 100000 in
set_option maxHeartbeats 4000000 in
theorem c_Md_none {l : Launch} {D : va_G} {dA : Nat → ClassId} {b : Nat} (a1 : Int32)  (M : qM) (out : Int32) (hf : f_Md_none a1 M = some out) : CTi l y_Md_none w_Md_none rm_Md_none D (tysX dA) (enM dA b) 38 b (fun _ => True) [qr (some 0), qi a1] M (out, M) := by
  refine qm_z (cc := prog_14_method_35_code) (nL := 2) (by decide) rfl (Nat.le_of_ble_eq_true rfl) ?_
  intro p e s m args below meth c Q hx hb hts0 hown hml hK hs hret
  have hts : ∀ w ∈ lw_g, w.before args s = true := fun w h => hts0 w (List.mem_cons_of_mem _ h)
  show QJ p l e rm_Md_none s m args below meth c (qA 38 b) b 2 0 0 Q (qWd D (enM dA b) 38 b) M 0 [(0, qr (some 0)), (1, qi a1)] []
  unfold f_Md_none at hf
  refine qj_aload_n hx hb d_Md_none_0 rfl 0 rfl ?_
  refine qj_get hx hb hts hin_12 hown hK (by decide) rfl rfl 4 (by decide) (hts _ tw_446) (fun _ h => h) (qi (M.1 0 4)) rfl d_Md_none_1 ?_
  refine qj_if_ne (tgt := 19) hx hb d_Md_none_4 (by decide) (fun hc1 => ?_) (fun hc1 => ?_)
  · replace hf := q_if_f hc1 hf
    refine qj_iconst (v := 1) hx hb d_Md_none_19 (by decide) ?_
    refine qj_goto (tgt := 24) hx hb d_Md_none_20 (by decide) ?_
    exact hret _ _ _ _ (Or.inr rfl) d_Md_none_24 (congrArg (fun z => (z, M)) (Option.some.inj hf))
  · replace hf := q_if_t hc1 hf
    refine qj_iload_n hx hb d_Md_none_7 rfl 1 rfl ?_
    refine qj_if_lt (tgt := 19) hx hb d_Md_none_8 (by decide) (fun hc2 => ?_) (fun hc2 => ?_)
    · replace hf := q_if_t hc2 hf
      refine qj_iconst (v := 1) hx hb d_Md_none_19 (by decide) ?_
      refine qj_goto (tgt := 24) hx hb d_Md_none_20 (by decide) ?_
      exact hret _ _ _ _ (Or.inr rfl) d_Md_none_24 (congrArg (fun z => (z, M)) (Option.some.inj hf))
    · replace hf := q_if_f hc2 hf
      refine qj_iload_n hx hb d_Md_none_11 rfl 1 rfl ?_
      refine qj_aload_n hx hb d_Md_none_12 rfl 0 rfl ?_
      refine qj_get hx hb hts hin_12 hown hK (by decide) rfl rfl 5 (by decide) (hts _ tw_447) (fun _ h => h) (qi (M.1 0 5)) rfl d_Md_none_13 ?_
      refine qj_icmp_lt (tgt := 23) hx hb d_Md_none_16 (by decide) (fun hc3 => ?_) (fun hc3 => ?_)
      · replace hf := q_if_t hc3 hf
        refine qj_iconst (v := 0) hx hb d_Md_none_23 (by decide) ?_
        exact hret _ _ _ _ (Or.inl rfl) d_Md_none_24 (congrArg (fun z => (z, M)) (Option.some.inj hf))
      · replace hf := q_if_f hc3 hf
        refine qj_iconst (v := 1) hx hb d_Md_none_19 (by decide) ?_
        refine qj_goto (tgt := 24) hx hb d_Md_none_20 (by decide) ?_
        exact hret _ _ _ _ (Or.inr rfl) d_Md_none_24 (congrArg (fun z => (z, M)) (Option.some.inj hf))
theorem d_Md_nodes_0 : decode prog_14_method_36_code 0 = .ok (.aload_n 0, 1) := by decide +kernel
theorem d_Md_nodes_1 : decode prog_14_method_36_code 1 = .ok (.getfield 129, 3) := by decide +kernel
theorem d_Md_nodes_4 : decode prog_14_method_36_code 4 = .ok (.ifCond .eq 7, 3) := by decide +kernel
theorem d_Md_nodes_7 : decode prog_14_method_36_code 7 = .ok (.iconst (-1), 1) := by decide +kernel
theorem d_Md_nodes_8 : decode prog_14_method_36_code 8 = .ok (.goto 7, 3) := by decide +kernel
theorem d_Md_nodes_11 : decode prog_14_method_36_code 11 = .ok (.aload_n 0, 1) := by decide +kernel
theorem d_Md_nodes_12 : decode prog_14_method_36_code 12 = .ok (.getfield 142, 3) := by decide +kernel
theorem d_Md_nodes_15 : decode prog_14_method_36_code 15 = .ok (.ireturn, 1) := by decide +kernel
def f_Md_nodes  (M : qM) : Option Int32 := if (M.1 0 4) = 0 then (some (M.1 0 5)) else (some (-1))
abbrev rm_Md_nodes : Room := { frames := 0, cells := 0, slots := 0, locals := 0 }
set_option maxRecDepth 100000 in
set_option maxHeartbeats 4000000 in
theorem c_Md_nodes {l : Launch} {D : va_G} {dA : Nat → ClassId} {b : Nat}   (M : qM) (out : Int32) (hf : f_Md_nodes M = some out) : CTi l y_Md_nodes w_Md_nodes rm_Md_nodes D (tysX dA) (enM dA b) 38 b (fun _ => True) [qr (some 0)] M (out, M) := by
  refine qm_i (cc := prog_14_method_36_code) (nL := 1) (by decide) rfl (Nat.le_of_ble_eq_true rfl) ?_
  intro p e s m args below meth c Q hx hb hts0 hown hml hK hs hret
  have hts : ∀ w ∈ lw_g, w.before args s = true := fun w h => hts0 w (List.mem_cons_of_mem _ h)
  show QJ p l e rm_Md_nodes s m args below meth c (qA 38 b) b 1 0 0 Q (qWd D (enM dA b) 38 b) M 0 [(0, qr (some 0))] []
  unfold f_Md_nodes at hf
  refine qj_aload_n hx hb d_Md_nodes_0 rfl 0 rfl ?_
  refine qj_get hx hb hts hin_12 hown hK (by decide) rfl rfl 4 (by decide) (hts _ tw_446) (fun _ h => h) (qi (M.1 0 4)) rfl d_Md_nodes_1 ?_
  refine qj_if_eq (tgt := 11) hx hb d_Md_nodes_4 (by decide) (fun hc1 => ?_) (fun hc1 => ?_)
  · replace hf := q_if_t hc1 hf
    refine qj_aload_n hx hb d_Md_nodes_11 rfl 0 rfl ?_
    refine qj_get hx hb hts hin_12 hown hK (by decide) rfl rfl 5 (by decide) (hts _ tw_447) (fun _ h => h) (qi (M.1 0 5)) rfl d_Md_nodes_12 ?_
    exact hret _ _ _ _ d_Md_nodes_15 (congrArg (fun z => (z, M)) (Option.some.inj hf))
  · replace hf := q_if_f hc1 hf
    refine qj_iconst (v := (-1)) hx hb d_Md_nodes_7 (by decide) ?_
    refine qj_goto (tgt := 15) hx hb d_Md_nodes_8 (by decide) ?_
    exact hret _ _ _ _ d_Md_nodes_15 (congrArg (fun z => (z, M)) (Option.some.inj hf))
theorem d_Md_name_0 : decode prog_14_method_37_code 0 = .ok (.aload_n 0, 1) := by decide +kernel
theorem d_Md_name_1 : decode prog_14_method_37_code 1 = .ok (.iload_n 1, 1) := by decide +kernel
theorem d_Md_name_2 : decode prog_14_method_37_code 2 = .ok (.invokevirtual 260, 3) := by decide +kernel
theorem d_Md_name_5 : decode prog_14_method_37_code 5 = .ok (.ifCond .eq 7, 3) := by decide +kernel
theorem d_Md_name_8 : decode prog_14_method_37_code 8 = .ok (.iconst (-1), 1) := by decide +kernel
theorem d_Md_name_9 : decode prog_14_method_37_code 9 = .ok (.goto 14, 3) := by decide +kernel
theorem d_Md_name_12 : decode prog_14_method_37_code 12 = .ok (.aload_n 0, 1) := by decide +kernel
theorem d_Md_name_13 : decode prog_14_method_37_code 13 = .ok (.getfield 19, 3) := by decide +kernel
theorem d_Md_name_16 : decode prog_14_method_37_code 16 = .ok (.aload_n 0, 1) := by decide +kernel
theorem d_Md_name_17 : decode prog_14_method_37_code 17 = .ok (.getfield 16, 3) := by decide +kernel
theorem d_Md_name_20 : decode prog_14_method_37_code 20 = .ok (.iload_n 1, 1) := by decide +kernel
theorem d_Md_name_21 : decode prog_14_method_37_code 21 = .ok (.iaload, 1) := by decide +kernel
theorem d_Md_name_22 : decode prog_14_method_37_code 22 = .ok (.iaload, 1) := by decide +kernel
theorem d_Md_name_23 : decode prog_14_method_37_code 23 = .ok (.ireturn, 1) := by decide +kernel
def f_Md_name (a1 : Int32) (M : qM) : Option Int32 := q_bp (f_Md_none a1 M) fun x1 => if x1 = 0 then (q_ix a1 40 <| q_ix (M.1 3 a1.toNatClampNeg) 40 <| some (M.1 4 (M.1 3 a1.toNatClampNeg).toNatClampNeg)) else (some (-1))
abbrev rm_Md_name : Room := { frames := 1, cells := 0, slots := 0, locals := 21 }
set_option maxRecDepth 100000 in
set_option maxHeartbeats 4000000 in
theorem c_Md_name {l : Launch} {D : va_G} {dA : Nat → ClassId} {b : Nat} (a1 : Int32)  (M : qM) (out : Int32) (hf : f_Md_name a1 M = some out) : CTi l y_Md_name w_Md_name rm_Md_name D (tysX dA) (enM dA b) 38 b (fun _ => True) [qr (some 0), qi a1] M (out, M) := by
  refine qm_i (cc := prog_14_method_37_code) (nL := 2) (by decide) rfl (Nat.le_of_ble_eq_true rfl) ?_
  intro p e s m args below meth c Q hx hb hts0 hown hml hK hs hret
  have hts : ∀ w ∈ lw_g, w.before args s = true := fun w h => hts0 w (List.mem_cons_of_mem _ h)
  show QJ p l e rm_Md_name s m args below meth c (qA 38 b) b 2 0 0 Q (qWd D (enM dA b) 38 b) M 0 [(0, qr (some 0)), (1, qi a1)] []
  unfold f_Md_name at hf
  refine qj_aload_n hx hb d_Md_name_0 rfl 0 rfl ?_
  refine qj_iload_n hx hb d_Md_name_1 rfl 1 rfl ?_
  have hf9 := q_bp_s hf; clear hf; obtain ⟨x1, hx1, hf⟩ := hf9
  refine qc_Vi (st := []) hx hb hml hown hts hK qT_ok hs (c_Md_none a1 M _ hx1) ⟨(callB_of 1 hts (q_good tw_593) rfl rfl rfl (hts _ tw_459) (hts _ tw_594) (by decide +kernel) ⟨by decide, by decide⟩), (hts _ tw_595), (hts _ tw_596)⟩ (by decide) rfl rfl rfl rfl (Nat.le_of_ble_eq_true rfl) d_Md_name_2 ?_
  refine qj_if_eq (tgt := 12) hx hb d_Md_name_5 (by decide) (fun hc2 => ?_) (fun hc2 => ?_)
  · replace hf := q_if_t hc2 hf
    refine qj_aload_n hx hb d_Md_name_12 rfl 0 rfl ?_
    refine qj_get hx hb hts hin_12 hown hK (by decide) rfl rfl 8 (by decide) (hts _ tw_450) (fun _ h => h) (qr (some 4)) rfl d_Md_name_13 ?_
    refine qj_aload_n hx hb d_Md_name_16 rfl 0 rfl ?_
    refine qj_get hx hb hts hin_12 hown hK (by decide) rfl rfl 6 (by decide) (hts _ tw_448) (fun _ h => h) (qr (some 3)) rfl d_Md_name_17 ?_
    refine qj_iload_n hx hb d_Md_name_20 rfl 1 rfl ?_
    have hf9 := q_ix_s hf; clear hf; obtain ⟨hi3, hf⟩ := hf9
    refine qj_iald (t0 := 0) hx hb hK (by decide) (fun _ _ => rfl) rfl hi3 d_Md_name_21 ?_
    have hf9 := q_ix_s hf; clear hf; obtain ⟨hi4, hf⟩ := hf9
    refine qj_iald (t0 := 0) hx hb hK (by decide) (fun _ _ => rfl) rfl hi4 d_Md_name_22 ?_
    exact hret _ _ _ _ d_Md_name_23 (congrArg (fun z => (z, M)) (Option.some.inj hf))
  · replace hf := q_if_f hc2 hf
    refine qj_iconst (v := (-1)) hx hb d_Md_name_8 (by decide) ?_
    refine qj_goto (tgt := 23) hx hb d_Md_name_9 (by decide) ?_
    exact hret _ _ _ _ d_Md_name_23 (congrArg (fun z => (z, M)) (Option.some.inj hf))
theorem d_Md_parentOf_0 : decode prog_14_method_38_code 0 = .ok (.iload_n 1, 1) := by decide +kernel
theorem d_Md_parentOf_1 : decode prog_14_method_38_code 1 = .ok (.iconst 1, 1) := by decide +kernel
theorem d_Md_parentOf_2 : decode prog_14_method_38_code 2 = .ok (.isub, 1) := by decide +kernel
theorem d_Md_parentOf_3 : decode prog_14_method_38_code 3 = .ok (.istore_n 2, 1) := by decide +kernel
theorem d_Md_parentOf_4 : decode prog_14_method_38_code 4 = .ok (.iload_n 2, 1) := by decide +kernel
theorem d_Md_parentOf_5 : decode prog_14_method_38_code 5 = .ok (.ifCond .lt 34, 3) := by decide +kernel
theorem d_Md_parentOf_8 : decode prog_14_method_38_code 8 = .ok (.aload_n 0, 1) := by decide +kernel
theorem d_Md_parentOf_9 : decode prog_14_method_38_code 9 = .ok (.getfield 25, 3) := by decide +kernel
theorem d_Md_parentOf_12 : decode prog_14_method_38_code 12 = .ok (.aload_n 0, 1) := by decide +kernel
theorem d_Md_parentOf_13 : decode prog_14_method_38_code 13 = .ok (.getfield 16, 3) := by decide +kernel
theorem d_Md_parentOf_16 : decode prog_14_method_38_code 16 = .ok (.iload_n 2, 1) := by decide +kernel
theorem d_Md_parentOf_17 : decode prog_14_method_38_code 17 = .ok (.iaload, 1) := by decide +kernel
theorem d_Md_parentOf_18 : decode prog_14_method_38_code 18 = .ok (.iaload, 1) := by decide +kernel
theorem d_Md_parentOf_19 : decode prog_14_method_38_code 19 = .ok (.aload_n 0, 1) := by decide +kernel
theorem d_Md_parentOf_20 : decode prog_14_method_38_code 20 = .ok (.getfield 25, 3) := by decide +kernel
theorem d_Md_parentOf_23 : decode prog_14_method_38_code 23 = .ok (.aload_n 0, 1) := by decide +kernel
theorem d_Md_parentOf_24 : decode prog_14_method_38_code 24 = .ok (.getfield 16, 3) := by decide +kernel
theorem d_Md_parentOf_27 : decode prog_14_method_38_code 27 = .ok (.iload_n 1, 1) := by decide +kernel
theorem d_Md_parentOf_28 : decode prog_14_method_38_code 28 = .ok (.iaload, 1) := by decide +kernel
theorem d_Md_parentOf_29 : decode prog_14_method_38_code 29 = .ok (.iaload, 1) := by decide +kernel
theorem d_Md_parentOf_30 : decode prog_14_method_38_code 30 = .ok (.if_icmp .lt 9, 3) := by decide +kernel
theorem d_Md_parentOf_33 : decode prog_14_method_38_code 33 = .ok (.iinc 2 (-1), 3) := by decide +kernel
theorem d_Md_parentOf_36 : decode prog_14_method_38_code 36 = .ok (.goto (-32), 3) := by decide +kernel
theorem d_Md_parentOf_39 : decode prog_14_method_38_code 39 = .ok (.iload_n 2, 1) := by decide +kernel
theorem d_Md_parentOf_40 : decode prog_14_method_38_code 40 = .ok (.ireturn, 1) := by decide +kernel
def f_Md_parentOf_4 (M : qM) (a1 : Int32) : Nat → (Int32 → Option Int32) → Int32 → Option Int32
  | 0, _, _ => none
  | n + 1, K2, x1 => if x1 < 0 then (K2 x1) else (q_ix x1 40 <| q_ix (M.1 3 x1.toNatClampNeg) 40 <| q_ix a1 40 <| q_ix (M.1 3 a1.toNatClampNeg) 40 <| if (M.1 6 (M.1 3 x1.toNatClampNeg).toNatClampNeg) < (M.1 6 (M.1 3 a1.toNatClampNeg).toNatClampNeg) then (K2 x1) else (f_Md_parentOf_4 M a1 n K2 (x1 + (-1))))
def f_Md_parentOf (a1 : Int32) (M : qM) : Option Int32 := f_Md_parentOf_4 M a1 1000 (fun (x9 : Int32) => some x9) (a1 - 1)
abbrev rm_Md_parentOf : Room := { frames := 0, cells := 0, slots := 0, locals := 0 }
set_option maxRecDepth 100000 in
set_option maxHeartbeats 4000000 in
theorem c_Md_parentOf {l : Launch} {D : va_G} {dA : Nat → ClassId} {b : Nat} (a1 : Int32)  (M : qM) (out : Int32) (hf : f_Md_parentOf a1 M = some out) : CTi l y_Md_parentOf w_Md_parentOf rm_Md_parentOf D (tysX dA) (enM dA b) 38 b (fun _ => True) [qr (some 0), qi a1] M (out, M) := by
  refine qm_i (cc := prog_14_method_38_code) (nL := 3) (by decide) rfl (Nat.le_of_ble_eq_true rfl) ?_
  intro p e s m args below meth c Q hx hb hts0 hown hml hK hs hret
  have hts : ∀ w ∈ lw_g, w.before args s = true := fun w h => hts0 w (List.mem_cons_of_mem _ h)
  show QJ p l e rm_Md_parentOf s m args below meth c (qA 38 b) b 3 0 0 Q (qWd D (enM dA b) 38 b) M 0 [(0, qr (some 0)), (1, qi a1)] []
  unfold f_Md_parentOf at hf
  refine qj_iload_n hx hb d_Md_parentOf_0 rfl 1 rfl ?_
  refine qj_iconst (v := 1) hx hb d_Md_parentOf_1 (by decide) ?_
  refine qj_isub hx hb d_Md_parentOf_2 ?_
  refine qj_istore_n hx hb d_Md_parentOf_3 rfl (by decide) rfl ?_
  have hL4 : ∀ (n : Nat) (K2 : Int32 → Option Int32), (∀ (x9 : Int32), K2 x9 = some out → QJ p l e rm_Md_parentOf s m args below meth c (qA 38 b) b 3 0 0 Q (qWd D (enM dA b) 38 b) M 39 [(2, qi x9)] []) → ∀ (x1 : Int32), f_Md_parentOf_4 M a1 n K2 x1 = some out → QJ p l e rm_Md_parentOf s m args below meth c (qA 38 b) b 3 0 0 Q (qWd D (enM dA b) 38 b) M 4 [(0, qr (some 0)), (1, qi a1), (2, qi x1)] [] := by
    clear hf
    intro n
    induction n with
    | zero =>
      intro K2 hK2 x1 hf
      exact absurd hf (by simp [f_Md_parentOf_4])
    | succ n ih4 =>
      intro K2 hK2 x1 hf
      rw [f_Md_parentOf_4] at hf
      have ih4 := ih4 K2 hK2
      refine qj_iload_n hx hb d_Md_parentOf_4 rfl 2 rfl ?_
      refine qj_if_lt (tgt := 39) hx hb d_Md_parentOf_5 (by decide) (fun hc3 => ?_) (fun hc3 => ?_)
      · replace hf := q_if_t hc3 hf
        refine qj_sub [2] rfl ?_
        exact hK2 x1 hf
      · replace hf := q_if_f hc3 hf
        refine qj_aload_n hx hb d_Md_parentOf_8 rfl 0 rfl ?_
        refine qj_get hx hb hts hin_12 hown hK (by decide) rfl rfl 10 (by decide) (hts _ tw_452) (fun _ h => h) (qr (some 6)) rfl d_Md_parentOf_9 ?_
        refine qj_aload_n hx hb d_Md_parentOf_12 rfl 0 rfl ?_
        refine qj_get hx hb hts hin_12 hown hK (by decide) rfl rfl 6 (by decide) (hts _ tw_448) (fun _ h => h) (qr (some 3)) rfl d_Md_parentOf_13 ?_
        refine qj_iload_n hx hb d_Md_parentOf_16 rfl 2 rfl ?_
        have hf9 := q_ix_s hf; clear hf; obtain ⟨hi4, hf⟩ := hf9
        refine qj_iald (t0 := 0) hx hb hK (by decide) (fun _ _ => rfl) rfl hi4 d_Md_parentOf_17 ?_
        have hf9 := q_ix_s hf; clear hf; obtain ⟨hi5, hf⟩ := hf9
        refine qj_iald (t0 := 0) hx hb hK (by decide) (fun _ _ => rfl) rfl hi5 d_Md_parentOf_18 ?_
        refine qj_aload_n hx hb d_Md_parentOf_19 rfl 0 rfl ?_
        refine qj_get hx hb hts hin_12 hown hK (by decide) rfl rfl 10 (by decide) (hts _ tw_452) (fun _ h => h) (qr (some 6)) rfl d_Md_parentOf_20 ?_
        refine qj_aload_n hx hb d_Md_parentOf_23 rfl 0 rfl ?_
        refine qj_get hx hb hts hin_12 hown hK (by decide) rfl rfl 6 (by decide) (hts _ tw_448) (fun _ h => h) (qr (some 3)) rfl d_Md_parentOf_24 ?_
        refine qj_iload_n hx hb d_Md_parentOf_27 rfl 1 rfl ?_
        have hf9 := q_ix_s hf; clear hf; obtain ⟨hi6, hf⟩ := hf9
        refine qj_iald (t0 := 0) hx hb hK (by decide) (fun _ _ => rfl) rfl hi6 d_Md_parentOf_28 ?_
        have hf9 := q_ix_s hf; clear hf; obtain ⟨hi7, hf⟩ := hf9
        refine qj_iald (t0 := 0) hx hb hK (by decide) (fun _ _ => rfl) rfl hi7 d_Md_parentOf_29 ?_
        refine qj_icmp_lt (tgt := 39) hx hb d_Md_parentOf_30 (by decide) (fun hc8 => ?_) (fun hc8 => ?_)
        · replace hf := q_if_t hc8 hf
          refine qj_sub [2] rfl ?_
          exact hK2 x1 hf
        · replace hf := q_if_f hc8 hf
          refine qj_iinc (j := 2) (v := x1 + (-1)) hx hb d_Md_parentOf_33 rfl rfl (by decide) rfl ?_
          refine qj_goto (tgt := 4) hx hb d_Md_parentOf_36 (by decide) ?_
          refine qj_sub [1, 2, 0] rfl ?_
          exact ih4 (x1 + (-1)) hf
  refine qj_sub [1, 2, 0] rfl ?_
  refine hL4 _ _ (fun x9 hf9 => ?_) (a1 - 1) hf
  clear hf; have hf := hf9; clear hf9
  refine qj_iload_n hx hb d_Md_parentOf_39 rfl 0 rfl ?_
  exact hret _ _ _ _ d_Md_parentOf_40 (congrArg (fun z => (z, M)) (Option.some.inj hf))
theorem d_Md_parent_0 : decode prog_14_method_39_code 0 = .ok (.aload_n 0, 1) := by decide +kernel
theorem d_Md_parent_1 : decode prog_14_method_39_code 1 = .ok (.iload_n 1, 1) := by decide +kernel
theorem d_Md_parent_2 : decode prog_14_method_39_code 2 = .ok (.invokevirtual 260, 3) := by decide +kernel
theorem d_Md_parent_5 : decode prog_14_method_39_code 5 = .ok (.ifCond .eq 7, 3) := by decide +kernel
theorem d_Md_parent_8 : decode prog_14_method_39_code 8 = .ok (.iconst (-1), 1) := by decide +kernel
theorem d_Md_parent_9 : decode prog_14_method_39_code 9 = .ok (.goto 8, 3) := by decide +kernel
theorem d_Md_parent_12 : decode prog_14_method_39_code 12 = .ok (.aload_n 0, 1) := by decide +kernel
theorem d_Md_parent_13 : decode prog_14_method_39_code 13 = .ok (.iload_n 1, 1) := by decide +kernel
theorem d_Md_parent_14 : decode prog_14_method_39_code 14 = .ok (.invokevirtual 263, 3) := by decide +kernel
theorem d_Md_parent_17 : decode prog_14_method_39_code 17 = .ok (.ireturn, 1) := by decide +kernel
def f_Md_parent (a1 : Int32) (M : qM) : Option Int32 := q_bp (f_Md_none a1 M) fun x1 => if x1 = 0 then (q_bp (f_Md_parentOf a1 M) fun x3 => some x3) else (some (-1))
abbrev rm_Md_parent : Room := { frames := 1, cells := 0, slots := 0, locals := 22 }
set_option maxRecDepth 100000 in
set_option maxHeartbeats 4000000 in
theorem c_Md_parent {l : Launch} {D : va_G} {dA : Nat → ClassId} {b : Nat} (a1 : Int32)  (M : qM) (out : Int32) (hf : f_Md_parent a1 M = some out) : CTi l y_Md_parent w_Md_parent rm_Md_parent D (tysX dA) (enM dA b) 38 b (fun _ => True) [qr (some 0), qi a1] M (out, M) := by
  refine qm_i (cc := prog_14_method_39_code) (nL := 2) (by decide) rfl (Nat.le_of_ble_eq_true rfl) ?_
  intro p e s m args below meth c Q hx hb hts0 hown hml hK hs hret
  have hts : ∀ w ∈ lw_g, w.before args s = true := fun w h => hts0 w (List.mem_cons_of_mem _ h)
  show QJ p l e rm_Md_parent s m args below meth c (qA 38 b) b 2 0 0 Q (qWd D (enM dA b) 38 b) M 0 [(0, qr (some 0)), (1, qi a1)] []
  unfold f_Md_parent at hf
  refine qj_aload_n hx hb d_Md_parent_0 rfl 0 rfl ?_
  refine qj_iload_n hx hb d_Md_parent_1 rfl 1 rfl ?_
  have hf9 := q_bp_s hf; clear hf; obtain ⟨x1, hx1, hf⟩ := hf9
  refine qc_Vi (st := []) hx hb hml hown hts hK qT_ok hs (c_Md_none a1 M _ hx1) ⟨(callB_of 1 hts (q_good tw_593) rfl rfl rfl (hts _ tw_459) (hts _ tw_594) (by decide +kernel) ⟨by decide, by decide⟩), (hts _ tw_595), (hts _ tw_596)⟩ (by decide) rfl rfl rfl rfl (Nat.le_of_ble_eq_true rfl) d_Md_parent_2 ?_
  refine qj_if_eq (tgt := 12) hx hb d_Md_parent_5 (by decide) (fun hc2 => ?_) (fun hc2 => ?_)
  · replace hf := q_if_t hc2 hf
    refine qj_aload_n hx hb d_Md_parent_12 rfl 0 rfl ?_
    refine qj_iload_n hx hb d_Md_parent_13 rfl 1 rfl ?_
    have hf9 := q_bp_s hf; clear hf; obtain ⟨x3, hx3, hf⟩ := hf9
    refine qc_Vi (st := []) hx hb hml hown hts hK qT_ok hs (c_Md_parentOf a1 M _ hx3) ⟨(callB_of 1 hts (q_good tw_597) rfl rfl rfl (hts _ tw_459) (hts _ tw_598) (by decide +kernel) ⟨by decide, by decide⟩), (hts _ tw_599), (hts _ tw_600)⟩ (by decide) rfl rfl rfl rfl (Nat.le_of_ble_eq_true rfl) d_Md_parent_14 ?_
    exact hret _ _ _ _ d_Md_parent_17 (congrArg (fun z => (z, M)) (Option.some.inj hf))
  · replace hf := q_if_f hc2 hf
    refine qj_iconst (v := (-1)) hx hb d_Md_parent_8 (by decide) ?_
    refine qj_goto (tgt := 17) hx hb d_Md_parent_9 (by decide) ?_
    exact hret _ _ _ _ d_Md_parent_17 (congrArg (fun z => (z, M)) (Option.some.inj hf))
theorem d_Md_classes_0 : decode prog_14_method_40_code 0 = .ok (.aload_n 0, 1) := by decide +kernel
theorem d_Md_classes_1 : decode prog_14_method_40_code 1 = .ok (.iload_n 1, 1) := by decide +kernel
theorem d_Md_classes_2 : decode prog_14_method_40_code 2 = .ok (.invokevirtual 260, 3) := by decide +kernel
theorem d_Md_classes_5 : decode prog_14_method_40_code 5 = .ok (.ifCond .eq 7, 3) := by decide +kernel
theorem d_Md_classes_8 : decode prog_14_method_40_code 8 = .ok (.iconst (-1), 1) := by decide +kernel
theorem d_Md_classes_9 : decode prog_14_method_40_code 9 = .ok (.goto 14, 3) := by decide +kernel
theorem d_Md_classes_12 : decode prog_14_method_40_code 12 = .ok (.aload_n 0, 1) := by decide +kernel
theorem d_Md_classes_13 : decode prog_14_method_40_code 13 = .ok (.getfield 22, 3) := by decide +kernel
theorem d_Md_classes_16 : decode prog_14_method_40_code 16 = .ok (.aload_n 0, 1) := by decide +kernel
theorem d_Md_classes_17 : decode prog_14_method_40_code 17 = .ok (.getfield 16, 3) := by decide +kernel
theorem d_Md_classes_20 : decode prog_14_method_40_code 20 = .ok (.iload_n 1, 1) := by decide +kernel
theorem d_Md_classes_21 : decode prog_14_method_40_code 21 = .ok (.iaload, 1) := by decide +kernel
theorem d_Md_classes_22 : decode prog_14_method_40_code 22 = .ok (.iaload, 1) := by decide +kernel
theorem d_Md_classes_23 : decode prog_14_method_40_code 23 = .ok (.ireturn, 1) := by decide +kernel
def f_Md_classes (a1 : Int32) (M : qM) : Option Int32 := q_bp (f_Md_none a1 M) fun x1 => if x1 = 0 then (q_ix a1 40 <| q_ix (M.1 3 a1.toNatClampNeg) 40 <| some (M.1 5 (M.1 3 a1.toNatClampNeg).toNatClampNeg)) else (some (-1))
abbrev rm_Md_classes : Room := { frames := 1, cells := 0, slots := 0, locals := 21 }
set_option maxRecDepth 100000 in
set_option maxHeartbeats 4000000 in
theorem c_Md_classes {l : Launch} {D : va_G} {dA : Nat → ClassId} {b : Nat} (a1 : Int32)  (M : qM) (out : Int32) (hf : f_Md_classes a1 M = some out) : CTi l y_Md_classes w_Md_classes rm_Md_classes D (tysX dA) (enM dA b) 38 b (fun _ => True) [qr (some 0), qi a1] M (out, M) := by
  refine qm_i (cc := prog_14_method_40_code) (nL := 2) (by decide) rfl (Nat.le_of_ble_eq_true rfl) ?_
  intro p e s m args below meth c Q hx hb hts0 hown hml hK hs hret
  have hts : ∀ w ∈ lw_g, w.before args s = true := fun w h => hts0 w (List.mem_cons_of_mem _ h)
  show QJ p l e rm_Md_classes s m args below meth c (qA 38 b) b 2 0 0 Q (qWd D (enM dA b) 38 b) M 0 [(0, qr (some 0)), (1, qi a1)] []
  unfold f_Md_classes at hf
  refine qj_aload_n hx hb d_Md_classes_0 rfl 0 rfl ?_
  refine qj_iload_n hx hb d_Md_classes_1 rfl 1 rfl ?_
  have hf9 := q_bp_s hf; clear hf; obtain ⟨x1, hx1, hf⟩ := hf9
  refine qc_Vi (st := []) hx hb hml hown hts hK qT_ok hs (c_Md_none a1 M _ hx1) ⟨(callB_of 1 hts (q_good tw_593) rfl rfl rfl (hts _ tw_459) (hts _ tw_594) (by decide +kernel) ⟨by decide, by decide⟩), (hts _ tw_595), (hts _ tw_596)⟩ (by decide) rfl rfl rfl rfl (Nat.le_of_ble_eq_true rfl) d_Md_classes_2 ?_
  refine qj_if_eq (tgt := 12) hx hb d_Md_classes_5 (by decide) (fun hc2 => ?_) (fun hc2 => ?_)
  · replace hf := q_if_t hc2 hf
    refine qj_aload_n hx hb d_Md_classes_12 rfl 0 rfl ?_
    refine qj_get hx hb hts hin_12 hown hK (by decide) rfl rfl 9 (by decide) (hts _ tw_451) (fun _ h => h) (qr (some 5)) rfl d_Md_classes_13 ?_
    refine qj_aload_n hx hb d_Md_classes_16 rfl 0 rfl ?_
    refine qj_get hx hb hts hin_12 hown hK (by decide) rfl rfl 6 (by decide) (hts _ tw_448) (fun _ h => h) (qr (some 3)) rfl d_Md_classes_17 ?_
    refine qj_iload_n hx hb d_Md_classes_20 rfl 1 rfl ?_
    have hf9 := q_ix_s hf; clear hf; obtain ⟨hi3, hf⟩ := hf9
    refine qj_iald (t0 := 0) hx hb hK (by decide) (fun _ _ => rfl) rfl hi3 d_Md_classes_21 ?_
    have hf9 := q_ix_s hf; clear hf; obtain ⟨hi4, hf⟩ := hf9
    refine qj_iald (t0 := 0) hx hb hK (by decide) (fun _ _ => rfl) rfl hi4 d_Md_classes_22 ?_
    exact hret _ _ _ _ d_Md_classes_23 (congrArg (fun z => (z, M)) (Option.some.inj hf))
  · replace hf := q_if_f hc2 hf
    refine qj_iconst (v := (-1)) hx hb d_Md_classes_8 (by decide) ?_
    refine qj_goto (tgt := 23) hx hb d_Md_classes_9 (by decide) ?_
    exact hret _ _ _ _ d_Md_classes_23 (congrArg (fun z => (z, M)) (Option.some.inj hf))
theorem d_Md_find_0 : decode prog_14_method_41_code 0 = .ok (.aload_n 0, 1) := by decide +kernel
theorem d_Md_find_1 : decode prog_14_method_41_code 1 = .ok (.iload_n 1, 1) := by decide +kernel
theorem d_Md_find_2 : decode prog_14_method_41_code 2 = .ok (.invokevirtual 260, 3) := by decide +kernel
theorem d_Md_find_5 : decode prog_14_method_41_code 5 = .ok (.ifCond .ne 22, 3) := by decide +kernel
theorem d_Md_find_8 : decode prog_14_method_41_code 8 = .ok (.aload_n 0, 1) := by decide +kernel
theorem d_Md_find_9 : decode prog_14_method_41_code 9 = .ok (.getfield 19, 3) := by decide +kernel
theorem d_Md_find_12 : decode prog_14_method_41_code 12 = .ok (.aload_n 0, 1) := by decide +kernel
theorem d_Md_find_13 : decode prog_14_method_41_code 13 = .ok (.getfield 16, 3) := by decide +kernel
theorem d_Md_find_16 : decode prog_14_method_41_code 16 = .ok (.iload_n 1, 1) := by decide +kernel
theorem d_Md_find_17 : decode prog_14_method_41_code 17 = .ok (.iaload, 1) := by decide +kernel
theorem d_Md_find_18 : decode prog_14_method_41_code 18 = .ok (.iaload, 1) := by decide +kernel
theorem d_Md_find_19 : decode prog_14_method_41_code 19 = .ok (.iconst 1, 1) := by decide +kernel
theorem d_Md_find_20 : decode prog_14_method_41_code 20 = .ok (.if_icmp .ne 7, 3) := by decide +kernel
theorem d_Md_find_23 : decode prog_14_method_41_code 23 = .ok (.iload_n 2, 1) := by decide +kernel
theorem d_Md_find_24 : decode prog_14_method_41_code 24 = .ok (.ifCond .ge 5, 3) := by decide +kernel
theorem d_Md_find_27 : decode prog_14_method_41_code 27 = .ok (.iconst (-1), 1) := by decide +kernel
theorem d_Md_find_28 : decode prog_14_method_41_code 28 = .ok (.ireturn, 1) := by decide +kernel
theorem d_Md_find_29 : decode prog_14_method_41_code 29 = .ok (.iload_n 2, 1) := by decide +kernel
theorem d_Md_find_30 : decode prog_14_method_41_code 30 = .ok (.istore_n 3, 1) := by decide +kernel
theorem d_Md_find_31 : decode prog_14_method_41_code 31 = .ok (.iconst 0, 1) := by decide +kernel
theorem d_Md_find_32 : decode prog_14_method_41_code 32 = .ok (.istore 4, 2) := by decide +kernel
theorem d_Md_find_34 : decode prog_14_method_41_code 34 = .ok (.iload 4, 2) := by decide +kernel
theorem d_Md_find_36 : decode prog_14_method_41_code 36 = .ok (.aload_n 0, 1) := by decide +kernel
theorem d_Md_find_37 : decode prog_14_method_41_code 37 = .ok (.getfield 154, 3) := by decide +kernel
theorem d_Md_find_40 : decode prog_14_method_41_code 40 = .ok (.if_icmp .ge 35, 3) := by decide +kernel
theorem d_Md_find_43 : decode prog_14_method_41_code 43 = .ok (.aload_n 0, 1) := by decide +kernel
theorem d_Md_find_44 : decode prog_14_method_41_code 44 = .ok (.getfield 43, 3) := by decide +kernel
theorem d_Md_find_47 : decode prog_14_method_41_code 47 = .ok (.iload 4, 2) := by decide +kernel
theorem d_Md_find_49 : decode prog_14_method_41_code 49 = .ok (.iaload, 1) := by decide +kernel
theorem d_Md_find_50 : decode prog_14_method_41_code 50 = .ok (.aload_n 0, 1) := by decide +kernel
theorem d_Md_find_51 : decode prog_14_method_41_code 51 = .ok (.getfield 16, 3) := by decide +kernel
theorem d_Md_find_54 : decode prog_14_method_41_code 54 = .ok (.iload_n 1, 1) := by decide +kernel
theorem d_Md_find_55 : decode prog_14_method_41_code 55 = .ok (.iaload, 1) := by decide +kernel
theorem d_Md_find_56 : decode prog_14_method_41_code 56 = .ok (.if_icmp .ne 13, 3) := by decide +kernel
theorem d_Md_find_59 : decode prog_14_method_41_code 59 = .ok (.iload_n 3, 1) := by decide +kernel
theorem d_Md_find_60 : decode prog_14_method_41_code 60 = .ok (.ifCond .ne 6, 3) := by decide +kernel
theorem d_Md_find_63 : decode prog_14_method_41_code 63 = .ok (.iload 4, 2) := by decide +kernel
theorem d_Md_find_65 : decode prog_14_method_41_code 65 = .ok (.ireturn, 1) := by decide +kernel
theorem d_Md_find_66 : decode prog_14_method_41_code 66 = .ok (.iinc 3 (-1), 3) := by decide +kernel
theorem d_Md_find_69 : decode prog_14_method_41_code 69 = .ok (.iinc 4 1, 3) := by decide +kernel
theorem d_Md_find_72 : decode prog_14_method_41_code 72 = .ok (.goto (-38), 3) := by decide +kernel
theorem d_Md_find_75 : decode prog_14_method_41_code 75 = .ok (.iconst (-1), 1) := by decide +kernel
theorem d_Md_find_76 : decode prog_14_method_41_code 76 = .ok (.ireturn, 1) := by decide +kernel
def f_Md_find_34 (M : qM) (a1 : Int32) : Nat → (Option Int32) → Int32 → Int32 → Option Int32
  | 0, _, _, _ => none
  | n + 1, K9, x7, x8 => if (M.1 0 17) ≤ x8 then (K9) else (q_ix x8 160 <| q_ix a1 40 <| if (M.1 12 x8.toNatClampNeg) = (M.1 3 a1.toNatClampNeg) then (if x7 = 0 then (some x8) else (f_Md_find_34 M a1 n K9 (x7 + (-1)) (x8 + 1))) else (f_Md_find_34 M a1 n K9 x7 (x8 + 1)))
def f_Md_find (a1 : Int32) (a2 : Int32) (M : qM) : Option Int32 := q_bp (f_Md_none a1 M) fun x1 => if x1 = 0 then (q_ix a1 40 <| q_ix (M.1 3 a1.toNatClampNeg) 40 <| if (M.1 4 (M.1 3 a1.toNatClampNeg).toNatClampNeg) = 1 then (if 0 ≤ a2 then (f_Md_find_34 M a1 1000 (some (-1)) a2 0) else (some (-1))) else (some (-1))) else (some (-1))
abbrev rm_Md_find : Room := { frames := 1, cells := 0, slots := 0, locals := 21 }
set_option maxRecDepth 100000 in
set_option maxHeartbeats 4000000 in
theorem c_Md_find {l : Launch} {D : va_G} {dA : Nat → ClassId} {b : Nat} (a1 : Int32) (a2 : Int32)  (M : qM) (out : Int32) (hf : f_Md_find a1 a2 M = some out) : CTi l y_Md_find w_Md_find rm_Md_find D (tysX dA) (enM dA b) 38 b (fun _ => True) [qr (some 0), qi a1, qi a2] M (out, M) := by
  refine qm_i (cc := prog_14_method_41_code) (nL := 5) (by decide) rfl (Nat.le_of_ble_eq_true rfl) ?_
  intro p e s m args below meth c Q hx hb hts0 hown hml hK hs hret
  have hts : ∀ w ∈ lw_g, w.before args s = true := fun w h => hts0 w (List.mem_cons_of_mem _ h)
  show QJ p l e rm_Md_find s m args below meth c (qA 38 b) b 5 0 0 Q (qWd D (enM dA b) 38 b) M 0 [(0, qr (some 0)), (1, qi a1), (2, qi a2)] []
  unfold f_Md_find at hf
  refine qj_aload_n hx hb d_Md_find_0 rfl 0 rfl ?_
  refine qj_iload_n hx hb d_Md_find_1 rfl 1 rfl ?_
  have hf9 := q_bp_s hf; clear hf; obtain ⟨x1, hx1, hf⟩ := hf9
  refine qc_Vi (st := []) hx hb hml hown hts hK qT_ok hs (c_Md_none a1 M _ hx1) ⟨(callB_of 1 hts (q_good tw_593) rfl rfl rfl (hts _ tw_459) (hts _ tw_594) (by decide +kernel) ⟨by decide, by decide⟩), (hts _ tw_595), (hts _ tw_596)⟩ (by decide) rfl rfl rfl rfl (Nat.le_of_ble_eq_true rfl) d_Md_find_2 ?_
  refine qj_if_ne (tgt := 27) hx hb d_Md_find_5 (by decide) (fun hc2 => ?_) (fun hc2 => ?_)
  · replace hf := q_if_f hc2 hf
    refine qj_iconst (v := (-1)) hx hb d_Md_find_27 (by decide) ?_
    exact hret _ _ _ _ d_Md_find_28 (congrArg (fun z => (z, M)) (Option.some.inj hf))
  · replace hf := q_if_t hc2 hf
    refine qj_aload_n hx hb d_Md_find_8 rfl 0 rfl ?_
    refine qj_get hx hb hts hin_12 hown hK (by decide) rfl rfl 8 (by decide) (hts _ tw_450) (fun _ h => h) (qr (some 4)) rfl d_Md_find_9 ?_
    refine qj_aload_n hx hb d_Md_find_12 rfl 0 rfl ?_
    refine qj_get hx hb hts hin_12 hown hK (by decide) rfl rfl 6 (by decide) (hts _ tw_448) (fun _ h => h) (qr (some 3)) rfl d_Md_find_13 ?_
    refine qj_iload_n hx hb d_Md_find_16 rfl 1 rfl ?_
    have hf9 := q_ix_s hf; clear hf; obtain ⟨hi3, hf⟩ := hf9
    refine qj_iald (t0 := 0) hx hb hK (by decide) (fun _ _ => rfl) rfl hi3 d_Md_find_17 ?_
    have hf9 := q_ix_s hf; clear hf; obtain ⟨hi4, hf⟩ := hf9
    refine qj_iald (t0 := 0) hx hb hK (by decide) (fun _ _ => rfl) rfl hi4 d_Md_find_18 ?_
    refine qj_iconst (v := 1) hx hb d_Md_find_19 (by decide) ?_
    refine qj_icmp_ne (tgt := 27) hx hb d_Md_find_20 (by decide) (fun hc5 => ?_) (fun hc5 => ?_)
    · replace hf := q_if_f hc5 hf
      refine qj_iconst (v := (-1)) hx hb d_Md_find_27 (by decide) ?_
      exact hret _ _ _ _ d_Md_find_28 (congrArg (fun z => (z, M)) (Option.some.inj hf))
    · replace hf := q_if_t hc5 hf
      refine qj_iload_n hx hb d_Md_find_23 rfl 2 rfl ?_
      refine qj_if_ge (tgt := 29) hx hb d_Md_find_24 (by decide) (fun hc6 => ?_) (fun hc6 => ?_)
      · replace hf := q_if_t hc6 hf
        refine qj_iload_n hx hb d_Md_find_29 rfl 2 rfl ?_
        refine qj_istore_n hx hb d_Md_find_30 rfl (by decide) rfl ?_
        refine qj_iconst (v := 0) hx hb d_Md_find_31 (by decide) ?_
        refine qj_istore hx hb d_Md_find_32 (by decide) rfl ?_
        have hL34 : ∀ (n : Nat) (K9 : Option Int32), (K9 = some out → QJ p l e rm_Md_find s m args below meth c (qA 38 b) b 5 0 0 Q (qWd D (enM dA b) 38 b) M 75 [] []) → ∀ (x7 : Int32) (x8 : Int32), f_Md_find_34 M a1 n K9 x7 x8 = some out → QJ p l e rm_Md_find s m args below meth c (qA 38 b) b 5 0 0 Q (qWd D (enM dA b) 38 b) M 34 [(0, qr (some 0)), (1, qi a1), (3, qi x7), (4, qi x8)] [] := by
          clear hf
          intro n
          induction n with
          | zero =>
            intro K9 hK9 x7 x8 hf
            exact absurd hf (by simp [f_Md_find_34])
          | succ n ih34 =>
            intro K9 hK9 x7 x8 hf
            rw [f_Md_find_34] at hf
            have ih34 := ih34 K9 hK9
            refine qj_iload hx hb d_Md_find_34 3 rfl ?_
            refine qj_aload_n hx hb d_Md_find_36 rfl 0 rfl ?_
            refine qj_get hx hb hts hin_12 hown hK (by decide) rfl rfl 17 (by decide) (hts _ tw_456) (fun _ h => h) (qi (M.1 0 17)) rfl d_Md_find_37 ?_
            refine qj_icmp_ge (tgt := 75) hx hb d_Md_find_40 (by decide) (fun hc10 => ?_) (fun hc10 => ?_)
            · replace hf := q_if_t hc10 hf
              refine qj_sub [] rfl ?_
              exact hK9  hf
            · replace hf := q_if_f hc10 hf
              refine qj_aload_n hx hb d_Md_find_43 rfl 0 rfl ?_
              refine qj_get hx hb hts hin_12 hown hK (by decide) rfl rfl 19 (by decide) (hts _ tw_569) (fun _ h => h) (qr (some 12)) rfl d_Md_find_44 ?_
              refine qj_iload hx hb d_Md_find_47 3 rfl ?_
              have hf9 := q_ix_s hf; clear hf; obtain ⟨hi11, hf⟩ := hf9
              refine qj_iald (t0 := 0) hx hb hK (by decide) (fun _ _ => rfl) rfl hi11 d_Md_find_49 ?_
              refine qj_aload_n hx hb d_Md_find_50 rfl 0 rfl ?_
              refine qj_get hx hb hts hin_12 hown hK (by decide) rfl rfl 6 (by decide) (hts _ tw_448) (fun _ h => h) (qr (some 3)) rfl d_Md_find_51 ?_
              refine qj_iload_n hx hb d_Md_find_54 rfl 1 rfl ?_
              have hf9 := q_ix_s hf; clear hf; obtain ⟨hi12, hf⟩ := hf9
              refine qj_iald (t0 := 0) hx hb hK (by decide) (fun _ _ => rfl) rfl hi12 d_Md_find_55 ?_
              refine qj_icmp_ne (tgt := 69) hx hb d_Md_find_56 (by decide) (fun hc13 => ?_) (fun hc13 => ?_)
              · replace hf := q_if_f hc13 hf
                refine qj_iinc (j := 3) (v := x8 + 1) hx hb d_Md_find_69 rfl rfl (by decide) rfl ?_
                refine qj_goto (tgt := 34) hx hb d_Md_find_72 (by decide) ?_
                refine qj_sub [1, 2, 3, 0] rfl ?_
                exact ih34 x7 (x8 + 1) hf
              · replace hf := q_if_t hc13 hf
                refine qj_iload_n hx hb d_Md_find_59 rfl 2 rfl ?_
                refine qj_if_ne (tgt := 66) hx hb d_Md_find_60 (by decide) (fun hc14 => ?_) (fun hc14 => ?_)
                · replace hf := q_if_f hc14 hf
                  refine qj_iinc (j := 2) (v := x7 + (-1)) hx hb d_Md_find_66 rfl rfl (by decide) rfl ?_
                  refine qj_iinc (j := 3) (v := x8 + 1) hx hb d_Md_find_69 rfl rfl (by decide) rfl ?_
                  refine qj_goto (tgt := 34) hx hb d_Md_find_72 (by decide) ?_
                  refine qj_sub [2, 3, 1, 0] rfl ?_
                  exact ih34 (x7 + (-1)) (x8 + 1) hf
                · replace hf := q_if_t hc14 hf
                  refine qj_iload hx hb d_Md_find_63 3 rfl ?_
                  exact hret _ _ _ _ d_Md_find_65 (congrArg (fun z => (z, M)) (Option.some.inj hf))
        refine qj_sub [2, 3, 1, 0] rfl ?_
        refine hL34 _ _ (fun hf9 => ?_) a2 0 hf
        clear hf; have hf := hf9; clear hf9
        refine qj_iconst (v := (-1)) hx hb d_Md_find_75 (by decide) ?_
        exact hret _ _ _ _ d_Md_find_76 (congrArg (fun z => (z, M)) (Option.some.inj hf))
      · replace hf := q_if_f hc6 hf
        refine qj_iconst (v := (-1)) hx hb d_Md_find_27 (by decide) ?_
        exact hret _ _ _ _ d_Md_find_28 (congrArg (fun z => (z, M)) (Option.some.inj hf))
theorem d_Md_letter_0 : decode prog_14_method_42_code 0 = .ok (.aload_n 0, 1) := by decide +kernel
theorem d_Md_letter_1 : decode prog_14_method_42_code 1 = .ok (.iload_n 1, 1) := by decide +kernel
theorem d_Md_letter_2 : decode prog_14_method_42_code 2 = .ok (.iload_n 2, 1) := by decide +kernel
theorem d_Md_letter_3 : decode prog_14_method_42_code 3 = .ok (.invokevirtual 266, 3) := by decide +kernel
theorem d_Md_letter_6 : decode prog_14_method_42_code 6 = .ok (.istore_n 3, 1) := by decide +kernel
theorem d_Md_letter_7 : decode prog_14_method_42_code 7 = .ok (.iload_n 3, 1) := by decide +kernel
theorem d_Md_letter_8 : decode prog_14_method_42_code 8 = .ok (.ifCond .ge 7, 3) := by decide +kernel
theorem d_Md_letter_11 : decode prog_14_method_42_code 11 = .ok (.iconst (-1), 1) := by decide +kernel
theorem d_Md_letter_12 : decode prog_14_method_42_code 12 = .ok (.goto 9, 3) := by decide +kernel
theorem d_Md_letter_15 : decode prog_14_method_42_code 15 = .ok (.aload_n 0, 1) := by decide +kernel
theorem d_Md_letter_16 : decode prog_14_method_42_code 16 = .ok (.getfield 40, 3) := by decide +kernel
theorem d_Md_letter_19 : decode prog_14_method_42_code 19 = .ok (.iload_n 3, 1) := by decide +kernel
theorem d_Md_letter_20 : decode prog_14_method_42_code 20 = .ok (.iaload, 1) := by decide +kernel
theorem d_Md_letter_21 : decode prog_14_method_42_code 21 = .ok (.ireturn, 1) := by decide +kernel
def f_Md_letter (a1 : Int32) (a2 : Int32) (M : qM) : Option Int32 := q_bp (f_Md_find a1 a2 M) fun x1 => if 0 ≤ x1 then (q_ix x1 160 <| some (M.1 11 x1.toNatClampNeg)) else (some (-1))
abbrev rm_Md_letter : Room := { frames := 2, cells := 0, slots := 0, locals := 45 }
set_option maxRecDepth 100000 in
set_option maxHeartbeats 4000000 in
theorem c_Md_letter {l : Launch} {D : va_G} {dA : Nat → ClassId} {b : Nat} (a1 : Int32) (a2 : Int32)  (M : qM) (out : Int32) (hf : f_Md_letter a1 a2 M = some out) : CTi l y_Md_letter w_Md_letter rm_Md_letter D (tysX dA) (enM dA b) 38 b (fun _ => True) [qr (some 0), qi a1, qi a2] M (out, M) := by
  refine qm_i (cc := prog_14_method_42_code) (nL := 4) (by decide) rfl (Nat.le_of_ble_eq_true rfl) ?_
  intro p e s m args below meth c Q hx hb hts0 hown hml hK hs hret
  have hts : ∀ w ∈ lw_g, w.before args s = true := fun w h => hts0 w (List.mem_cons_of_mem _ h)
  show QJ p l e rm_Md_letter s m args below meth c (qA 38 b) b 4 0 0 Q (qWd D (enM dA b) 38 b) M 0 [(0, qr (some 0)), (1, qi a1), (2, qi a2)] []
  unfold f_Md_letter at hf
  refine qj_aload_n hx hb d_Md_letter_0 rfl 0 rfl ?_
  refine qj_iload_n hx hb d_Md_letter_1 rfl 1 rfl ?_
  refine qj_iload_n hx hb d_Md_letter_2 rfl 2 rfl ?_
  have hf9 := q_bp_s hf; clear hf; obtain ⟨x1, hx1, hf⟩ := hf9
  refine qc_Vi (st := []) hx hb hml hown hts hK qT_ok hs (c_Md_find a1 a2 M _ hx1) ⟨(callB_of 2 hts (q_good tw_601) rfl rfl rfl (hts _ tw_459) (hts _ tw_602) (by decide +kernel) ⟨by decide, by decide⟩), (hts _ tw_603), (hts _ tw_604)⟩ (by decide) rfl rfl rfl rfl (Nat.le_of_ble_eq_true rfl) d_Md_letter_3 ?_
  refine qj_istore_n hx hb d_Md_letter_6 rfl (by decide) rfl ?_
  refine qj_iload_n hx hb d_Md_letter_7 rfl 0 rfl ?_
  refine qj_if_ge (tgt := 15) hx hb d_Md_letter_8 (by decide) (fun hc2 => ?_) (fun hc2 => ?_)
  · replace hf := q_if_t hc2 hf
    refine qj_aload_n hx hb d_Md_letter_15 rfl 1 rfl ?_
    refine qj_get hx hb hts hin_12 hown hK (by decide) rfl rfl 18 (by decide) (hts _ tw_568) (fun _ h => h) (qr (some 11)) rfl d_Md_letter_16 ?_
    refine qj_iload_n hx hb d_Md_letter_19 rfl 0 rfl ?_
    have hf9 := q_ix_s hf; clear hf; obtain ⟨hi3, hf⟩ := hf9
    refine qj_iald (t0 := 0) hx hb hK (by decide) (fun _ _ => rfl) rfl hi3 d_Md_letter_20 ?_
    exact hret _ _ _ _ d_Md_letter_21 (congrArg (fun z => (z, M)) (Option.some.inj hf))
  · replace hf := q_if_f hc2 hf
    refine qj_iconst (v := (-1)) hx hb d_Md_letter_11 (by decide) ?_
    refine qj_goto (tgt := 21) hx hb d_Md_letter_12 (by decide) ?_
    exact hret _ _ _ _ d_Md_letter_21 (congrArg (fun z => (z, M)) (Option.some.inj hf))
theorem d_Md_open_0 : decode prog_14_method_43_code 0 = .ok (.aload_n 0, 1) := by decide +kernel
theorem d_Md_open_1 : decode prog_14_method_43_code 1 = .ok (.getfield 129, 3) := by decide +kernel
theorem d_Md_open_4 : decode prog_14_method_43_code 4 = .ok (.ifCond .eq 7, 3) := by decide +kernel
theorem d_Md_open_7 : decode prog_14_method_43_code 7 = .ok (.iconst (-1), 1) := by decide +kernel
theorem d_Md_open_8 : decode prog_14_method_43_code 8 = .ok (.goto 7, 3) := by decide +kernel
theorem d_Md_open_11 : decode prog_14_method_43_code 11 = .ok (.aload_n 0, 1) := by decide +kernel
theorem d_Md_open_12 : decode prog_14_method_43_code 12 = .ok (.getfield 148, 3) := by decide +kernel
theorem d_Md_open_15 : decode prog_14_method_43_code 15 = .ok (.ireturn, 1) := by decide +kernel
def f_Md_open  (M : qM) : Option Int32 := if (M.1 0 4) = 0 then (some (M.1 0 13)) else (some (-1))
abbrev rm_Md_open : Room := { frames := 0, cells := 0, slots := 0, locals := 0 }
set_option maxRecDepth 100000 in
set_option maxHeartbeats 4000000 in
theorem c_Md_open {l : Launch} {D : va_G} {dA : Nat → ClassId} {b : Nat}   (M : qM) (out : Int32) (hf : f_Md_open M = some out) : CTi l y_Md_open w_Md_open rm_Md_open D (tysX dA) (enM dA b) 38 b (fun _ => True) [qr (some 0)] M (out, M) := by
  refine qm_i (cc := prog_14_method_43_code) (nL := 1) (by decide) rfl (Nat.le_of_ble_eq_true rfl) ?_
  intro p e s m args below meth c Q hx hb hts0 hown hml hK hs hret
  have hts : ∀ w ∈ lw_g, w.before args s = true := fun w h => hts0 w (List.mem_cons_of_mem _ h)
  show QJ p l e rm_Md_open s m args below meth c (qA 38 b) b 1 0 0 Q (qWd D (enM dA b) 38 b) M 0 [(0, qr (some 0))] []
  unfold f_Md_open at hf
  refine qj_aload_n hx hb d_Md_open_0 rfl 0 rfl ?_
  refine qj_get hx hb hts hin_12 hown hK (by decide) rfl rfl 4 (by decide) (hts _ tw_446) (fun _ h => h) (qi (M.1 0 4)) rfl d_Md_open_1 ?_
  refine qj_if_eq (tgt := 11) hx hb d_Md_open_4 (by decide) (fun hc1 => ?_) (fun hc1 => ?_)
  · replace hf := q_if_t hc1 hf
    refine qj_aload_n hx hb d_Md_open_11 rfl 0 rfl ?_
    refine qj_get hx hb hts hin_12 hown hK (by decide) rfl rfl 13 (by decide) (hts _ tw_454) (fun _ h => h) (qi (M.1 0 13)) rfl d_Md_open_12 ?_
    exact hret _ _ _ _ d_Md_open_15 (congrArg (fun z => (z, M)) (Option.some.inj hf))
  · replace hf := q_if_f hc1 hf
    refine qj_iconst (v := (-1)) hx hb d_Md_open_7 (by decide) ?_
    refine qj_goto (tgt := 15) hx hb d_Md_open_8 (by decide) ?_
    exact hret _ _ _ _ d_Md_open_15 (congrArg (fun z => (z, M)) (Option.some.inj hf))
theorem d_Md_nextSign_0 : decode prog_14_method_45_code 0 = .ok (.iload_n 1, 1) := by decide +kernel
theorem d_Md_nextSign_1 : decode prog_14_method_45_code 1 = .ok (.istore_n 3, 1) := by decide +kernel
theorem d_Md_nextSign_2 : decode prog_14_method_45_code 2 = .ok (.iload_n 3, 1) := by decide +kernel
theorem d_Md_nextSign_3 : decode prog_14_method_45_code 3 = .ok (.aload_n 0, 1) := by decide +kernel
theorem d_Md_nextSign_4 : decode prog_14_method_45_code 4 = .ok (.getfield 139, 3) := by decide +kernel
theorem d_Md_nextSign_7 : decode prog_14_method_45_code 7 = .ok (.if_icmp .ge 21, 3) := by decide +kernel
theorem d_Md_nextSign_10 : decode prog_14_method_45_code 10 = .ok (.aload_n 0, 1) := by decide +kernel
theorem d_Md_nextSign_11 : decode prog_14_method_45_code 11 = .ok (.getfield 13, 3) := by decide +kernel
theorem d_Md_nextSign_14 : decode prog_14_method_45_code 14 = .ok (.iload_n 3, 1) := by decide +kernel
theorem d_Md_nextSign_15 : decode prog_14_method_45_code 15 = .ok (.iaload, 1) := by decide +kernel
theorem d_Md_nextSign_16 : decode prog_14_method_45_code 16 = .ok (.iload_n 2, 1) := by decide +kernel
theorem d_Md_nextSign_17 : decode prog_14_method_45_code 17 = .ok (.if_icmp .ne 5, 3) := by decide +kernel
theorem d_Md_nextSign_20 : decode prog_14_method_45_code 20 = .ok (.iload_n 3, 1) := by decide +kernel
theorem d_Md_nextSign_21 : decode prog_14_method_45_code 21 = .ok (.ireturn, 1) := by decide +kernel
theorem d_Md_nextSign_22 : decode prog_14_method_45_code 22 = .ok (.iinc 3 1, 3) := by decide +kernel
theorem d_Md_nextSign_25 : decode prog_14_method_45_code 25 = .ok (.goto (-23), 3) := by decide +kernel
theorem d_Md_nextSign_28 : decode prog_14_method_45_code 28 = .ok (.iconst (-1), 1) := by decide +kernel
theorem d_Md_nextSign_29 : decode prog_14_method_45_code 29 = .ok (.ireturn, 1) := by decide +kernel
def f_Md_nextSign_2 (M : qM) (a2 : Int32) : Nat → (Option Int32) → Int32 → Option Int32
  | 0, _, _ => none
  | n + 1, K2, x1 => if (M.1 0 2) ≤ x1 then (K2) else (q_ix x1 120 <| if (M.1 2 x1.toNatClampNeg) = a2 then (some x1) else (f_Md_nextSign_2 M a2 n K2 (x1 + 1)))
def f_Md_nextSign (a1 : Int32) (a2 : Int32) (M : qM) : Option Int32 := f_Md_nextSign_2 M a2 1000 (some (-1)) a1
abbrev rm_Md_nextSign : Room := { frames := 0, cells := 0, slots := 0, locals := 0 }
set_option maxRecDepth 100000 in
set_option maxHeartbeats 4000000 in
theorem c_Md_nextSign {l : Launch} {D : va_G} {dA : Nat → ClassId} {b : Nat} (a1 : Int32) (a2 : Int32)  (M : qM) (out : Int32) (hf : f_Md_nextSign a1 a2 M = some out) : CTi l y_Md_nextSign w_Md_nextSign rm_Md_nextSign D (tysX dA) (enM dA b) 38 b (fun _ => True) [qr (some 0), qi a1, qi a2] M (out, M) := by
  refine qm_i (cc := prog_14_method_45_code) (nL := 4) (by decide) rfl (Nat.le_of_ble_eq_true rfl) ?_
  intro p e s m args below meth c Q hx hb hts0 hown hml hK hs hret
  have hts : ∀ w ∈ lw_g, w.before args s = true := fun w h => hts0 w (List.mem_cons_of_mem _ h)
  show QJ p l e rm_Md_nextSign s m args below meth c (qA 38 b) b 4 0 0 Q (qWd D (enM dA b) 38 b) M 0 [(0, qr (some 0)), (1, qi a1), (2, qi a2)] []
  unfold f_Md_nextSign at hf
  refine qj_iload_n hx hb d_Md_nextSign_0 rfl 1 rfl ?_
  refine qj_istore_n hx hb d_Md_nextSign_1 rfl (by decide) rfl ?_
  have hL2 : ∀ (n : Nat) (K2 : Option Int32), (K2 = some out → QJ p l e rm_Md_nextSign s m args below meth c (qA 38 b) b 4 0 0 Q (qWd D (enM dA b) 38 b) M 28 [] []) → ∀ (x1 : Int32), f_Md_nextSign_2 M a2 n K2 x1 = some out → QJ p l e rm_Md_nextSign s m args below meth c (qA 38 b) b 4 0 0 Q (qWd D (enM dA b) 38 b) M 2 [(0, qr (some 0)), (2, qi a2), (3, qi x1)] [] := by
    clear hf
    intro n
    induction n with
    | zero =>
      intro K2 hK2 x1 hf
      exact absurd hf (by simp [f_Md_nextSign_2])
    | succ n ih2 =>
      intro K2 hK2 x1 hf
      rw [f_Md_nextSign_2] at hf
      have ih2 := ih2 K2 hK2
      refine qj_iload_n hx hb d_Md_nextSign_2 rfl 2 rfl ?_
      refine qj_aload_n hx hb d_Md_nextSign_3 rfl 0 rfl ?_
      refine qj_get hx hb hts hin_12 hown hK (by decide) rfl rfl 2 (by decide) (hts _ tw_591) (fun _ h => h) (qi (M.1 0 2)) rfl d_Md_nextSign_4 ?_
      refine qj_icmp_ge (tgt := 28) hx hb d_Md_nextSign_7 (by decide) (fun hc3 => ?_) (fun hc3 => ?_)
      · replace hf := q_if_t hc3 hf
        refine qj_sub [] rfl ?_
        exact hK2  hf
      · replace hf := q_if_f hc3 hf
        refine qj_aload_n hx hb d_Md_nextSign_10 rfl 0 rfl ?_
        refine qj_get hx hb hts hin_12 hown hK (by decide) rfl rfl 3 (by decide) (hts _ tw_592) (fun _ h => h) (qr (some 2)) rfl d_Md_nextSign_11 ?_
        refine qj_iload_n hx hb d_Md_nextSign_14 rfl 2 rfl ?_
        have hf9 := q_ix_s hf; clear hf; obtain ⟨hi4, hf⟩ := hf9
        refine qj_iald (t0 := 0) hx hb hK (by decide) (fun _ _ => rfl) rfl hi4 d_Md_nextSign_15 ?_
        refine qj_iload_n hx hb d_Md_nextSign_16 rfl 1 rfl ?_
        refine qj_icmp_ne (tgt := 22) hx hb d_Md_nextSign_17 (by decide) (fun hc5 => ?_) (fun hc5 => ?_)
        · replace hf := q_if_f hc5 hf
          refine qj_iinc (j := 2) (v := x1 + 1) hx hb d_Md_nextSign_22 rfl rfl (by decide) rfl ?_
          refine qj_goto (tgt := 2) hx hb d_Md_nextSign_25 (by decide) ?_
          refine qj_sub [1, 2, 0] rfl ?_
          exact ih2 (x1 + 1) hf
        · replace hf := q_if_t hc5 hf
          refine qj_iload_n hx hb d_Md_nextSign_20 rfl 2 rfl ?_
          exact hret _ _ _ _ d_Md_nextSign_21 (congrArg (fun z => (z, M)) (Option.some.inj hf))
  refine qj_sub [1, 3, 0] rfl ?_
  refine hL2 _ _ (fun hf9 => ?_) a1 hf
  clear hf; have hf := hf9; clear hf9
  refine qj_iconst (v := (-1)) hx hb d_Md_nextSign_28 (by decide) ?_
  exact hret _ _ _ _ d_Md_nextSign_29 (congrArg (fun z => (z, M)) (Option.some.inj hf))
theorem d_Md_blanks_0 : decode prog_14_method_47_code 0 = .ok (.iload_n 1, 1) := by decide +kernel
theorem d_Md_blanks_1 : decode prog_14_method_47_code 1 = .ok (.istore_n 3, 1) := by decide +kernel
theorem d_Md_blanks_2 : decode prog_14_method_47_code 2 = .ok (.iload_n 3, 1) := by decide +kernel
theorem d_Md_blanks_3 : decode prog_14_method_47_code 3 = .ok (.iload_n 2, 1) := by decide +kernel
theorem d_Md_blanks_4 : decode prog_14_method_47_code 4 = .ok (.if_icmp .ge 20, 3) := by decide +kernel
theorem d_Md_blanks_7 : decode prog_14_method_47_code 7 = .ok (.aload_n 0, 1) := by decide +kernel
theorem d_Md_blanks_8 : decode prog_14_method_47_code 8 = .ok (.getfield 13, 3) := by decide +kernel
theorem d_Md_blanks_11 : decode prog_14_method_47_code 11 = .ok (.iload_n 3, 1) := by decide +kernel
theorem d_Md_blanks_12 : decode prog_14_method_47_code 12 = .ok (.iaload, 1) := by decide +kernel
theorem d_Md_blanks_13 : decode prog_14_method_47_code 13 = .ok (.bipush 32, 2) := by decide +kernel
theorem d_Md_blanks_15 : decode prog_14_method_47_code 15 = .ok (.if_icmp .ne 9, 3) := by decide +kernel
theorem d_Md_blanks_18 : decode prog_14_method_47_code 18 = .ok (.iinc 3 1, 3) := by decide +kernel
theorem d_Md_blanks_21 : decode prog_14_method_47_code 21 = .ok (.goto (-19), 3) := by decide +kernel
theorem d_Md_blanks_24 : decode prog_14_method_47_code 24 = .ok (.iload_n 3, 1) := by decide +kernel
theorem d_Md_blanks_25 : decode prog_14_method_47_code 25 = .ok (.ireturn, 1) := by decide +kernel
def f_Md_blanks_2 (a2 : Int32) (M : qM) : Nat → (Int32 → Option Int32) → Int32 → Option Int32
  | 0, _, _ => none
  | n + 1, K2, x1 => if a2 ≤ x1 then (K2 x1) else (q_ix x1 120 <| if (M.1 2 x1.toNatClampNeg) = 32 then (f_Md_blanks_2 a2 M n K2 (x1 + 1)) else (K2 x1))
def f_Md_blanks (a1 : Int32) (a2 : Int32) (M : qM) : Option Int32 := f_Md_blanks_2 a2 M 1000 (fun (x6 : Int32) => some x6) a1
abbrev rm_Md_blanks : Room := { frames := 0, cells := 0, slots := 0, locals := 0 }
set_option maxRecDepth 100000 in
set_option maxHeartbeats 4000000 in
theorem c_Md_blanks {l : Launch} {D : va_G} {dA : Nat → ClassId} {b : Nat} (a1 : Int32) (a2 : Int32)  (M : qM) (out : Int32) (hf : f_Md_blanks a1 a2 M = some out) : CTi l y_Md_blanks w_Md_blanks rm_Md_blanks D (tysX dA) (enM dA b) 38 b (fun _ => True) [qr (some 0), qi a1, qi a2] M (out, M) := by
  refine qm_i (cc := prog_14_method_47_code) (nL := 4) (by decide) rfl (Nat.le_of_ble_eq_true rfl) ?_
  intro p e s m args below meth c Q hx hb hts0 hown hml hK hs hret
  have hts : ∀ w ∈ lw_g, w.before args s = true := fun w h => hts0 w (List.mem_cons_of_mem _ h)
  show QJ p l e rm_Md_blanks s m args below meth c (qA 38 b) b 4 0 0 Q (qWd D (enM dA b) 38 b) M 0 [(0, qr (some 0)), (1, qi a1), (2, qi a2)] []
  unfold f_Md_blanks at hf
  refine qj_iload_n hx hb d_Md_blanks_0 rfl 1 rfl ?_
  refine qj_istore_n hx hb d_Md_blanks_1 rfl (by decide) rfl ?_
  have hL2 : ∀ (n : Nat) (K2 : Int32 → Option Int32), (∀ (x6 : Int32), K2 x6 = some out → QJ p l e rm_Md_blanks s m args below meth c (qA 38 b) b 4 0 0 Q (qWd D (enM dA b) 38 b) M 24 [(3, qi x6)] []) → ∀ (x1 : Int32), f_Md_blanks_2 a2 M n K2 x1 = some out → QJ p l e rm_Md_blanks s m args below meth c (qA 38 b) b 4 0 0 Q (qWd D (enM dA b) 38 b) M 2 [(0, qr (some 0)), (2, qi a2), (3, qi x1)] [] := by
    clear hf
    intro n
    induction n with
    | zero =>
      intro K2 hK2 x1 hf
      exact absurd hf (by simp [f_Md_blanks_2])
    | succ n ih2 =>
      intro K2 hK2 x1 hf
      rw [f_Md_blanks_2] at hf
      have ih2 := ih2 K2 hK2
      refine qj_iload_n hx hb d_Md_blanks_2 rfl 2 rfl ?_
      refine qj_iload_n hx hb d_Md_blanks_3 rfl 1 rfl ?_
      refine qj_icmp_ge (tgt := 24) hx hb d_Md_blanks_4 (by decide) (fun hc3 => ?_) (fun hc3 => ?_)
      · replace hf := q_if_t hc3 hf
        refine qj_sub [2] rfl ?_
        exact hK2 x1 hf
      · replace hf := q_if_f hc3 hf
        refine qj_aload_n hx hb d_Md_blanks_7 rfl 0 rfl ?_
        refine qj_get hx hb hts hin_12 hown hK (by decide) rfl rfl 3 (by decide) (hts _ tw_592) (fun _ h => h) (qr (some 2)) rfl d_Md_blanks_8 ?_
        refine qj_iload_n hx hb d_Md_blanks_11 rfl 2 rfl ?_
        have hf9 := q_ix_s hf; clear hf; obtain ⟨hi4, hf⟩ := hf9
        refine qj_iald (t0 := 0) hx hb hK (by decide) (fun _ _ => rfl) rfl hi4 d_Md_blanks_12 ?_
        refine qj_bipush (v := 32) hx hb d_Md_blanks_13 (by decide) ?_
        refine qj_icmp_ne (tgt := 24) hx hb d_Md_blanks_15 (by decide) (fun hc5 => ?_) (fun hc5 => ?_)
        · replace hf := q_if_f hc5 hf
          refine qj_sub [2] rfl ?_
          exact hK2 x1 hf
        · replace hf := q_if_t hc5 hf
          refine qj_iinc (j := 2) (v := x1 + 1) hx hb d_Md_blanks_18 rfl rfl (by decide) rfl ?_
          refine qj_goto (tgt := 2) hx hb d_Md_blanks_21 (by decide) ?_
          refine qj_sub [1, 2, 0] rfl ?_
          exact ih2 (x1 + 1) hf
  refine qj_sub [1, 3, 0] rfl ?_
  refine hL2 _ _ (fun x6 hf9 => ?_) a1 hf
  clear hf; have hf := hf9; clear hf9
  refine qj_iload_n hx hb d_Md_blanks_24 rfl 0 rfl ?_
  exact hret _ _ _ _ d_Md_blanks_25 (congrArg (fun z => (z, M)) (Option.some.inj hf))
