theorem d_Run_endWord_0 : decode prog_9_method_6_code 0 = .ok (.aload_n 0, 1) := by decide +kernel
theorem d_Run_endWord_1 : decode prog_9_method_6_code 1 = .ok (.getfield 47, 3) := by decide +kernel
theorem d_Run_endWord_4 : decode prog_9_method_6_code 4 = .ok (.aload_n 0, 1) := by decide +kernel
theorem d_Run_endWord_5 : decode prog_9_method_6_code 5 = .ok (.getfield 44, 3) := by decide +kernel
theorem d_Run_endWord_8 : decode prog_9_method_6_code 8 = .ok (.if_icmp .ne 4, 3) := by decide +kernel
theorem d_Run_endWord_11 : decode prog_9_method_6_code 11 = .ok (.return_, 1) := by decide +kernel
theorem d_Run_endWord_12 : decode prog_9_method_6_code 12 = .ok (.aload_n 0, 1) := by decide +kernel
theorem d_Run_endWord_13 : decode prog_9_method_6_code 13 = .ok (.getfield 44, 3) := by decide +kernel
theorem d_Run_endWord_16 : decode prog_9_method_6_code 16 = .ok (.aload_n 0, 1) := by decide +kernel
theorem d_Run_endWord_17 : decode prog_9_method_6_code 17 = .ok (.getfield 41, 3) := by decide +kernel
theorem d_Run_endWord_20 : decode prog_9_method_6_code 20 = .ok (.if_icmp .le 44, 3) := by decide +kernel
theorem d_Run_endWord_23 : decode prog_9_method_6_code 23 = .ok (.aload_n 0, 1) := by decide +kernel
theorem d_Run_endWord_24 : decode prog_9_method_6_code 24 = .ok (.getfield 50, 3) := by decide +kernel
theorem d_Run_endWord_27 : decode prog_9_method_6_code 27 = .ok (.aload_n 0, 1) := by decide +kernel
theorem d_Run_endWord_28 : decode prog_9_method_6_code 28 = .ok (.getfield 59, 3) := by decide +kernel
theorem d_Run_endWord_31 : decode prog_9_method_6_code 31 = .ok (.iadd, 1) := by decide +kernel
theorem d_Run_endWord_32 : decode prog_9_method_6_code 32 = .ok (.aload_n 0, 1) := by decide +kernel
theorem d_Run_endWord_33 : decode prog_9_method_6_code 33 = .ok (.getfield 53, 3) := by decide +kernel
theorem d_Run_endWord_36 : decode prog_9_method_6_code 36 = .ok (.iadd, 1) := by decide +kernel
theorem d_Run_endWord_37 : decode prog_9_method_6_code 37 = .ok (.aload_n 0, 1) := by decide +kernel
theorem d_Run_endWord_38 : decode prog_9_method_6_code 38 = .ok (.getfield 38, 3) := by decide +kernel
theorem d_Run_endWord_41 : decode prog_9_method_6_code 41 = .ok (.if_icmp .gt 19, 3) := by decide +kernel
theorem d_Run_endWord_44 : decode prog_9_method_6_code 44 = .ok (.aload_n 0, 1) := by decide +kernel
theorem d_Run_endWord_45 : decode prog_9_method_6_code 45 = .ok (.dup, 1) := by decide +kernel
theorem d_Run_endWord_46 : decode prog_9_method_6_code 46 = .ok (.getfield 50, 3) := by decide +kernel
theorem d_Run_endWord_49 : decode prog_9_method_6_code 49 = .ok (.aload_n 0, 1) := by decide +kernel
theorem d_Run_endWord_50 : decode prog_9_method_6_code 50 = .ok (.getfield 59, 3) := by decide +kernel
theorem d_Run_endWord_53 : decode prog_9_method_6_code 53 = .ok (.iadd, 1) := by decide +kernel
theorem d_Run_endWord_54 : decode prog_9_method_6_code 54 = .ok (.putfield 50, 3) := by decide +kernel
theorem d_Run_endWord_57 : decode prog_9_method_6_code 57 = .ok (.goto 7, 3) := by decide +kernel
theorem d_Run_endWord_60 : decode prog_9_method_6_code 60 = .ok (.aload_n 0, 1) := by decide +kernel
theorem d_Run_endWord_61 : decode prog_9_method_6_code 61 = .ok (.invokevirtual 84, 3) := by decide +kernel
theorem d_Run_endWord_64 : decode prog_9_method_6_code 64 = .ok (.aload_n 0, 1) := by decide +kernel
theorem d_Run_endWord_65 : decode prog_9_method_6_code 65 = .ok (.getfield 44, 3) := by decide +kernel
theorem d_Run_endWord_68 : decode prog_9_method_6_code 68 = .ok (.istore_n 1, 1) := by decide +kernel
theorem d_Run_endWord_69 : decode prog_9_method_6_code 69 = .ok (.iload_n 1, 1) := by decide +kernel
theorem d_Run_endWord_70 : decode prog_9_method_6_code 70 = .ok (.aload_n 0, 1) := by decide +kernel
theorem d_Run_endWord_71 : decode prog_9_method_6_code 71 = .ok (.getfield 47, 3) := by decide +kernel
theorem d_Run_endWord_74 : decode prog_9_method_6_code 74 = .ok (.if_icmp .ge 75, 3) := by decide +kernel
theorem d_Run_endWord_77 : decode prog_9_method_6_code 77 = .ok (.aload_n 0, 1) := by decide +kernel
theorem d_Run_endWord_78 : decode prog_9_method_6_code 78 = .ok (.getfield 11, 3) := by decide +kernel
theorem d_Run_endWord_81 : decode prog_9_method_6_code 81 = .ok (.iload_n 1, 1) := by decide +kernel
theorem d_Run_endWord_82 : decode prog_9_method_6_code 82 = .ok (.aaload, 1) := by decide +kernel
theorem d_Run_endWord_83 : decode prog_9_method_6_code 83 = .ok (.aload_n 0, 1) := by decide +kernel
theorem d_Run_endWord_84 : decode prog_9_method_6_code 84 = .ok (.getfield 23, 3) := by decide +kernel
theorem d_Run_endWord_87 : decode prog_9_method_6_code 87 = .ok (.aload_n 0, 1) := by decide +kernel
theorem d_Run_endWord_88 : decode prog_9_method_6_code 88 = .ok (.getfield 50, 3) := by decide +kernel
theorem d_Run_endWord_91 : decode prog_9_method_6_code 91 = .ok (.iadd, 1) := by decide +kernel
theorem d_Run_endWord_92 : decode prog_9_method_6_code 92 = .ok (.putfield 87, 3) := by decide +kernel
theorem d_Run_endWord_95 : decode prog_9_method_6_code 95 = .ok (.aload_n 0, 1) := by decide +kernel
theorem d_Run_endWord_96 : decode prog_9_method_6_code 96 = .ok (.getfield 11, 3) := by decide +kernel
theorem d_Run_endWord_99 : decode prog_9_method_6_code 99 = .ok (.iload_n 1, 1) := by decide +kernel
theorem d_Run_endWord_100 : decode prog_9_method_6_code 100 = .ok (.aaload, 1) := by decide +kernel
theorem d_Run_endWord_101 : decode prog_9_method_6_code 101 = .ok (.iconst 1, 1) := by decide +kernel
theorem d_Run_endWord_102 : decode prog_9_method_6_code 102 = .ok (.putfield 88, 3) := by decide +kernel
theorem d_Run_endWord_105 : decode prog_9_method_6_code 105 = .ok (.aload_n 0, 1) := by decide +kernel
theorem d_Run_endWord_106 : decode prog_9_method_6_code 106 = .ok (.dup, 1) := by decide +kernel
theorem d_Run_endWord_107 : decode prog_9_method_6_code 107 = .ok (.getfield 50, 3) := by decide +kernel
theorem d_Run_endWord_110 : decode prog_9_method_6_code 110 = .ok (.aload_n 0, 1) := by decide +kernel
theorem d_Run_endWord_111 : decode prog_9_method_6_code 111 = .ok (.getfield 11, 3) := by decide +kernel
theorem d_Run_endWord_114 : decode prog_9_method_6_code 114 = .ok (.iload_n 1, 1) := by decide +kernel
theorem d_Run_endWord_115 : decode prog_9_method_6_code 115 = .ok (.aaload, 1) := by decide +kernel
theorem d_Run_endWord_116 : decode prog_9_method_6_code 116 = .ok (.getfield 78, 3) := by decide +kernel
theorem d_Run_endWord_119 : decode prog_9_method_6_code 119 = .ok (.iadd, 1) := by decide +kernel
theorem d_Run_endWord_120 : decode prog_9_method_6_code 120 = .ok (.putfield 50, 3) := by decide +kernel
theorem d_Run_endWord_123 : decode prog_9_method_6_code 123 = .ok (.aload_n 0, 1) := by decide +kernel
theorem d_Run_endWord_124 : decode prog_9_method_6_code 124 = .ok (.aload_n 0, 1) := by decide +kernel
theorem d_Run_endWord_125 : decode prog_9_method_6_code 125 = .ok (.getfield 56, 3) := by decide +kernel
theorem d_Run_endWord_128 : decode prog_9_method_6_code 128 = .ok (.aload_n 0, 1) := by decide +kernel
theorem d_Run_endWord_129 : decode prog_9_method_6_code 129 = .ok (.getfield 11, 3) := by decide +kernel
theorem d_Run_endWord_132 : decode prog_9_method_6_code 132 = .ok (.iload_n 1, 1) := by decide +kernel
theorem d_Run_endWord_133 : decode prog_9_method_6_code 133 = .ok (.aaload, 1) := by decide +kernel
theorem d_Run_endWord_134 : decode prog_9_method_6_code 134 = .ok (.getfield 78, 3) := by decide +kernel
theorem d_Run_endWord_137 : decode prog_9_method_6_code 137 = .ok (.invokestatic 91, 3) := by decide +kernel
theorem d_Run_endWord_140 : decode prog_9_method_6_code 140 = .ok (.putfield 56, 3) := by decide +kernel
theorem d_Run_endWord_143 : decode prog_9_method_6_code 143 = .ok (.iinc 1 1, 3) := by decide +kernel
theorem d_Run_endWord_146 : decode prog_9_method_6_code 146 = .ok (.goto (-77), 3) := by decide +kernel
theorem d_Run_endWord_149 : decode prog_9_method_6_code 149 = .ok (.aload_n 0, 1) := by decide +kernel
theorem d_Run_endWord_150 : decode prog_9_method_6_code 150 = .ok (.aload_n 0, 1) := by decide +kernel
theorem d_Run_endWord_151 : decode prog_9_method_6_code 151 = .ok (.getfield 47, 3) := by decide +kernel
theorem d_Run_endWord_154 : decode prog_9_method_6_code 154 = .ok (.putfield 44, 3) := by decide +kernel
theorem d_Run_endWord_157 : decode prog_9_method_6_code 157 = .ok (.aload_n 0, 1) := by decide +kernel
theorem d_Run_endWord_158 : decode prog_9_method_6_code 158 = .ok (.iconst 0, 1) := by decide +kernel
theorem d_Run_endWord_159 : decode prog_9_method_6_code 159 = .ok (.putfield 53, 3) := by decide +kernel
theorem d_Run_endWord_162 : decode prog_9_method_6_code 162 = .ok (.aload_n 0, 1) := by decide +kernel
theorem d_Run_endWord_163 : decode prog_9_method_6_code 163 = .ok (.iconst (-1), 1) := by decide +kernel
theorem d_Run_endWord_164 : decode prog_9_method_6_code 164 = .ok (.putfield 59, 3) := by decide +kernel
theorem d_Run_endWord_167 : decode prog_9_method_6_code 167 = .ok (.return_, 1) := by decide +kernel
def f_Run_endWord_69  : Nat → (qM → Option qM) → Int32 → qM → Option qM
  | 0, _, _, _ => none
  | n + 1, K5, x3, M4 => if (M4.1 365 3) ≤ x3 then (K5 M4) else (q_ix x3 160 <| q_lt (M4.2 366 x3.toNatClampNeg) fun r8 => q_nn r8 fun o9 => q_lt (qsI M4 o9 4 ((M4.1 365 4) + (M4.1 365 6))) fun M10 => q_ix x3 160 <| q_lt (M10.2 366 x3.toNatClampNeg) fun r12 => q_nn r12 fun o13 => q_lt (qsI M10 o13 2 1) fun M14 => q_ix x3 160 <| q_lt (M14.2 366 x3.toNatClampNeg) fun r16 => q_nn r16 fun o17 => q_lt (qsI M14 365 6 ((M14.1 365 6) + (M14.1 o17 3))) fun M18 => q_ix x3 160 <| q_lt (M18.2 366 x3.toNatClampNeg) fun r20 => q_nn r20 fun o21 => q_lt (qsI M18 365 8 (if (M18.1 365 8) < (M18.1 o21 3) then M18.1 o21 3 else M18.1 365 8)) fun M22 => f_Run_endWord_69 n K5 (x3 + 1) M22)
def f_Run_endWord  (M : qM) : Option qM := if (M.1 365 3) = (M.1 365 2) then (some M) else (q_lt (fun (M2 : qM) => f_Run_endWord_69 1000 (fun (M23 : qM) => q_lt (qsI M23 365 2 (M23.1 365 3)) fun M24 => q_lt (qsI M24 365 7 0) fun M25 => q_lt (qsI M25 365 9 (-1)) fun M26 => some M26) (M2.1 365 2) M2) fun (j27 : qM → Option qM) => if (M.1 365 2) ≤ (M.1 365 1) then (j27 M) else (if (M.1 365 5) < (((M.1 365 6) + (M.1 365 9)) + (M.1 365 7)) then (q_cv (f_Run_endLine M) fun M30 => j27 M30) else (q_lt (qsI M 365 6 ((M.1 365 6) + (M.1 365 9))) fun M31 => j27 M31)))
abbrev rm_Run_endWord : Room := { frames := 1, cells := 0, slots := 0, locals := 30 }
set_option maxRecDepth 100000 in
set_option maxHeartbeats 4000000 in
theorem c_Run_endWord {l : Launch} {D : va_G} {dA : Nat → ClassId} {b : Nat} {adK adV : Nat → Nat}   (M : qM) (out : qM) (hf : f_Run_endWord M = some out) : CTv l y_Run_endWord w_Run_endWord rm_Run_endWord D (tysX dA) (enX dA b) 367 b (qX adK adV 367 b) [qr (some 365)] M out := by
  refine qm_v (cc := prog_9_method_6_code) (nL := 2) (by decide) rfl (Nat.le_of_ble_eq_true rfl) ?_
  intro p e s m args below meth c Q hx hb hts0 hown hml hK hs hret
  have hts : ∀ w ∈ lw_g, w.before args s = true := fun w h => hts0 w (List.mem_cons_of_mem _ h)
  show QJ p l e rm_Run_endWord s m args below meth c (qA 367 b) b 2 0 0 Q (qWd D (enX dA b) 367 b) M 0 [(0, qr (some 365))] []
  unfold f_Run_endWord at hf
  refine qj_aload_n hx hb d_Run_endWord_0 rfl 0 rfl ?_
  refine qj_get hx hb hts hin_9 hown hK (q_in (rfl : tcX 365 = 25) (by decide)) (en_25 (rfl : tcX 365 = 25)) rfl 3 (by decide) (hts _ tw_377) (fun _ h => h) (qi (M.1 365 3)) rfl d_Run_endWord_1 ?_
  refine qj_aload_n hx hb d_Run_endWord_4 rfl 0 rfl ?_
  refine qj_get hx hb hts hin_9 hown hK (q_in (rfl : tcX 365 = 25) (by decide)) (en_25 (rfl : tcX 365 = 25)) rfl 2 (by decide) (hts _ tw_376) (fun _ h => h) (qi (M.1 365 2)) rfl d_Run_endWord_5 ?_
  refine qj_icmp_ne (tgt := 12) hx hb d_Run_endWord_8 (by decide) (fun hc1 => ?_) (fun hc1 => ?_)
  · replace hf := q_if_f hc1 hf
    refine qj_aload_n hx hb d_Run_endWord_12 rfl 0 rfl ?_
    refine qj_get hx hb hts hin_9 hown hK (q_in (rfl : tcX 365 = 25) (by decide)) (en_25 (rfl : tcX 365 = 25)) rfl 2 (by decide) (hts _ tw_376) (fun _ h => h) (qi (M.1 365 2)) rfl d_Run_endWord_13 ?_
    refine qj_aload_n hx hb d_Run_endWord_16 rfl 0 rfl ?_
    refine qj_get hx hb hts hin_9 hown hK (q_in (rfl : tcX 365 = 25) (by decide)) (en_25 (rfl : tcX 365 = 25)) rfl 1 (by decide) (hts _ tw_375) (fun _ h => h) (qi (M.1 365 1)) rfl d_Run_endWord_17 ?_
    have hf9 := q_lt_s hf; clear hf; obtain ⟨j27, ej27, hf⟩ := hf9
    have hj27 : ∀ (M2 : qM), j27 M2 = some out → QJ p l e rm_Run_endWord s m args below meth c (qA 367 b) b 2 0 0 Q (qWd D (enX dA b) 367 b) M2 64 [(0, qr (some 365))] [] := by
      clear hf
      intro M2 hf
      rw [ej27] at hf
      refine qj_aload_n hx hb d_Run_endWord_64 rfl 0 rfl ?_
      refine qj_get hx hb hts hin_9 hown hK (q_in (rfl : tcX 365 = 25) (by decide)) (en_25 (rfl : tcX 365 = 25)) rfl 2 (by decide) (hts _ tw_376) (fun _ h => h) (qi (M2.1 365 2)) rfl d_Run_endWord_65 ?_
      refine qj_istore_n hx hb d_Run_endWord_68 rfl (by decide) rfl ?_
      have hL69 : ∀ (n : Nat) (K5 : qM → Option qM), (∀ (M23 : qM), K5 M23 = some out → QJ p l e rm_Run_endWord s m args below meth c (qA 367 b) b 2 0 0 Q (qWd D (enX dA b) 367 b) M23 149 [(0, qr (some 365))] []) → ∀ (x3 : Int32) (M4 : qM), f_Run_endWord_69 n K5 x3 M4 = some out → QJ p l e rm_Run_endWord s m args below meth c (qA 367 b) b 2 0 0 Q (qWd D (enX dA b) 367 b) M4 69 [(0, qr (some 365)), (1, qi x3)] [] := by
        clear hf
        intro n
        induction n with
        | zero =>
          intro K5 hK5 x3 M4 hf
          exact absurd hf (by simp [f_Run_endWord_69])
        | succ n ih69 =>
          intro K5 hK5 x3 M4 hf
          rw [f_Run_endWord_69] at hf
          have ih69 := ih69 K5 hK5
          refine qj_iload_n hx hb d_Run_endWord_69 rfl 1 rfl ?_
          refine qj_aload_n hx hb d_Run_endWord_70 rfl 0 rfl ?_
          refine qj_get hx hb hts hin_9 hown hK (q_in (rfl : tcX 365 = 25) (by decide)) (en_25 (rfl : tcX 365 = 25)) rfl 3 (by decide) (hts _ tw_377) (fun _ h => h) (qi (M4.1 365 3)) rfl d_Run_endWord_71 ?_
          refine qj_icmp_ge (tgt := 149) hx hb d_Run_endWord_74 (by decide) (fun hc6 => ?_) (fun hc6 => ?_)
          · replace hf := q_if_t hc6 hf
            refine qj_sub [0] rfl ?_
            exact hK5 M4 hf
          · replace hf := q_if_f hc6 hf
            refine qj_aload_n hx hb d_Run_endWord_77 rfl 0 rfl ?_
            refine qj_get hx hb hts hin_9 hown hK (q_in (rfl : tcX 365 = 25) (by decide)) (en_25 (rfl : tcX 365 = 25)) rfl 0 (by decide) (hts _ tw_383) (fun _ h => h) (qr (some 366)) rfl d_Run_endWord_78 ?_
            refine qj_iload_n hx hb d_Run_endWord_81 rfl 1 rfl ?_
            have hf9 := q_ix_s hf; clear hf; obtain ⟨hi7, hf⟩ := hf9
            have hf9 := q_lt_s hf; clear hf; obtain ⟨r8, er8, hf⟩ := hf9
            refine qj_w fun w => ?_
            have tr8 : ∀ o, r8 = some o → tcX o = 12 := fun o h => (w _ _ o (er8.symm.trans h)).trans (by rw [(rfl : tcX 366 = 26)] <;> rfl)
            refine qj_aald (t0 := 4) (f := M4.2 366) hx hb hK (q_in (rfl : tcX 366 = 26) (by decide)) (en_26 (rfl : tcX 366 = 26) _ _) rfl hi7 d_Run_endWord_82 ?_
            rw [← er8]
            refine qj_aload_n hx hb d_Run_endWord_83 rfl 0 rfl ?_
            refine qj_get hx hb hts hin_9 hown hK (q_in (rfl : tcX 365 = 25) (by decide)) (en_25 (rfl : tcX 365 = 25)) rfl 4 (by decide) (hts _ tw_369) (fun _ h => h) (qi (M4.1 365 4)) rfl d_Run_endWord_84 ?_
            refine qj_aload_n hx hb d_Run_endWord_87 rfl 0 rfl ?_
            refine qj_get hx hb hts hin_9 hown hK (q_in (rfl : tcX 365 = 25) (by decide)) (en_25 (rfl : tcX 365 = 25)) rfl 6 (by decide) (hts _ tw_378) (fun _ h => h) (qi (M4.1 365 6)) rfl d_Run_endWord_88 ?_
            refine qj_iadd hx hb d_Run_endWord_91 ?_
            have hf9 := q_nn_s hf; clear hf; obtain ⟨o9, rfl, hf⟩ := hf9
            have hf9 := q_lt_s hf; clear hf; obtain ⟨M10, eM10, hf⟩ := hf9
            refine qj_puti (ty := .int) hx hb hts hin_2 ty_2 tyok_2 nm_2 hown hK (q_in (tr8 _ rfl) (by decide)) (en_12 (tr8 _ rfl)) rfl 4 (by decide) (hts _ tw_387) (fun _ h => h) rfl (by decide +kernel) rfl rfl (Nat.le_of_ble_eq_true rfl) (sp_12_4 (tr8 _ rfl)) eM10 d_Run_endWord_92 ?_
            refine qj_aload_n hx hb d_Run_endWord_95 rfl 0 rfl ?_
            refine qj_get hx hb hts hin_9 hown hK (q_in (rfl : tcX 365 = 25) (by decide)) (en_25 (rfl : tcX 365 = 25)) rfl 0 (by decide) (hts _ tw_383) (fun _ h => h) (qr (some 366)) rfl d_Run_endWord_96 ?_
            refine qj_iload_n hx hb d_Run_endWord_99 rfl 1 rfl ?_
            have hf9 := q_ix_s hf; clear hf; obtain ⟨hi11, hf⟩ := hf9
            have hf9 := q_lt_s hf; clear hf; obtain ⟨r12, er12, hf⟩ := hf9
            refine qj_w fun w => ?_
            have tr12 : ∀ o, r12 = some o → tcX o = 12 := fun o h => (w _ _ o (er12.symm.trans h)).trans (by rw [(rfl : tcX 366 = 26)] <;> rfl)
            refine qj_aald (t0 := 4) (f := M10.2 366) hx hb hK (q_in (rfl : tcX 366 = 26) (by decide)) (en_26 (rfl : tcX 366 = 26) _ _) rfl hi11 d_Run_endWord_100 ?_
            rw [← er12]
            refine qj_iconst (v := 1) hx hb d_Run_endWord_101 (by decide) ?_
            have hf9 := q_nn_s hf; clear hf; obtain ⟨o13, rfl, hf⟩ := hf9
            have hf9 := q_lt_s hf; clear hf; obtain ⟨M14, eM14, hf⟩ := hf9
            refine qj_puti (ty := .boolean) hx hb hts hin_2 ty_2 tyok_2 nm_2 hown hK (q_in (tr12 _ rfl) (by decide)) (en_12 (tr12 _ rfl)) rfl 2 (by decide) (hts _ tw_388) (fun _ h => h) rfl (by decide +kernel) rfl rfl (Nat.le_of_ble_eq_true rfl) (sp_12_2 (tr12 _ rfl)) eM14 d_Run_endWord_102 ?_
            refine qj_aload_n hx hb d_Run_endWord_105 rfl 0 rfl ?_
            refine qj_dup hx hb d_Run_endWord_106 ?_
            refine qj_get hx hb hts hin_9 hown hK (q_in (rfl : tcX 365 = 25) (by decide)) (en_25 (rfl : tcX 365 = 25)) rfl 6 (by decide) (hts _ tw_378) (fun _ h => h) (qi (M14.1 365 6)) rfl d_Run_endWord_107 ?_
            refine qj_aload_n hx hb d_Run_endWord_110 rfl 0 rfl ?_
            refine qj_get hx hb hts hin_9 hown hK (q_in (rfl : tcX 365 = 25) (by decide)) (en_25 (rfl : tcX 365 = 25)) rfl 0 (by decide) (hts _ tw_383) (fun _ h => h) (qr (some 366)) rfl d_Run_endWord_111 ?_
            refine qj_iload_n hx hb d_Run_endWord_114 rfl 1 rfl ?_
            have hf9 := q_ix_s hf; clear hf; obtain ⟨hi15, hf⟩ := hf9
            have hf9 := q_lt_s hf; clear hf; obtain ⟨r16, er16, hf⟩ := hf9
            refine qj_w fun w => ?_
            have tr16 : ∀ o, r16 = some o → tcX o = 12 := fun o h => (w _ _ o (er16.symm.trans h)).trans (by rw [(rfl : tcX 366 = 26)] <;> rfl)
            refine qj_aald (t0 := 4) (f := M14.2 366) hx hb hK (q_in (rfl : tcX 366 = 26) (by decide)) (en_26 (rfl : tcX 366 = 26) _ _) rfl hi15 d_Run_endWord_115 ?_
            rw [← er16]
            have hf9 := q_nn_s hf; clear hf; obtain ⟨o17, rfl, hf⟩ := hf9
            refine qj_get hx hb hts hin_2 hown hK (q_in (tr16 _ rfl) (by decide)) (en_12 (tr16 _ rfl)) rfl 3 (by decide) (hts _ tw_384) (fun _ h => h) (qi (M14.1 o17 3)) rfl d_Run_endWord_116 ?_
            refine qj_iadd hx hb d_Run_endWord_119 ?_
            have hf9 := q_lt_s hf; clear hf; obtain ⟨M18, eM18, hf⟩ := hf9
            refine qj_puti (ty := .int) hx hb hts hin_9 ty_9 tyok_9 nm_9 hown hK (q_in (rfl : tcX 365 = 25) (by decide)) (en_25 (rfl : tcX 365 = 25)) rfl 6 (by decide) (hts _ tw_378) (fun _ h => h) rfl (by decide +kernel) rfl rfl (Nat.le_of_ble_eq_true rfl) (sp_25_6 (rfl : tcX 365 = 25)) eM18 d_Run_endWord_120 ?_
            refine qj_aload_n hx hb d_Run_endWord_123 rfl 0 rfl ?_
            refine qj_aload_n hx hb d_Run_endWord_124 rfl 0 rfl ?_
            refine qj_get hx hb hts hin_9 hown hK (q_in (rfl : tcX 365 = 25) (by decide)) (en_25 (rfl : tcX 365 = 25)) rfl 8 (by decide) (hts _ tw_380) (fun _ h => h) (qi (M18.1 365 8)) rfl d_Run_endWord_125 ?_
            refine qj_aload_n hx hb d_Run_endWord_128 rfl 0 rfl ?_
            refine qj_get hx hb hts hin_9 hown hK (q_in (rfl : tcX 365 = 25) (by decide)) (en_25 (rfl : tcX 365 = 25)) rfl 0 (by decide) (hts _ tw_383) (fun _ h => h) (qr (some 366)) rfl d_Run_endWord_129 ?_
            refine qj_iload_n hx hb d_Run_endWord_132 rfl 1 rfl ?_
            have hf9 := q_ix_s hf; clear hf; obtain ⟨hi19, hf⟩ := hf9
            have hf9 := q_lt_s hf; clear hf; obtain ⟨r20, er20, hf⟩ := hf9
            refine qj_w fun w => ?_
            have tr20 : ∀ o, r20 = some o → tcX o = 12 := fun o h => (w _ _ o (er20.symm.trans h)).trans (by rw [(rfl : tcX 366 = 26)] <;> rfl)
            refine qj_aald (t0 := 4) (f := M18.2 366) hx hb hK (q_in (rfl : tcX 366 = 26) (by decide)) (en_26 (rfl : tcX 366 = 26) _ _) rfl hi19 d_Run_endWord_133 ?_
            rw [← er20]
            have hf9 := q_nn_s hf; clear hf; obtain ⟨o21, rfl, hf⟩ := hf9
            refine qj_get hx hb hts hin_2 hown hK (q_in (tr20 _ rfl) (by decide)) (en_12 (tr20 _ rfl)) rfl 3 (by decide) (hts _ tw_384) (fun _ h => h) (qi (M18.1 o21 3)) rfl d_Run_endWord_134 ?_
            refine qj_max hx hb hml hown (hts _ tw_389) (hts _ tw_390) (hts _ tw_391) (hts _ tw_392) (by decide) (Nat.le_of_ble_eq_true rfl) (Nat.zero_le _) (Nat.zero_le _) d_Run_endWord_137 ?_
            have hf9 := q_lt_s hf; clear hf; obtain ⟨M22, eM22, hf⟩ := hf9
            refine qj_puti (ty := .int) hx hb hts hin_9 ty_9 tyok_9 nm_9 hown hK (q_in (rfl : tcX 365 = 25) (by decide)) (en_25 (rfl : tcX 365 = 25)) rfl 8 (by decide) (hts _ tw_380) (fun _ h => h) rfl (by decide +kernel) rfl rfl (Nat.le_of_ble_eq_true rfl) (sp_25_8 (rfl : tcX 365 = 25)) eM22 d_Run_endWord_140 ?_
            refine qj_iinc (j := 1) (v := x3 + 1) hx hb d_Run_endWord_143 rfl rfl (by decide) rfl ?_
            refine qj_goto (tgt := 69) hx hb d_Run_endWord_146 (by decide) ?_
            refine qj_sub [1, 0] rfl ?_
            exact ih69 (x3 + 1) M22 hf
      refine qj_sub [1, 0] rfl ?_
      refine hL69 _ _ (fun M23 hf9 => ?_) (M2.1 365 2) M2 hf
      clear hf; have hf := hf9; clear hf9
      refine qj_aload_n hx hb d_Run_endWord_149 rfl 0 rfl ?_
      refine qj_aload_n hx hb d_Run_endWord_150 rfl 0 rfl ?_
      refine qj_get hx hb hts hin_9 hown hK (q_in (rfl : tcX 365 = 25) (by decide)) (en_25 (rfl : tcX 365 = 25)) rfl 3 (by decide) (hts _ tw_377) (fun _ h => h) (qi (M23.1 365 3)) rfl d_Run_endWord_151 ?_
      have hf9 := q_lt_s hf; clear hf; obtain ⟨M24, eM24, hf⟩ := hf9
      refine qj_puti (ty := .int) hx hb hts hin_9 ty_9 tyok_9 nm_9 hown hK (q_in (rfl : tcX 365 = 25) (by decide)) (en_25 (rfl : tcX 365 = 25)) rfl 2 (by decide) (hts _ tw_376) (fun _ h => h) rfl (by decide +kernel) rfl rfl (Nat.le_of_ble_eq_true rfl) (sp_25_2 (rfl : tcX 365 = 25)) eM24 d_Run_endWord_154 ?_
      refine qj_aload_n hx hb d_Run_endWord_157 rfl 0 rfl ?_
      refine qj_iconst (v := 0) hx hb d_Run_endWord_158 (by decide) ?_
      have hf9 := q_lt_s hf; clear hf; obtain ⟨M25, eM25, hf⟩ := hf9
      refine qj_puti (ty := .int) hx hb hts hin_9 ty_9 tyok_9 nm_9 hown hK (q_in (rfl : tcX 365 = 25) (by decide)) (en_25 (rfl : tcX 365 = 25)) rfl 7 (by decide) (hts _ tw_379) (fun _ h => h) rfl (by decide +kernel) rfl rfl (Nat.le_of_ble_eq_true rfl) (sp_25_7 (rfl : tcX 365 = 25)) eM25 d_Run_endWord_159 ?_
      refine qj_aload_n hx hb d_Run_endWord_162 rfl 0 rfl ?_
      refine qj_iconst (v := (-1)) hx hb d_Run_endWord_163 (by decide) ?_
      have hf9 := q_lt_s hf; clear hf; obtain ⟨M26, eM26, hf⟩ := hf9
      refine qj_puti (ty := .int) hx hb hts hin_9 ty_9 tyok_9 nm_9 hown hK (q_in (rfl : tcX 365 = 25) (by decide)) (en_25 (rfl : tcX 365 = 25)) rfl 9 (by decide) (hts _ tw_381) (fun _ h => h) rfl (by decide +kernel) rfl rfl (Nat.le_of_ble_eq_true rfl) (sp_25_9 (rfl : tcX 365 = 25)) eM26 d_Run_endWord_164 ?_
      exact hret _ _ _ d_Run_endWord_167 (Option.some.inj hf)
    refine qj_icmp_le (tgt := 64) hx hb d_Run_endWord_20 (by decide) (fun hc28 => ?_) (fun hc28 => ?_)
    · replace hf := q_if_t hc28 hf
      exact hj27 M hf
    · replace hf := q_if_f hc28 hf
      refine qj_aload_n hx hb d_Run_endWord_23 rfl 0 rfl ?_
      refine qj_get hx hb hts hin_9 hown hK (q_in (rfl : tcX 365 = 25) (by decide)) (en_25 (rfl : tcX 365 = 25)) rfl 6 (by decide) (hts _ tw_378) (fun _ h => h) (qi (M.1 365 6)) rfl d_Run_endWord_24 ?_
      refine qj_aload_n hx hb d_Run_endWord_27 rfl 0 rfl ?_
      refine qj_get hx hb hts hin_9 hown hK (q_in (rfl : tcX 365 = 25) (by decide)) (en_25 (rfl : tcX 365 = 25)) rfl 9 (by decide) (hts _ tw_381) (fun _ h => h) (qi (M.1 365 9)) rfl d_Run_endWord_28 ?_
      refine qj_iadd hx hb d_Run_endWord_31 ?_
      refine qj_aload_n hx hb d_Run_endWord_32 rfl 0 rfl ?_
      refine qj_get hx hb hts hin_9 hown hK (q_in (rfl : tcX 365 = 25) (by decide)) (en_25 (rfl : tcX 365 = 25)) rfl 7 (by decide) (hts _ tw_379) (fun _ h => h) (qi (M.1 365 7)) rfl d_Run_endWord_33 ?_
      refine qj_iadd hx hb d_Run_endWord_36 ?_
      refine qj_aload_n hx hb d_Run_endWord_37 rfl 0 rfl ?_
      refine qj_get hx hb hts hin_9 hown hK (q_in (rfl : tcX 365 = 25) (by decide)) (en_25 (rfl : tcX 365 = 25)) rfl 5 (by decide) (hts _ tw_374) (fun _ h => h) (qi (M.1 365 5)) rfl d_Run_endWord_38 ?_
      refine qj_icmp_gt (tgt := 60) hx hb d_Run_endWord_41 (by decide) (fun hc29 => ?_) (fun hc29 => ?_)
      · replace hf := q_if_t hc29 hf
        refine qj_aload_n hx hb d_Run_endWord_60 rfl 0 rfl ?_
        have hf9 := q_cv_s hf; clear hf; obtain ⟨M30, hM30, hf⟩ := hf9
        refine qc_Vv (st := []) hx hb hml hown hts hK (qX_ok _ _ _ _) hs (c_Run_endLine  M _ hM30) ⟨(callB_of 0 hts (q_good tw_394) rfl rfl rfl (hts _ tw_393) (hts _ tw_395) (by decide +kernel) ⟨by decide, by decide⟩), (hts _ tw_396), (hts _ tw_397)⟩ (q_in (rfl : tcX 365 = 25) (by decide)) (en_25 (rfl : tcX 365 = 25)) rfl rfl rfl (Nat.le_of_ble_eq_true rfl) d_Run_endWord_61 ?_
        exact hj27 M30 hf
      · replace hf := q_if_f hc29 hf
        refine qj_aload_n hx hb d_Run_endWord_44 rfl 0 rfl ?_
        refine qj_dup hx hb d_Run_endWord_45 ?_
        refine qj_get hx hb hts hin_9 hown hK (q_in (rfl : tcX 365 = 25) (by decide)) (en_25 (rfl : tcX 365 = 25)) rfl 6 (by decide) (hts _ tw_378) (fun _ h => h) (qi (M.1 365 6)) rfl d_Run_endWord_46 ?_
        refine qj_aload_n hx hb d_Run_endWord_49 rfl 0 rfl ?_
        refine qj_get hx hb hts hin_9 hown hK (q_in (rfl : tcX 365 = 25) (by decide)) (en_25 (rfl : tcX 365 = 25)) rfl 9 (by decide) (hts _ tw_381) (fun _ h => h) (qi (M.1 365 9)) rfl d_Run_endWord_50 ?_
        refine qj_iadd hx hb d_Run_endWord_53 ?_
        have hf9 := q_lt_s hf; clear hf; obtain ⟨M31, eM31, hf⟩ := hf9
        refine qj_puti (ty := .int) hx hb hts hin_9 ty_9 tyok_9 nm_9 hown hK (q_in (rfl : tcX 365 = 25) (by decide)) (en_25 (rfl : tcX 365 = 25)) rfl 6 (by decide) (hts _ tw_378) (fun _ h => h) rfl (by decide +kernel) rfl rfl (Nat.le_of_ble_eq_true rfl) (sp_25_6 (rfl : tcX 365 = 25)) eM31 d_Run_endWord_54 ?_
        refine qj_goto (tgt := 64) hx hb d_Run_endWord_57 (by decide) ?_
        exact hj27 M31 hf
  · replace hf := q_if_t hc1 hf
    exact hret _ _ _ d_Run_endWord_11 (Option.some.inj hf)
theorem d_Run_addText_0 : decode prog_9_method_3_code 0 = .ok (.aload_n 1, 1) := by decide +kernel
theorem d_Run_addText_1 : decode prog_9_method_3_code 1 = .ok (.getfield 66, 3) := by decide +kernel
theorem d_Run_addText_4 : decode prog_9_method_3_code 4 = .ok (.astore_n 3, 1) := by decide +kernel
theorem d_Run_addText_5 : decode prog_9_method_3_code 5 = .ok (.aload_n 3, 1) := by decide +kernel
theorem d_Run_addText_6 : decode prog_9_method_3_code 6 = .ok (.ifnull 92, 3) := by decide +kernel
theorem d_Run_addText_9 : decode prog_9_method_3_code 9 = .ok (.aload_n 3, 1) := by decide +kernel
theorem d_Run_addText_10 : decode prog_9_method_3_code 10 = .ok (.getfield 72, 3) := by decide +kernel
theorem d_Run_addText_13 : decode prog_9_method_3_code 13 = .ok (.bipush 32, 2) := by decide +kernel
theorem d_Run_addText_15 : decode prog_9_method_3_code 15 = .ok (.if_icmp .ne 30, 3) := by decide +kernel
theorem d_Run_addText_18 : decode prog_9_method_3_code 18 = .ok (.aload_n 0, 1) := by decide +kernel
theorem d_Run_addText_19 : decode prog_9_method_3_code 19 = .ok (.invokevirtual 75, 3) := by decide +kernel
theorem d_Run_addText_22 : decode prog_9_method_3_code 22 = .ok (.aload_n 0, 1) := by decide +kernel
theorem d_Run_addText_23 : decode prog_9_method_3_code 23 = .ok (.aload_n 0, 1) := by decide +kernel
theorem d_Run_addText_24 : decode prog_9_method_3_code 24 = .ok (.getfield 59, 3) := by decide +kernel
theorem d_Run_addText_27 : decode prog_9_method_3_code 27 = .ok (.iconst (-1), 1) := by decide +kernel
theorem d_Run_addText_28 : decode prog_9_method_3_code 28 = .ok (.if_icmp .ne 7, 3) := by decide +kernel
theorem d_Run_addText_31 : decode prog_9_method_3_code 31 = .ok (.iload_n 2, 1) := by decide +kernel
theorem d_Run_addText_32 : decode prog_9_method_3_code 32 = .ok (.goto 7, 3) := by decide +kernel
theorem d_Run_addText_35 : decode prog_9_method_3_code 35 = .ok (.aload_n 0, 1) := by decide +kernel
theorem d_Run_addText_36 : decode prog_9_method_3_code 36 = .ok (.getfield 59, 3) := by decide +kernel
theorem d_Run_addText_39 : decode prog_9_method_3_code 39 = .ok (.putfield 59, 3) := by decide +kernel
theorem d_Run_addText_42 : decode prog_9_method_3_code 42 = .ok (.goto 48, 3) := by decide +kernel
theorem d_Run_addText_45 : decode prog_9_method_3_code 45 = .ok (.aload_n 0, 1) := by decide +kernel
theorem d_Run_addText_46 : decode prog_9_method_3_code 46 = .ok (.getfield 47, 3) := by decide +kernel
theorem d_Run_addText_49 : decode prog_9_method_3_code 49 = .ok (.sipush 160, 3) := by decide +kernel
theorem d_Run_addText_52 : decode prog_9_method_3_code 52 = .ok (.if_icmp .ge 38, 3) := by decide +kernel
theorem d_Run_addText_55 : decode prog_9_method_3_code 55 = .ok (.aload_n 3, 1) := by decide +kernel
theorem d_Run_addText_56 : decode prog_9_method_3_code 56 = .ok (.iload_n 2, 1) := by decide +kernel
theorem d_Run_addText_57 : decode prog_9_method_3_code 57 = .ok (.putfield 78, 3) := by decide +kernel
theorem d_Run_addText_60 : decode prog_9_method_3_code 60 = .ok (.aload_n 0, 1) := by decide +kernel
theorem d_Run_addText_61 : decode prog_9_method_3_code 61 = .ok (.getfield 11, 3) := by decide +kernel
theorem d_Run_addText_64 : decode prog_9_method_3_code 64 = .ok (.aload_n 0, 1) := by decide +kernel
theorem d_Run_addText_65 : decode prog_9_method_3_code 65 = .ok (.getfield 47, 3) := by decide +kernel
theorem d_Run_addText_68 : decode prog_9_method_3_code 68 = .ok (.aload_n 3, 1) := by decide +kernel
theorem d_Run_addText_69 : decode prog_9_method_3_code 69 = .ok (.aastore, 1) := by decide +kernel
theorem d_Run_addText_70 : decode prog_9_method_3_code 70 = .ok (.aload_n 0, 1) := by decide +kernel
theorem d_Run_addText_71 : decode prog_9_method_3_code 71 = .ok (.dup, 1) := by decide +kernel
theorem d_Run_addText_72 : decode prog_9_method_3_code 72 = .ok (.getfield 47, 3) := by decide +kernel
theorem d_Run_addText_75 : decode prog_9_method_3_code 75 = .ok (.iconst 1, 1) := by decide +kernel
theorem d_Run_addText_76 : decode prog_9_method_3_code 76 = .ok (.iadd, 1) := by decide +kernel
theorem d_Run_addText_77 : decode prog_9_method_3_code 77 = .ok (.putfield 47, 3) := by decide +kernel
theorem d_Run_addText_80 : decode prog_9_method_3_code 80 = .ok (.aload_n 0, 1) := by decide +kernel
theorem d_Run_addText_81 : decode prog_9_method_3_code 81 = .ok (.dup, 1) := by decide +kernel
theorem d_Run_addText_82 : decode prog_9_method_3_code 82 = .ok (.getfield 53, 3) := by decide +kernel
theorem d_Run_addText_85 : decode prog_9_method_3_code 85 = .ok (.iload_n 2, 1) := by decide +kernel
theorem d_Run_addText_86 : decode prog_9_method_3_code 86 = .ok (.iadd, 1) := by decide +kernel
theorem d_Run_addText_87 : decode prog_9_method_3_code 87 = .ok (.putfield 53, 3) := by decide +kernel
theorem d_Run_addText_90 : decode prog_9_method_3_code 90 = .ok (.aload_n 3, 1) := by decide +kernel
theorem d_Run_addText_91 : decode prog_9_method_3_code 91 = .ok (.getfield 81, 3) := by decide +kernel
theorem d_Run_addText_94 : decode prog_9_method_3_code 94 = .ok (.astore_n 3, 1) := by decide +kernel
theorem d_Run_addText_95 : decode prog_9_method_3_code 95 = .ok (.goto (-90), 3) := by decide +kernel
theorem d_Run_addText_98 : decode prog_9_method_3_code 98 = .ok (.return_, 1) := by decide +kernel
def f_Run_addText_5 (a2 : Int32) : Nat → (qM → Option qM) → Option Nat → qM → Option qM
  | 0, _, _, _ => none
  | n + 1, K4, r2, M3 => q_on r2 (K4 M3) fun o5 => (if (M3.1 o5 0) = 32 then (q_cv (f_Run_endWord M3) fun M15 => q_lt (fun (x16 : Int32) => q_lt (qsI M15 365 9 x16) fun M17 => q_lt (M17.2 o5 1) fun r18 => f_Run_addText_5 a2 n K4 r18 M17) fun (j19 : Int32 → Option qM) => if (M15.1 365 9) = (-1) then (j19 a2) else (j19 (M15.1 365 9))) else (if 160 ≤ (M3.1 365 3) then (q_lt (M3.2 o5 1) fun r8 => f_Run_addText_5 a2 n K4 r8 M3) else (q_lt (qsI M3 o5 3 a2) fun M9 => q_ix (M9.1 365 3) 160 <| q_lt (qsR M9 366 (M9.1 365 3).toNatClampNeg (some o5)) fun M11 => q_lt (qsI M11 365 3 ((M11.1 365 3) + 1)) fun M12 => q_lt (qsI M12 365 7 ((M12.1 365 7) + a2)) fun M13 => q_lt (M13.2 o5 1) fun r14 => f_Run_addText_5 a2 n K4 r14 M13)))
def f_Run_addText (q1 : Nat) (a2 : Int32) (M : qM) : Option qM := q_lt (M.2 q1 9) fun r1 => f_Run_addText_5 a2 1000 (fun (M22 : qM) => some M22) r1 M
abbrev rm_Run_addText : Room := { frames := 2, cells := 0, slots := 0, locals := 51 }
set_option maxRecDepth 100000 in
set_option maxHeartbeats 4000000 in
theorem c_Run_addText {l : Launch} {D : va_G} {dA : Nat → ClassId} {b : Nat} {adK adV : Nat → Nat} (q1 : Nat) (a2 : Int32) (tq1 : tcX q1 = 7) (M : qM) (out : qM) (hf : f_Run_addText q1 a2 M = some out) : CTv l y_Run_addText w_Run_addText rm_Run_addText D (tysX dA) (enX dA b) 367 b (qX adK adV 367 b) [qr (some 365), qr (some q1), qi a2] M out := by
  refine qm_v (cc := prog_9_method_3_code) (nL := 4) (by decide) rfl (Nat.le_of_ble_eq_true rfl) ?_
  intro p e s m args below meth c Q hx hb hts0 hown hml hK hs hret
  have hts : ∀ w ∈ lw_g, w.before args s = true := fun w h => hts0 w (List.mem_cons_of_mem _ h)
  show QJ p l e rm_Run_addText s m args below meth c (qA 367 b) b 4 0 0 Q (qWd D (enX dA b) 367 b) M 0 [(0, qr (some 365)), (1, qr (some q1)), (2, qi a2)] []
  unfold f_Run_addText at hf
  refine qj_aload_n hx hb d_Run_addText_0 rfl 1 rfl ?_
  have hf9 := q_lt_s hf; clear hf; obtain ⟨r1, er1, hf⟩ := hf9
  refine qj_w fun w => ?_
  have tr1 : ∀ o, r1 = some o → tcX o = 12 := fun o h => (w _ _ o (er1.symm.trans h)).trans (by rw [tq1] <;> rfl)
  refine qj_get hx hb hts hin_3 hown hK (q_in tq1 (by decide)) (en_7 tq1) rfl 9 (by decide) (hts _ tw_398) (fun _ h => h) (qr r1) (by rw [er1]; rfl) d_Run_addText_1 ?_
  refine qj_astore_n hx hb d_Run_addText_4 rfl (by decide) rfl ?_
  have hL5 : ∀ (n : Nat) (K4 : qM → Option qM), (∀ (M22 : qM), K4 M22 = some out → QJ p l e rm_Run_addText s m args below meth c (qA 367 b) b 4 0 0 Q (qWd D (enX dA b) 367 b) M22 98 [] []) → ∀ (r2 : Option Nat) (M3 : qM), (∀ o, r2 = some o → tcX o = 12) → f_Run_addText_5 a2 n K4 r2 M3 = some out → QJ p l e rm_Run_addText s m args below meth c (qA 367 b) b 4 0 0 Q (qWd D (enX dA b) 367 b) M3 5 [(0, qr (some 365)), (2, qi a2), (3, qr r2)] [] := by
    clear hf
    intro n
    induction n with
    | zero =>
      intro K4 hK4 r2 M3 tr2 hf
      exact absurd hf (by simp [f_Run_addText_5])
    | succ n ih5 =>
      intro K4 hK4 r2 M3 tr2 hf
      rw [f_Run_addText_5] at hf
      have ih5 := ih5 K4 hK4
      refine qj_aload_n hx hb d_Run_addText_5 rfl 2 rfl ?_
      refine qj_ifnull (tgt := 98) hx hb d_Run_addText_6 (by decide) (fun hn21 => ?_) (fun o5 hn21 => ?_)
      · subst hn21
        replace hf := q_on_n hf
        refine qj_sub [] rfl ?_
        exact hK4 M3 hf
      · subst hn21
        replace hf := q_on_s hf
        refine qj_aload_n hx hb d_Run_addText_9 rfl 2 rfl ?_
        refine qj_get hx hb hts hin_2 hown hK (q_in (tr2 _ rfl) (by decide)) (en_12 (tr2 _ rfl)) rfl 0 (by decide) (hts _ tw_399) (fun _ h => h) (qi (M3.1 o5 0)) rfl d_Run_addText_10 ?_
        refine qj_bipush (v := 32) hx hb d_Run_addText_13 (by decide) ?_
        refine qj_icmp_ne (tgt := 45) hx hb d_Run_addText_15 (by decide) (fun hc6 => ?_) (fun hc6 => ?_)
        · replace hf := q_if_f hc6 hf
          refine qj_aload_n hx hb d_Run_addText_45 rfl 0 rfl ?_
          refine qj_get hx hb hts hin_9 hown hK (q_in (rfl : tcX 365 = 25) (by decide)) (en_25 (rfl : tcX 365 = 25)) rfl 3 (by decide) (hts _ tw_377) (fun _ h => h) (qi (M3.1 365 3)) rfl d_Run_addText_46 ?_
          refine qj_sipush (v := 160) hx hb d_Run_addText_49 (by decide) ?_
          refine qj_icmp_ge (tgt := 90) hx hb d_Run_addText_52 (by decide) (fun hc7 => ?_) (fun hc7 => ?_)
          · replace hf := q_if_t hc7 hf
            refine qj_aload_n hx hb d_Run_addText_90 rfl 2 rfl ?_
            have hf9 := q_lt_s hf; clear hf; obtain ⟨r8, er8, hf⟩ := hf9
            refine qj_w fun w => ?_
            have tr8 : ∀ o, r8 = some o → tcX o = 12 := fun o h => (w _ _ o (er8.symm.trans h)).trans (by rw [(tr2 _ rfl)] <;> rfl)
            refine qj_get hx hb hts hin_2 hown hK (q_in (tr2 _ rfl) (by decide)) (en_12 (tr2 _ rfl)) rfl 1 (by decide) (hts _ tw_400) (fun _ h => h) (qr r8) (by rw [er8]; rfl) d_Run_addText_91 ?_
            refine qj_astore_n hx hb d_Run_addText_94 rfl (by decide) rfl ?_
            refine qj_goto (tgt := 5) hx hb d_Run_addText_95 (by decide) ?_
            refine qj_sub [1, 2, 0] rfl ?_
            exact ih5 r8 M3 tr8 hf
          · replace hf := q_if_f hc7 hf
            refine qj_aload_n hx hb d_Run_addText_55 rfl 2 rfl ?_
            refine qj_iload_n hx hb d_Run_addText_56 rfl 1 rfl ?_
            have hf9 := q_lt_s hf; clear hf; obtain ⟨M9, eM9, hf⟩ := hf9
            refine qj_puti (ty := .int) hx hb hts hin_2 ty_2 tyok_2 nm_2 hown hK (q_in (tr2 _ rfl) (by decide)) (en_12 (tr2 _ rfl)) rfl 3 (by decide) (hts _ tw_384) (fun _ h => h) rfl (by decide +kernel) rfl rfl (Nat.le_of_ble_eq_true rfl) (sp_12_3 (tr2 _ rfl)) eM9 d_Run_addText_57 ?_
            refine qj_aload_n hx hb d_Run_addText_60 rfl 0 rfl ?_
            refine qj_get hx hb hts hin_9 hown hK (q_in (rfl : tcX 365 = 25) (by decide)) (en_25 (rfl : tcX 365 = 25)) rfl 0 (by decide) (hts _ tw_383) (fun _ h => h) (qr (some 366)) rfl d_Run_addText_61 ?_
            refine qj_aload_n hx hb d_Run_addText_64 rfl 0 rfl ?_
            refine qj_get hx hb hts hin_9 hown hK (q_in (rfl : tcX 365 = 25) (by decide)) (en_25 (rfl : tcX 365 = 25)) rfl 3 (by decide) (hts _ tw_377) (fun _ h => h) (qi (M9.1 365 3)) rfl d_Run_addText_65 ?_
            refine qj_aload_n hx hb d_Run_addText_68 rfl 2 rfl ?_
            have hf9 := q_ix_s hf; clear hf; obtain ⟨hi10, hf⟩ := hf9
            have hf9 := q_lt_s hf; clear hf; obtain ⟨M11, eM11, hf⟩ := hf9
            refine qj_aast (t0 := 4) (ci := 2) hx hb hK (q_in (rfl : tcX 366 = 26) (by decide)) (en_26 (rfl : tcX 366 = 26)) rfl rfl (fun q hq => ⟨q_in ((q_ts (tr2 _ rfl)) q hq) (by decide), _, en_12 ((q_ts (tr2 _ rfl)) q hq)⟩) hi10 (fun o h => ((q_ts (tr2 _ rfl)) o h).trans (by rw [(rfl : tcX 366 = 26)] <;> rfl)) eM11 d_Run_addText_69 ?_
            refine qj_aload_n hx hb d_Run_addText_70 rfl 0 rfl ?_
            refine qj_dup hx hb d_Run_addText_71 ?_
            refine qj_get hx hb hts hin_9 hown hK (q_in (rfl : tcX 365 = 25) (by decide)) (en_25 (rfl : tcX 365 = 25)) rfl 3 (by decide) (hts _ tw_377) (fun _ h => h) (qi (M11.1 365 3)) rfl d_Run_addText_72 ?_
            refine qj_iconst (v := 1) hx hb d_Run_addText_75 (by decide) ?_
            refine qj_iadd hx hb d_Run_addText_76 ?_
            have hf9 := q_lt_s hf; clear hf; obtain ⟨M12, eM12, hf⟩ := hf9
            refine qj_puti (ty := .int) hx hb hts hin_9 ty_9 tyok_9 nm_9 hown hK (q_in (rfl : tcX 365 = 25) (by decide)) (en_25 (rfl : tcX 365 = 25)) rfl 3 (by decide) (hts _ tw_377) (fun _ h => h) rfl (by decide +kernel) rfl rfl (Nat.le_of_ble_eq_true rfl) (sp_25_3 (rfl : tcX 365 = 25)) eM12 d_Run_addText_77 ?_
            refine qj_aload_n hx hb d_Run_addText_80 rfl 0 rfl ?_
            refine qj_dup hx hb d_Run_addText_81 ?_
            refine qj_get hx hb hts hin_9 hown hK (q_in (rfl : tcX 365 = 25) (by decide)) (en_25 (rfl : tcX 365 = 25)) rfl 7 (by decide) (hts _ tw_379) (fun _ h => h) (qi (M12.1 365 7)) rfl d_Run_addText_82 ?_
            refine qj_iload_n hx hb d_Run_addText_85 rfl 1 rfl ?_
            refine qj_iadd hx hb d_Run_addText_86 ?_
            have hf9 := q_lt_s hf; clear hf; obtain ⟨M13, eM13, hf⟩ := hf9
            refine qj_puti (ty := .int) hx hb hts hin_9 ty_9 tyok_9 nm_9 hown hK (q_in (rfl : tcX 365 = 25) (by decide)) (en_25 (rfl : tcX 365 = 25)) rfl 7 (by decide) (hts _ tw_379) (fun _ h => h) rfl (by decide +kernel) rfl rfl (Nat.le_of_ble_eq_true rfl) (sp_25_7 (rfl : tcX 365 = 25)) eM13 d_Run_addText_87 ?_
            refine qj_aload_n hx hb d_Run_addText_90 rfl 2 rfl ?_
            have hf9 := q_lt_s hf; clear hf; obtain ⟨r14, er14, hf⟩ := hf9
            refine qj_w fun w => ?_
            have tr14 : ∀ o, r14 = some o → tcX o = 12 := fun o h => (w _ _ o (er14.symm.trans h)).trans (by rw [(tr2 _ rfl)] <;> rfl)
            refine qj_get hx hb hts hin_2 hown hK (q_in (tr2 _ rfl) (by decide)) (en_12 (tr2 _ rfl)) rfl 1 (by decide) (hts _ tw_400) (fun _ h => h) (qr r14) (by rw [er14]; rfl) d_Run_addText_91 ?_
            refine qj_astore_n hx hb d_Run_addText_94 rfl (by decide) rfl ?_
            refine qj_goto (tgt := 5) hx hb d_Run_addText_95 (by decide) ?_
            refine qj_sub [1, 2, 0] rfl ?_
            exact ih5 r14 M13 tr14 hf
        · replace hf := q_if_t hc6 hf
          refine qj_aload_n hx hb d_Run_addText_18 rfl 0 rfl ?_
          have hf9 := q_cv_s hf; clear hf; obtain ⟨M15, hM15, hf⟩ := hf9
          refine qc_Vv (st := []) hx hb hml hown hts hK (qX_ok _ _ _ _) hs (c_Run_endWord  M3 _ hM15) ⟨(callB_of 0 hts (q_good tw_401) rfl rfl rfl (hts _ tw_393) (hts _ tw_402) (by decide +kernel) ⟨by decide, by decide⟩), (hts _ tw_403), (hts _ tw_404)⟩ (q_in (rfl : tcX 365 = 25) (by decide)) (en_25 (rfl : tcX 365 = 25)) rfl rfl rfl (Nat.le_of_ble_eq_true rfl) d_Run_addText_19 ?_
          refine qj_aload_n hx hb d_Run_addText_22 rfl 0 rfl ?_
          refine qj_aload_n hx hb d_Run_addText_23 rfl 0 rfl ?_
          refine qj_get hx hb hts hin_9 hown hK (q_in (rfl : tcX 365 = 25) (by decide)) (en_25 (rfl : tcX 365 = 25)) rfl 9 (by decide) (hts _ tw_381) (fun _ h => h) (qi (M15.1 365 9)) rfl d_Run_addText_24 ?_
          refine qj_iconst (v := (-1)) hx hb d_Run_addText_27 (by decide) ?_
          have hf9 := q_lt_s hf; clear hf; obtain ⟨j19, ej19, hf⟩ := hf9
          have hj19 : ∀ (x16 : Int32), j19 x16 = some out → QJ p l e rm_Run_addText s m args below meth c (qA 367 b) b 4 0 0 Q (qWd D (enX dA b) 367 b) M15 39 [(0, qr (some 365)), (2, qi a2), (3, qr (some o5))] [qi x16, qr (some 365)] := by
            clear hf
            intro x16 hf
            rw [ej19] at hf
            have hf9 := q_lt_s hf; clear hf; obtain ⟨M17, eM17, hf⟩ := hf9
            refine qj_puti (ty := .int) hx hb hts hin_9 ty_9 tyok_9 nm_9 hown hK (q_in (rfl : tcX 365 = 25) (by decide)) (en_25 (rfl : tcX 365 = 25)) rfl 9 (by decide) (hts _ tw_381) (fun _ h => h) rfl (by decide +kernel) rfl rfl (Nat.le_of_ble_eq_true rfl) (sp_25_9 (rfl : tcX 365 = 25)) eM17 d_Run_addText_39 ?_
            refine qj_goto (tgt := 90) hx hb d_Run_addText_42 (by decide) ?_
            refine qj_aload_n hx hb d_Run_addText_90 rfl 2 rfl ?_
            have hf9 := q_lt_s hf; clear hf; obtain ⟨r18, er18, hf⟩ := hf9
            refine qj_w fun w => ?_
            have tr18 : ∀ o, r18 = some o → tcX o = 12 := fun o h => (w _ _ o (er18.symm.trans h)).trans (by rw [(tr2 _ rfl)] <;> rfl)
            refine qj_get hx hb hts hin_2 hown hK (q_in (tr2 _ rfl) (by decide)) (en_12 (tr2 _ rfl)) rfl 1 (by decide) (hts _ tw_400) (fun _ h => h) (qr r18) (by rw [er18]; rfl) d_Run_addText_91 ?_
            refine qj_astore_n hx hb d_Run_addText_94 rfl (by decide) rfl ?_
            refine qj_goto (tgt := 5) hx hb d_Run_addText_95 (by decide) ?_
            refine qj_sub [1, 2, 0] rfl ?_
            exact ih5 r18 M17 tr18 hf
          refine qj_icmp_ne (tgt := 35) hx hb d_Run_addText_28 (by decide) (fun hc20 => ?_) (fun hc20 => ?_)
          · replace hf := q_if_f hc20 hf
            refine qj_aload_n hx hb d_Run_addText_35 rfl 0 rfl ?_
            refine qj_get hx hb hts hin_9 hown hK (q_in (rfl : tcX 365 = 25) (by decide)) (en_25 (rfl : tcX 365 = 25)) rfl 9 (by decide) (hts _ tw_381) (fun _ h => h) (qi (M15.1 365 9)) rfl d_Run_addText_36 ?_
            exact hj19 (M15.1 365 9) hf
          · replace hf := q_if_t hc20 hf
            refine qj_iload_n hx hb d_Run_addText_31 rfl 1 rfl ?_
            refine qj_goto (tgt := 39) hx hb d_Run_addText_32 (by decide) ?_
            exact hj19 a2 hf
  refine qj_sub [1, 3, 0] rfl ?_
  refine hL5 _ _ (fun M22 hf9 => ?_) r1 M tr1 hf
  clear hf; have hf := hf9; clear hf9
  exact hret _ _ _ d_Run_addText_98 (Option.some.inj hf)
theorem d_Run_endIn_0 : decode prog_9_method_5_code 0 = .ok (.aload_n 0, 1) := by decide +kernel
theorem d_Run_endIn_1 : decode prog_9_method_5_code 1 = .ok (.invokevirtual 75, 3) := by decide +kernel
theorem d_Run_endIn_4 : decode prog_9_method_5_code 4 = .ok (.aload_n 0, 1) := by decide +kernel
theorem d_Run_endIn_5 : decode prog_9_method_5_code 5 = .ok (.getfield 44, 3) := by decide +kernel
theorem d_Run_endIn_8 : decode prog_9_method_5_code 8 = .ok (.aload_n 0, 1) := by decide +kernel
theorem d_Run_endIn_9 : decode prog_9_method_5_code 9 = .ok (.getfield 41, 3) := by decide +kernel
theorem d_Run_endIn_12 : decode prog_9_method_5_code 12 = .ok (.if_icmp .le 7, 3) := by decide +kernel
theorem d_Run_endIn_15 : decode prog_9_method_5_code 15 = .ok (.aload_n 0, 1) := by decide +kernel
theorem d_Run_endIn_16 : decode prog_9_method_5_code 16 = .ok (.invokevirtual 84, 3) := by decide +kernel
theorem d_Run_endIn_19 : decode prog_9_method_5_code 19 = .ok (.aload_n 0, 1) := by decide +kernel
theorem d_Run_endIn_20 : decode prog_9_method_5_code 20 = .ok (.getfield 62, 3) := by decide +kernel
theorem d_Run_endIn_23 : decode prog_9_method_5_code 23 = .ok (.ifCond .eq 16, 3) := by decide +kernel
theorem d_Run_endIn_26 : decode prog_9_method_5_code 26 = .ok (.aload_n 1, 1) := by decide +kernel
theorem d_Run_endIn_27 : decode prog_9_method_5_code 27 = .ok (.aload_n 0, 1) := by decide +kernel
theorem d_Run_endIn_28 : decode prog_9_method_5_code 28 = .ok (.getfield 32, 3) := by decide +kernel
theorem d_Run_endIn_31 : decode prog_9_method_5_code 31 = .ok (.putfield 26, 3) := by decide +kernel
theorem d_Run_endIn_34 : decode prog_9_method_5_code 34 = .ok (.aload_n 1, 1) := by decide +kernel
theorem d_Run_endIn_35 : decode prog_9_method_5_code 35 = .ok (.iconst 0, 1) := by decide +kernel
theorem d_Run_endIn_36 : decode prog_9_method_5_code 36 = .ok (.putfield 29, 3) := by decide +kernel
theorem d_Run_endIn_39 : decode prog_9_method_5_code 39 = .ok (.return_, 1) := by decide +kernel
def f_Run_endIn (q1 : Nat) (M : qM) : Option qM := q_cv (f_Run_endWord M) fun M1 => q_lt (fun (M2 : qM) => if (M2.1 365 10) = 0 then (some M2) else (q_lt (qsI M2 q1 8 (M2.1 365 11)) fun M4 => q_lt (qsI M4 q1 9 0) fun M5 => some M5)) fun (j6 : qM → Option qM) => if (M1.1 365 2) ≤ (M1.1 365 1) then (j6 M1) else (q_cv (f_Run_endLine M1) fun M8 => j6 M8)
abbrev rm_Run_endIn : Room := { frames := 2, cells := 0, slots := 0, locals := 51 }
set_option maxRecDepth 100000 in
set_option maxHeartbeats 4000000 in
theorem c_Run_endIn {l : Launch} {D : va_G} {dA : Nat → ClassId} {b : Nat} {adK adV : Nat → Nat} (q1 : Nat) (tq1 : tcX q1 = 11) (M : qM) (out : qM) (hf : f_Run_endIn q1 M = some out) : CTv l y_Run_endIn w_Run_endIn rm_Run_endIn D (tysX dA) (enX dA b) 367 b (qX adK adV 367 b) [qr (some 365), qr (some q1)] M out := by
  refine qm_v (cc := prog_9_method_5_code) (nL := 2) (by decide) rfl (Nat.le_of_ble_eq_true rfl) ?_
  intro p e s m args below meth c Q hx hb hts0 hown hml hK hs hret
  have hts : ∀ w ∈ lw_g, w.before args s = true := fun w h => hts0 w (List.mem_cons_of_mem _ h)
  show QJ p l e rm_Run_endIn s m args below meth c (qA 367 b) b 2 0 0 Q (qWd D (enX dA b) 367 b) M 0 [(0, qr (some 365)), (1, qr (some q1))] []
  unfold f_Run_endIn at hf
  refine qj_aload_n hx hb d_Run_endIn_0 rfl 0 rfl ?_
  have hf9 := q_cv_s hf; clear hf; obtain ⟨M1, hM1, hf⟩ := hf9
  refine qc_Vv (st := []) hx hb hml hown hts hK (qX_ok _ _ _ _) hs (c_Run_endWord  M _ hM1) ⟨(callB_of 0 hts (q_good tw_401) rfl rfl rfl (hts _ tw_393) (hts _ tw_402) (by decide +kernel) ⟨by decide, by decide⟩), (hts _ tw_403), (hts _ tw_404)⟩ (q_in (rfl : tcX 365 = 25) (by decide)) (en_25 (rfl : tcX 365 = 25)) rfl rfl rfl (Nat.le_of_ble_eq_true rfl) d_Run_endIn_1 ?_
  refine qj_aload_n hx hb d_Run_endIn_4 rfl 0 rfl ?_
  refine qj_get hx hb hts hin_9 hown hK (q_in (rfl : tcX 365 = 25) (by decide)) (en_25 (rfl : tcX 365 = 25)) rfl 2 (by decide) (hts _ tw_376) (fun _ h => h) (qi (M1.1 365 2)) rfl d_Run_endIn_5 ?_
  refine qj_aload_n hx hb d_Run_endIn_8 rfl 0 rfl ?_
  refine qj_get hx hb hts hin_9 hown hK (q_in (rfl : tcX 365 = 25) (by decide)) (en_25 (rfl : tcX 365 = 25)) rfl 1 (by decide) (hts _ tw_375) (fun _ h => h) (qi (M1.1 365 1)) rfl d_Run_endIn_9 ?_
  have hf9 := q_lt_s hf; clear hf; obtain ⟨j6, ej6, hf⟩ := hf9
  have hj6 : ∀ (M2 : qM), j6 M2 = some out → QJ p l e rm_Run_endIn s m args below meth c (qA 367 b) b 2 0 0 Q (qWd D (enX dA b) 367 b) M2 19 [(0, qr (some 365)), (1, qr (some q1))] [] := by
    clear hf
    intro M2 hf
    rw [ej6] at hf
    refine qj_aload_n hx hb d_Run_endIn_19 rfl 0 rfl ?_
    refine qj_get hx hb hts hin_9 hown hK (q_in (rfl : tcX 365 = 25) (by decide)) (en_25 (rfl : tcX 365 = 25)) rfl 10 (by decide) (hts _ tw_382) (fun _ h => h) (qi (M2.1 365 10)) rfl d_Run_endIn_20 ?_
    refine qj_if_eq (tgt := 39) hx hb d_Run_endIn_23 (by decide) (fun hc3 => ?_) (fun hc3 => ?_)
    · replace hf := q_if_t hc3 hf
      exact hret _ _ _ d_Run_endIn_39 (Option.some.inj hf)
    · replace hf := q_if_f hc3 hf
      refine qj_aload_n hx hb d_Run_endIn_26 rfl 1 rfl ?_
      refine qj_aload_n hx hb d_Run_endIn_27 rfl 0 rfl ?_
      refine qj_get hx hb hts hin_9 hown hK (q_in (rfl : tcX 365 = 25) (by decide)) (en_25 (rfl : tcX 365 = 25)) rfl 11 (by decide) (hts _ tw_372) (fun _ h => h) (qi (M2.1 365 11)) rfl d_Run_endIn_28 ?_
      have hf9 := q_lt_s hf; clear hf; obtain ⟨M4, eM4, hf⟩ := hf9
      refine qj_puti (ty := .int) hx hb hts hin_0 ty_0 tyok_0 nm_0 hown hK (q_in tq1 (by decide)) (en_11 tq1) rfl 8 (by decide) (hts _ tw_370) (fun _ h => h) rfl (by decide +kernel) rfl rfl (Nat.le_of_ble_eq_true rfl) (sp_11_8 tq1) eM4 d_Run_endIn_31 ?_
      refine qj_aload_n hx hb d_Run_endIn_34 rfl 1 rfl ?_
      refine qj_iconst (v := 0) hx hb d_Run_endIn_35 (by decide) ?_
      have hf9 := q_lt_s hf; clear hf; obtain ⟨M5, eM5, hf⟩ := hf9
      refine qj_puti (ty := .int) hx hb hts hin_0 ty_0 tyok_0 nm_0 hown hK (q_in tq1 (by decide)) (en_11 tq1) rfl 9 (by decide) (hts _ tw_371) (fun _ h => h) rfl (by decide +kernel) rfl rfl (Nat.le_of_ble_eq_true rfl) (sp_11_9 tq1) eM5 d_Run_endIn_36 ?_
      exact hret _ _ _ d_Run_endIn_39 (Option.some.inj hf)
  refine qj_icmp_le (tgt := 19) hx hb d_Run_endIn_12 (by decide) (fun hc7 => ?_) (fun hc7 => ?_)
  · replace hf := q_if_t hc7 hf
    exact hj6 M1 hf
  · replace hf := q_if_f hc7 hf
    refine qj_aload_n hx hb d_Run_endIn_15 rfl 0 rfl ?_
    have hf9 := q_cv_s hf; clear hf; obtain ⟨M8, hM8, hf⟩ := hf9
    refine qc_Vv (st := []) hx hb hml hown hts hK (qX_ok _ _ _ _) hs (c_Run_endLine  M1 _ hM8) ⟨(callB_of 0 hts (q_good tw_394) rfl rfl rfl (hts _ tw_393) (hts _ tw_395) (by decide +kernel) ⟨by decide, by decide⟩), (hts _ tw_396), (hts _ tw_397)⟩ (q_in (rfl : tcX 365 = 25) (by decide)) (en_25 (rfl : tcX 365 = 25)) rfl rfl rfl (Nat.le_of_ble_eq_true rfl) d_Run_endIn_16 ?_
    exact hj6 M8 hf
theorem d_Run_addBreak_0 : decode prog_9_method_4_code 0 = .ok (.aload_n 0, 1) := by decide +kernel
theorem d_Run_addBreak_1 : decode prog_9_method_4_code 1 = .ok (.invokevirtual 75, 3) := by decide +kernel
theorem d_Run_addBreak_4 : decode prog_9_method_4_code 4 = .ok (.aload_n 0, 1) := by decide +kernel
theorem d_Run_addBreak_5 : decode prog_9_method_4_code 5 = .ok (.getfield 44, 3) := by decide +kernel
theorem d_Run_addBreak_8 : decode prog_9_method_4_code 8 = .ok (.aload_n 0, 1) := by decide +kernel
theorem d_Run_addBreak_9 : decode prog_9_method_4_code 9 = .ok (.getfield 41, 3) := by decide +kernel
theorem d_Run_addBreak_12 : decode prog_9_method_4_code 12 = .ok (.if_icmp .ne 8, 3) := by decide +kernel
theorem d_Run_addBreak_15 : decode prog_9_method_4_code 15 = .ok (.aload_n 0, 1) := by decide +kernel
theorem d_Run_addBreak_16 : decode prog_9_method_4_code 16 = .ok (.iload_n 1, 1) := by decide +kernel
theorem d_Run_addBreak_17 : decode prog_9_method_4_code 17 = .ok (.putfield 56, 3) := by decide +kernel
theorem d_Run_addBreak_20 : decode prog_9_method_4_code 20 = .ok (.aload_n 0, 1) := by decide +kernel
theorem d_Run_addBreak_21 : decode prog_9_method_4_code 21 = .ok (.invokevirtual 84, 3) := by decide +kernel
theorem d_Run_addBreak_24 : decode prog_9_method_4_code 24 = .ok (.return_, 1) := by decide +kernel
def f_Run_addBreak (a1 : Int32) (M : qM) : Option qM := q_cv (f_Run_endWord M) fun M1 => q_lt (fun (M2 : qM) => q_cv (f_Run_endLine M2) fun M3 => some M3) fun (j4 : qM → Option qM) => if (M1.1 365 2) = (M1.1 365 1) then (q_lt (qsI M1 365 8 a1) fun M6 => j4 M6) else (j4 M1)
abbrev rm_Run_addBreak : Room := { frames := 2, cells := 0, slots := 0, locals := 51 }
set_option maxRecDepth 100000 in
set_option maxHeartbeats 4000000 in
theorem c_Run_addBreak {l : Launch} {D : va_G} {dA : Nat → ClassId} {b : Nat} {adK adV : Nat → Nat} (a1 : Int32)  (M : qM) (out : qM) (hf : f_Run_addBreak a1 M = some out) : CTv l y_Run_addBreak w_Run_addBreak rm_Run_addBreak D (tysX dA) (enX dA b) 367 b (qX adK adV 367 b) [qr (some 365), qi a1] M out := by
  refine qm_v (cc := prog_9_method_4_code) (nL := 2) (by decide) rfl (Nat.le_of_ble_eq_true rfl) ?_
  intro p e s m args below meth c Q hx hb hts0 hown hml hK hs hret
  have hts : ∀ w ∈ lw_g, w.before args s = true := fun w h => hts0 w (List.mem_cons_of_mem _ h)
  show QJ p l e rm_Run_addBreak s m args below meth c (qA 367 b) b 2 0 0 Q (qWd D (enX dA b) 367 b) M 0 [(0, qr (some 365)), (1, qi a1)] []
  unfold f_Run_addBreak at hf
  refine qj_aload_n hx hb d_Run_addBreak_0 rfl 0 rfl ?_
  have hf9 := q_cv_s hf; clear hf; obtain ⟨M1, hM1, hf⟩ := hf9
  refine qc_Vv (st := []) hx hb hml hown hts hK (qX_ok _ _ _ _) hs (c_Run_endWord  M _ hM1) ⟨(callB_of 0 hts (q_good tw_401) rfl rfl rfl (hts _ tw_393) (hts _ tw_402) (by decide +kernel) ⟨by decide, by decide⟩), (hts _ tw_403), (hts _ tw_404)⟩ (q_in (rfl : tcX 365 = 25) (by decide)) (en_25 (rfl : tcX 365 = 25)) rfl rfl rfl (Nat.le_of_ble_eq_true rfl) d_Run_addBreak_1 ?_
  refine qj_aload_n hx hb d_Run_addBreak_4 rfl 0 rfl ?_
  refine qj_get hx hb hts hin_9 hown hK (q_in (rfl : tcX 365 = 25) (by decide)) (en_25 (rfl : tcX 365 = 25)) rfl 2 (by decide) (hts _ tw_376) (fun _ h => h) (qi (M1.1 365 2)) rfl d_Run_addBreak_5 ?_
  refine qj_aload_n hx hb d_Run_addBreak_8 rfl 0 rfl ?_
  refine qj_get hx hb hts hin_9 hown hK (q_in (rfl : tcX 365 = 25) (by decide)) (en_25 (rfl : tcX 365 = 25)) rfl 1 (by decide) (hts _ tw_375) (fun _ h => h) (qi (M1.1 365 1)) rfl d_Run_addBreak_9 ?_
  have hf9 := q_lt_s hf; clear hf; obtain ⟨j4, ej4, hf⟩ := hf9
  have hj4 : ∀ (M2 : qM), j4 M2 = some out → QJ p l e rm_Run_addBreak s m args below meth c (qA 367 b) b 2 0 0 Q (qWd D (enX dA b) 367 b) M2 20 [(0, qr (some 365))] [] := by
    clear hf
    intro M2 hf
    rw [ej4] at hf
    refine qj_aload_n hx hb d_Run_addBreak_20 rfl 0 rfl ?_
    have hf9 := q_cv_s hf; clear hf; obtain ⟨M3, hM3, hf⟩ := hf9
    refine qc_Vv (st := []) hx hb hml hown hts hK (qX_ok _ _ _ _) hs (c_Run_endLine  M2 _ hM3) ⟨(callB_of 0 hts (q_good tw_394) rfl rfl rfl (hts _ tw_393) (hts _ tw_395) (by decide +kernel) ⟨by decide, by decide⟩), (hts _ tw_396), (hts _ tw_397)⟩ (q_in (rfl : tcX 365 = 25) (by decide)) (en_25 (rfl : tcX 365 = 25)) rfl rfl rfl (Nat.le_of_ble_eq_true rfl) d_Run_addBreak_21 ?_
    exact hret _ _ _ d_Run_addBreak_24 (Option.some.inj hf)
  refine qj_icmp_ne (tgt := 20) hx hb d_Run_addBreak_12 (by decide) (fun hc5 => ?_) (fun hc5 => ?_)
  · replace hf := q_if_f hc5 hf
    refine qj_sub [0] rfl ?_
    exact hj4 M1 hf
  · replace hf := q_if_t hc5 hf
    refine qj_aload_n hx hb d_Run_addBreak_15 rfl 0 rfl ?_
    refine qj_iload_n hx hb d_Run_addBreak_16 rfl 1 rfl ?_
    have hf9 := q_lt_s hf; clear hf; obtain ⟨M6, eM6, hf⟩ := hf9
    refine qj_puti (ty := .int) hx hb hts hin_9 ty_9 tyok_9 nm_9 hown hK (q_in (rfl : tcX 365 = 25) (by decide)) (en_25 (rfl : tcX 365 = 25)) rfl 8 (by decide) (hts _ tw_380) (fun _ h => h) rfl (by decide +kernel) rfl rfl (Nat.le_of_ble_eq_true rfl) (sp_25_8 (rfl : tcX 365 = 25)) eM6 d_Run_addBreak_17 ?_
    refine qj_sub [0] rfl ?_
    exact hj4 M6 hf
theorem d_Pg_box_0 : decode prog_1_method_14_code 0 = .ok (.aload_n 0, 1) := by decide +kernel
theorem d_Pg_box_1 : decode prog_1_method_14_code 1 = .ok (.getfield 10, 3) := by decide +kernel
theorem d_Pg_box_4 : decode prog_1_method_14_code 4 = .ok (.iload_n 1, 1) := by decide +kernel
theorem d_Pg_box_5 : decode prog_1_method_14_code 5 = .ok (.invokevirtual 71, 3) := by decide +kernel
theorem d_Pg_box_8 : decode prog_1_method_14_code 8 = .ok (.astore_n 3, 1) := by decide +kernel
theorem d_Pg_box_9 : decode prog_1_method_14_code 9 = .ok (.aload_n 0, 1) := by decide +kernel
theorem d_Pg_box_10 : decode prog_1_method_14_code 10 = .ok (.getfield 133, 3) := by decide +kernel
theorem d_Pg_box_13 : decode prog_1_method_14_code 13 = .ok (.ifCond .eq 17, 3) := by decide +kernel
theorem d_Pg_box_16 : decode prog_1_method_14_code 16 = .ok (.aload_n 3, 1) := by decide +kernel
theorem d_Pg_box_17 : decode prog_1_method_14_code 17 = .ok (.ifnull 13, 3) := by decide +kernel
theorem d_Pg_box_20 : decode prog_1_method_14_code 20 = .ok (.aload_n 3, 1) := by decide +kernel
theorem d_Pg_box_21 : decode prog_1_method_14_code 21 = .ok (.getfield 139, 3) := by decide +kernel
theorem d_Pg_box_24 : decode prog_1_method_14_code 24 = .ok (.getfield 148, 3) := by decide +kernel
theorem d_Pg_box_27 : decode prog_1_method_14_code 27 = .ok (.ifCond .ne 5, 3) := by decide +kernel
theorem d_Pg_box_30 : decode prog_1_method_14_code 30 = .ok (.iconst (-1), 1) := by decide +kernel
theorem d_Pg_box_31 : decode prog_1_method_14_code 31 = .ok (.ireturn, 1) := by decide +kernel
theorem d_Pg_box_32 : decode prog_1_method_14_code 32 = .ok (.iload_n 2, 1) := by decide +kernel
theorem d_Pg_box_33 : decode prog_1_method_14_code 33 = .ok (.tableswitch 63 0 3 #[31, 39, 47, 55], 31) := by decide +kernel
theorem d_Pg_box_64 : decode prog_1_method_14_code 64 = .ok (.aload_n 3, 1) := by decide +kernel
theorem d_Pg_box_65 : decode prog_1_method_14_code 65 = .ok (.getfield 139, 3) := by decide +kernel
theorem d_Pg_box_68 : decode prog_1_method_14_code 68 = .ok (.getfield 151, 3) := by decide +kernel
theorem d_Pg_box_71 : decode prog_1_method_14_code 71 = .ok (.ireturn, 1) := by decide +kernel
theorem d_Pg_box_72 : decode prog_1_method_14_code 72 = .ok (.aload_n 3, 1) := by decide +kernel
theorem d_Pg_box_73 : decode prog_1_method_14_code 73 = .ok (.getfield 139, 3) := by decide +kernel
theorem d_Pg_box_76 : decode prog_1_method_14_code 76 = .ok (.getfield 154, 3) := by decide +kernel
theorem d_Pg_box_79 : decode prog_1_method_14_code 79 = .ok (.ireturn, 1) := by decide +kernel
theorem d_Pg_box_80 : decode prog_1_method_14_code 80 = .ok (.aload_n 3, 1) := by decide +kernel
theorem d_Pg_box_81 : decode prog_1_method_14_code 81 = .ok (.getfield 139, 3) := by decide +kernel
theorem d_Pg_box_84 : decode prog_1_method_14_code 84 = .ok (.getfield 157, 3) := by decide +kernel
theorem d_Pg_box_87 : decode prog_1_method_14_code 87 = .ok (.ireturn, 1) := by decide +kernel
theorem d_Pg_box_88 : decode prog_1_method_14_code 88 = .ok (.aload_n 3, 1) := by decide +kernel
theorem d_Pg_box_89 : decode prog_1_method_14_code 89 = .ok (.getfield 139, 3) := by decide +kernel
theorem d_Pg_box_92 : decode prog_1_method_14_code 92 = .ok (.getfield 143, 3) := by decide +kernel
theorem d_Pg_box_95 : decode prog_1_method_14_code 95 = .ok (.ireturn, 1) := by decide +kernel
theorem d_Pg_box_96 : decode prog_1_method_14_code 96 = .ok (.iconst (-1), 1) := by decide +kernel
theorem d_Pg_box_97 : decode prog_1_method_14_code 97 = .ok (.ireturn, 1) := by decide +kernel
def f_Pg_box (a1 : Int32) (a2 : Int32) (M : qM) : Option Int32 := q_bp (f_Tree_nodeAt a1 M) fun r1 => if (M.1 0 7) = 0 then (some (-1)) else (q_on r1 (some (-1)) fun o3 => (if (M.1 (o3 + 4) 0) = 0 then (some (-1)) else (if a2 = 0 then (some (M.1 (o3 + 4) 1)) else if a2 = 1 then (some (M.1 (o3 + 4) 2)) else if a2 = 2 then (some (M.1 (o3 + 4) 3)) else if a2 = 3 then (some (M.1 (o3 + 4) 4)) else (some (-1)))))
abbrev rm_Pg_box : Room := { frames := 1, cells := 0, slots := 0, locals := 21 }
set_option maxRecDepth 100000 in
set_option maxHeartbeats 4000000 in
theorem c_Pg_box {l : Launch} {D : va_G} {dA : Nat → ClassId} {b : Nat} {adK adV : Nat → Nat} (a1 : Int32) (a2 : Int32)  (M : qM) (out : Int32) (hf : f_Pg_box a1 a2 M = some out) : CTi l y_Pg_box w_Pg_box rm_Pg_box D (tysX dA) (enX dA b) 367 b (qX adK adV 367 b) [qr (some 0), qi a1, qi a2] M (out, M) := by
  refine qm_i (cc := prog_1_method_14_code) (nL := 4) (by decide) rfl (Nat.le_of_ble_eq_true rfl) ?_
  intro p e s m args below meth c Q hx hb hts0 hown hml hK hs hret
  have hts : ∀ w ∈ lw_g, w.before args s = true := fun w h => hts0 w (List.mem_cons_of_mem _ h)
  show QJ p l e rm_Pg_box s m args below meth c (qA 367 b) b 4 0 0 Q (qWd D (enX dA b) 367 b) M 0 [(0, qr (some 0)), (1, qi a1), (2, qi a2)] []
  unfold f_Pg_box at hf
  refine qj_aload_n hx hb d_Pg_box_0 rfl 0 rfl ?_
  refine qj_get hx hb hts hin_11 hown hK (q_in (rfl : tcX 0 = 0) (by decide)) (en_0 (rfl : tcX 0 = 0)) rfl 0 (by decide) (hts _ tw_240) (fun _ h => h) (qr (some 1)) rfl d_Pg_box_1 ?_
  refine qj_iload_n hx hb d_Pg_box_4 rfl 1 rfl ?_
  have hf9 := q_bp_s hf; clear hf; obtain ⟨r1, hr1, hf⟩ := hf9
  refine qc_Vr (st := []) hx hb hml hown hts hK (qX_ok _ _ _ _) hs (c_Tree_nodeAt a1 M _ hr1) ⟨(callB_of 1 hts (q_good tw_330) rfl rfl rfl (hts _ tw_54) (hts _ tw_331) (by decide +kernel) ⟨by decide, by decide⟩), (hts _ tw_332), (hts _ tw_333)⟩ (q_in (rfl : tcX 1 = 1) (by decide)) (en_1 (rfl : tcX 1 = 1)) rfl rfl rfl (Nat.le_of_ble_eq_true rfl) d_Pg_box_5 (fun tr1 => ?_)
  refine qj_astore_n hx hb d_Pg_box_8 rfl (by decide) rfl ?_
  refine qj_aload_n hx hb d_Pg_box_9 rfl 1 rfl ?_
  refine qj_get hx hb hts hin_11 hown hK (q_in (rfl : tcX 0 = 0) (by decide)) (en_0 (rfl : tcX 0 = 0)) rfl 7 (by decide) (hts _ tw_0) (fun _ h => h) (qi (M.1 0 7)) rfl d_Pg_box_10 ?_
  refine qj_if_eq (tgt := 30) hx hb d_Pg_box_13 (by decide) (fun hc2 => ?_) (fun hc2 => ?_)
  · replace hf := q_if_t hc2 hf
    refine qj_iconst (v := (-1)) hx hb d_Pg_box_30 (by decide) ?_
    exact hret _ _ _ _ d_Pg_box_31 (congrArg (fun z => (z, M)) (Option.some.inj hf))
  · replace hf := q_if_f hc2 hf
    refine qj_aload_n hx hb d_Pg_box_16 rfl 0 rfl ?_
    refine qj_ifnull (tgt := 30) hx hb d_Pg_box_17 (by decide) (fun hn9 => ?_) (fun o3 hn9 => ?_)
    · subst hn9
      replace hf := q_on_n hf
      refine qj_iconst (v := (-1)) hx hb d_Pg_box_30 (by decide) ?_
      exact hret _ _ _ _ d_Pg_box_31 (congrArg (fun z => (z, M)) (Option.some.inj hf))
    · subst hn9
      replace hf := q_on_s hf
      refine qj_aload_n hx hb d_Pg_box_20 rfl 0 rfl ?_
      refine qj_get hx hb hts hin_3 hown hK (q_in (tr1 _ rfl) (by decide)) (en_7 (tr1 _ rfl)) rfl 13 (by decide) (hts _ tw_405) (fun _ h => h) (qr (some (o3 + 4))) rfl d_Pg_box_21 ?_
      refine qj_get hx hb hts hin_0 hown hK (q_in (tc_7_4 (tr1 _ rfl)) (by decide)) (en_11 (tc_7_4 (tr1 _ rfl))) rfl 0 (by decide) (hts _ tw_406) (fun _ h => h) (qi (M.1 (o3 + 4) 0)) rfl d_Pg_box_24 ?_
      refine qj_if_ne (tgt := 32) hx hb d_Pg_box_27 (by decide) (fun hc4 => ?_) (fun hc4 => ?_)
      · replace hf := q_if_f hc4 hf
        refine qj_iload_n hx hb d_Pg_box_32 rfl 3 rfl ?_
        by_cases hk5 : a2 = 0
        · replace hf := q_if_t hk5 hf
          refine qj_tableIn (off := 31) (tgt := 64) hx hb d_Pg_box_33 (by rw [hk5]; decide) (by rw [hk5]; decide) (by rw [hk5] <;> rfl) (by decide) ?_
          refine qj_aload_n hx hb d_Pg_box_64 rfl 0 rfl ?_
          refine qj_get hx hb hts hin_3 hown hK (q_in (tr1 _ rfl) (by decide)) (en_7 (tr1 _ rfl)) rfl 13 (by decide) (hts _ tw_405) (fun _ h => h) (qr (some (o3 + 4))) rfl d_Pg_box_65 ?_
          refine qj_get hx hb hts hin_0 hown hK (q_in (tc_7_4 (tr1 _ rfl)) (by decide)) (en_11 (tc_7_4 (tr1 _ rfl))) rfl 1 (by decide) (hts _ tw_407) (fun _ h => h) (qi (M.1 (o3 + 4) 1)) rfl d_Pg_box_68 ?_
          exact hret _ _ _ _ d_Pg_box_71 (congrArg (fun z => (z, M)) (Option.some.inj hf))
        replace hf := q_if_f hk5 hf
        by_cases hk6 : a2 = 1
        · replace hf := q_if_t hk6 hf
          refine qj_tableIn (off := 39) (tgt := 72) hx hb d_Pg_box_33 (by rw [hk6]; decide) (by rw [hk6]; decide) (by rw [hk6] <;> rfl) (by decide) ?_
          refine qj_aload_n hx hb d_Pg_box_72 rfl 0 rfl ?_
          refine qj_get hx hb hts hin_3 hown hK (q_in (tr1 _ rfl) (by decide)) (en_7 (tr1 _ rfl)) rfl 13 (by decide) (hts _ tw_405) (fun _ h => h) (qr (some (o3 + 4))) rfl d_Pg_box_73 ?_
          refine qj_get hx hb hts hin_0 hown hK (q_in (tc_7_4 (tr1 _ rfl)) (by decide)) (en_11 (tc_7_4 (tr1 _ rfl))) rfl 2 (by decide) (hts _ tw_408) (fun _ h => h) (qi (M.1 (o3 + 4) 2)) rfl d_Pg_box_76 ?_
          exact hret _ _ _ _ d_Pg_box_79 (congrArg (fun z => (z, M)) (Option.some.inj hf))
        replace hf := q_if_f hk6 hf
        by_cases hk7 : a2 = 2
        · replace hf := q_if_t hk7 hf
          refine qj_tableIn (off := 47) (tgt := 80) hx hb d_Pg_box_33 (by rw [hk7]; decide) (by rw [hk7]; decide) (by rw [hk7] <;> rfl) (by decide) ?_
          refine qj_aload_n hx hb d_Pg_box_80 rfl 0 rfl ?_
          refine qj_get hx hb hts hin_3 hown hK (q_in (tr1 _ rfl) (by decide)) (en_7 (tr1 _ rfl)) rfl 13 (by decide) (hts _ tw_405) (fun _ h => h) (qr (some (o3 + 4))) rfl d_Pg_box_81 ?_
          refine qj_get hx hb hts hin_0 hown hK (q_in (tc_7_4 (tr1 _ rfl)) (by decide)) (en_11 (tc_7_4 (tr1 _ rfl))) rfl 3 (by decide) (hts _ tw_409) (fun _ h => h) (qi (M.1 (o3 + 4) 3)) rfl d_Pg_box_84 ?_
          exact hret _ _ _ _ d_Pg_box_87 (congrArg (fun z => (z, M)) (Option.some.inj hf))
        replace hf := q_if_f hk7 hf
        by_cases hk8 : a2 = 3
        · replace hf := q_if_t hk8 hf
          refine qj_tableIn (off := 55) (tgt := 88) hx hb d_Pg_box_33 (by rw [hk8]; decide) (by rw [hk8]; decide) (by rw [hk8] <;> rfl) (by decide) ?_
          refine qj_aload_n hx hb d_Pg_box_88 rfl 0 rfl ?_
          refine qj_get hx hb hts hin_3 hown hK (q_in (tr1 _ rfl) (by decide)) (en_7 (tr1 _ rfl)) rfl 13 (by decide) (hts _ tw_405) (fun _ h => h) (qr (some (o3 + 4))) rfl d_Pg_box_89 ?_
          refine qj_get hx hb hts hin_0 hown hK (q_in (tc_7_4 (tr1 _ rfl)) (by decide)) (en_11 (tc_7_4 (tr1 _ rfl))) rfl 4 (by decide) (hts _ tw_410) (fun _ h => h) (qi (M.1 (o3 + 4) 4)) rfl d_Pg_box_92 ?_
          exact hret _ _ _ _ d_Pg_box_95 (congrArg (fun z => (z, M)) (Option.some.inj hf))
        replace hf := q_if_f hk8 hf
        refine qj_tableOut (tgt := 96) hx hb d_Pg_box_33 (by have z0 := lv_neT hk5 (a := 0) (by decide); have z1 := lv_neT hk6 (a := 1) (by decide); have z2 := lv_neT hk7 (a := 2) (by decide); have z3 := lv_neT hk8 (a := 3) (by decide); omega) (by decide) ?_
        refine qj_iconst (v := (-1)) hx hb d_Pg_box_96 (by decide) ?_
        exact hret _ _ _ _ d_Pg_box_97 (congrArg (fun z => (z, M)) (Option.some.inj hf))
      · replace hf := q_if_t hc4 hf
        refine qj_iconst (v := (-1)) hx hb d_Pg_box_30 (by decide) ?_
        exact hret _ _ _ _ d_Pg_box_31 (congrArg (fun z => (z, M)) (Option.some.inj hf))
theorem d_Pg_place_0 : decode prog_1_method_15_code 0 = .ok (.aload_n 0, 1) := by decide +kernel
theorem d_Pg_place_1 : decode prog_1_method_15_code 1 = .ok (.getfield 10, 3) := by decide +kernel
theorem d_Pg_place_4 : decode prog_1_method_15_code 4 = .ok (.iload_n 1, 1) := by decide +kernel
theorem d_Pg_place_5 : decode prog_1_method_15_code 5 = .ok (.iload_n 2, 1) := by decide +kernel
theorem d_Pg_place_6 : decode prog_1_method_15_code 6 = .ok (.invokevirtual 89, 3) := by decide +kernel
theorem d_Pg_place_9 : decode prog_1_method_15_code 9 = .ok (.astore_n 3, 1) := by decide +kernel
theorem d_Pg_place_10 : decode prog_1_method_15_code 10 = .ok (.aload_n 0, 1) := by decide +kernel
theorem d_Pg_place_11 : decode prog_1_method_15_code 11 = .ok (.getfield 133, 3) := by decide +kernel
theorem d_Pg_place_14 : decode prog_1_method_15_code 14 = .ok (.ifCond .eq 14, 3) := by decide +kernel
theorem d_Pg_place_17 : decode prog_1_method_15_code 17 = .ok (.aload_n 3, 1) := by decide +kernel
theorem d_Pg_place_18 : decode prog_1_method_15_code 18 = .ok (.ifnull 10, 3) := by decide +kernel
theorem d_Pg_place_21 : decode prog_1_method_15_code 21 = .ok (.aload_n 3, 1) := by decide +kernel
theorem d_Pg_place_22 : decode prog_1_method_15_code 22 = .ok (.getfield 160, 3) := by decide +kernel
theorem d_Pg_place_25 : decode prog_1_method_15_code 25 = .ok (.ifCond .ne 5, 3) := by decide +kernel
theorem d_Pg_place_28 : decode prog_1_method_15_code 28 = .ok (.iconst (-1), 1) := by decide +kernel
theorem d_Pg_place_29 : decode prog_1_method_15_code 29 = .ok (.ireturn, 1) := by decide +kernel
theorem d_Pg_place_30 : decode prog_1_method_15_code 30 = .ok (.aload_n 3, 1) := by decide +kernel
theorem d_Pg_place_31 : decode prog_1_method_15_code 31 = .ok (.getfield 163, 3) := by decide +kernel
theorem d_Pg_place_34 : decode prog_1_method_15_code 34 = .ok (.ldc 164, 2) := by decide +kernel
theorem d_Pg_place_36 : decode prog_1_method_15_code 36 = .ok (.aload_n 3, 1) := by decide +kernel
theorem d_Pg_place_37 : decode prog_1_method_15_code 37 = .ok (.getfield 165, 3) := by decide +kernel
theorem d_Pg_place_40 : decode prog_1_method_15_code 40 = .ok (.imul, 1) := by decide +kernel
theorem d_Pg_place_41 : decode prog_1_method_15_code 41 = .ok (.iadd, 1) := by decide +kernel
theorem d_Pg_place_42 : decode prog_1_method_15_code 42 = .ok (.ireturn, 1) := by decide +kernel
def f_Pg_place (a1 : Int32) (a2 : Int32) (M : qM) : Option Int32 := q_bp (f_Tree_letterAt a1 a2 M) fun r1 => if (M.1 0 7) = 0 then (some (-1)) else (q_on r1 (some (-1)) fun o3 => (if (M.1 o3 2) = 0 then (some (-1)) else (some ((M.1 o3 4) + (65536 * (M.1 o3 5))))))
abbrev rm_Pg_place : Room := { frames := 2, cells := 0, slots := 0, locals := 46 }
set_option maxRecDepth 100000 in
set_option maxHeartbeats 4000000 in
theorem c_Pg_place {l : Launch} {D : va_G} {dA : Nat → ClassId} {b : Nat} {adK adV : Nat → Nat} (a1 : Int32) (a2 : Int32)  (M : qM) (out : Int32) (hf : f_Pg_place a1 a2 M = some out) : CTi l y_Pg_place w_Pg_place rm_Pg_place D (tysX dA) (enX dA b) 367 b (qX adK adV 367 b) [qr (some 0), qi a1, qi a2] M (out, M) := by
  refine qm_i (cc := prog_1_method_15_code) (nL := 4) (by decide) rfl (Nat.le_of_ble_eq_true rfl) ?_
  intro p e s m args below meth c Q hx hb hts0 hown hml hK hs hret
  have hts : ∀ w ∈ lw_g, w.before args s = true := fun w h => hts0 w (List.mem_cons_of_mem _ h)
  show QJ p l e rm_Pg_place s m args below meth c (qA 367 b) b 4 0 0 Q (qWd D (enX dA b) 367 b) M 0 [(0, qr (some 0)), (1, qi a1), (2, qi a2)] []
  unfold f_Pg_place at hf
  refine qj_aload_n hx hb d_Pg_place_0 rfl 0 rfl ?_
  refine qj_get hx hb hts hin_11 hown hK (q_in (rfl : tcX 0 = 0) (by decide)) (en_0 (rfl : tcX 0 = 0)) rfl 0 (by decide) (hts _ tw_240) (fun _ h => h) (qr (some 1)) rfl d_Pg_place_1 ?_
  refine qj_iload_n hx hb d_Pg_place_4 rfl 1 rfl ?_
  refine qj_iload_n hx hb d_Pg_place_5 rfl 2 rfl ?_
  have hf9 := q_bp_s hf; clear hf; obtain ⟨r1, hr1, hf⟩ := hf9
  refine qc_Vr (st := []) hx hb hml hown hts hK (qX_ok _ _ _ _) hs (c_Tree_letterAt a1 a2 M _ hr1) ⟨(callB_of 2 hts (q_good tw_340) rfl rfl rfl (hts _ tw_54) (hts _ tw_341) (by decide +kernel) ⟨by decide, by decide⟩), (hts _ tw_342), (hts _ tw_343)⟩ (q_in (rfl : tcX 1 = 1) (by decide)) (en_1 (rfl : tcX 1 = 1)) rfl rfl rfl (Nat.le_of_ble_eq_true rfl) d_Pg_place_6 (fun tr1 => ?_)
  refine qj_astore_n hx hb d_Pg_place_9 rfl (by decide) rfl ?_
  refine qj_aload_n hx hb d_Pg_place_10 rfl 1 rfl ?_
  refine qj_get hx hb hts hin_11 hown hK (q_in (rfl : tcX 0 = 0) (by decide)) (en_0 (rfl : tcX 0 = 0)) rfl 7 (by decide) (hts _ tw_0) (fun _ h => h) (qi (M.1 0 7)) rfl d_Pg_place_11 ?_
  refine qj_if_eq (tgt := 28) hx hb d_Pg_place_14 (by decide) (fun hc2 => ?_) (fun hc2 => ?_)
  · replace hf := q_if_t hc2 hf
    refine qj_iconst (v := (-1)) hx hb d_Pg_place_28 (by decide) ?_
    exact hret _ _ _ _ d_Pg_place_29 (congrArg (fun z => (z, M)) (Option.some.inj hf))
  · replace hf := q_if_f hc2 hf
    refine qj_aload_n hx hb d_Pg_place_17 rfl 0 rfl ?_
    refine qj_ifnull (tgt := 28) hx hb d_Pg_place_18 (by decide) (fun hn5 => ?_) (fun o3 hn5 => ?_)
    · subst hn5
      replace hf := q_on_n hf
      refine qj_iconst (v := (-1)) hx hb d_Pg_place_28 (by decide) ?_
      exact hret _ _ _ _ d_Pg_place_29 (congrArg (fun z => (z, M)) (Option.some.inj hf))
    · subst hn5
      replace hf := q_on_s hf
      refine qj_aload_n hx hb d_Pg_place_21 rfl 0 rfl ?_
      refine qj_get hx hb hts hin_2 hown hK (q_in (tr1 _ rfl) (by decide)) (en_12 (tr1 _ rfl)) rfl 2 (by decide) (hts _ tw_411) (fun _ h => h) (qi (M.1 o3 2)) rfl d_Pg_place_22 ?_
      refine qj_if_ne (tgt := 30) hx hb d_Pg_place_25 (by decide) (fun hc4 => ?_) (fun hc4 => ?_)
      · replace hf := q_if_f hc4 hf
        refine qj_aload_n hx hb d_Pg_place_30 rfl 0 rfl ?_
        refine qj_get hx hb hts hin_2 hown hK (q_in (tr1 _ rfl) (by decide)) (en_12 (tr1 _ rfl)) rfl 4 (by decide) (hts _ tw_412) (fun _ h => h) (qi (M.1 o3 4)) rfl d_Pg_place_31 ?_
        refine qj_ldc (v := 65536) hx hb hown (hts _ tw_413) d_Pg_place_34 ?_
        refine qj_aload_n hx hb d_Pg_place_36 rfl 0 rfl ?_
        refine qj_get hx hb hts hin_2 hown hK (q_in (tr1 _ rfl) (by decide)) (en_12 (tr1 _ rfl)) rfl 5 (by decide) (hts _ tw_414) (fun _ h => h) (qi (M.1 o3 5)) rfl d_Pg_place_37 ?_
        refine qj_imul hx hb d_Pg_place_40 ?_
        refine qj_iadd hx hb d_Pg_place_41 ?_
        exact hret _ _ _ _ d_Pg_place_42 (congrArg (fun z => (z, M)) (Option.some.inj hf))
      · replace hf := q_if_t hc4 hf
        refine qj_iconst (v := (-1)) hx hb d_Pg_place_28 (by decide) ?_
        exact hret _ _ _ _ d_Pg_place_29 (congrArg (fun z => (z, M)) (Option.some.inj hf))
theorem d_Pg_lines_0 : decode prog_1_method_16_code 0 = .ok (.aload_n 0, 1) := by decide +kernel
theorem d_Pg_lines_1 : decode prog_1_method_16_code 1 = .ok (.getfield 133, 3) := by decide +kernel
theorem d_Pg_lines_4 : decode prog_1_method_16_code 4 = .ok (.ifCond .eq 16, 3) := by decide +kernel
theorem d_Pg_lines_7 : decode prog_1_method_16_code 7 = .ok (.aload_n 0, 1) := by decide +kernel
theorem d_Pg_lines_8 : decode prog_1_method_16_code 8 = .ok (.getfield 33, 3) := by decide +kernel
theorem d_Pg_lines_11 : decode prog_1_method_16_code 11 = .ok (.getfield 166, 3) := by decide +kernel
theorem d_Pg_lines_14 : decode prog_1_method_16_code 14 = .ok (.getfield 170, 3) := by decide +kernel
theorem d_Pg_lines_17 : decode prog_1_method_16_code 17 = .ok (.goto 4, 3) := by decide +kernel
theorem d_Pg_lines_20 : decode prog_1_method_16_code 20 = .ok (.iconst (-1), 1) := by decide +kernel
theorem d_Pg_lines_21 : decode prog_1_method_16_code 21 = .ok (.ireturn, 1) := by decide +kernel
def f_Pg_lines  (M : qM) : Option Int32 := if (M.1 0 7) = 0 then (some (-1)) else (some (M.1 365 12))
abbrev rm_Pg_lines : Room := { frames := 0, cells := 0, slots := 0, locals := 0 }
set_option maxRecDepth 100000 in
set_option maxHeartbeats 4000000 in
theorem c_Pg_lines {l : Launch} {D : va_G} {dA : Nat → ClassId} {b : Nat} {adK adV : Nat → Nat}   (M : qM) (out : Int32) (hf : f_Pg_lines M = some out) : CTi l y_Pg_lines w_Pg_lines rm_Pg_lines D (tysX dA) (enX dA b) 367 b (qX adK adV 367 b) [qr (some 0)] M (out, M) := by
  refine qm_i (cc := prog_1_method_16_code) (nL := 1) (by decide) rfl (Nat.le_of_ble_eq_true rfl) ?_
  intro p e s m args below meth c Q hx hb hts0 hown hml hK hs hret
  have hts : ∀ w ∈ lw_g, w.before args s = true := fun w h => hts0 w (List.mem_cons_of_mem _ h)
  show QJ p l e rm_Pg_lines s m args below meth c (qA 367 b) b 1 0 0 Q (qWd D (enX dA b) 367 b) M 0 [(0, qr (some 0))] []
  unfold f_Pg_lines at hf
  refine qj_aload_n hx hb d_Pg_lines_0 rfl 0 rfl ?_
  refine qj_get hx hb hts hin_11 hown hK (q_in (rfl : tcX 0 = 0) (by decide)) (en_0 (rfl : tcX 0 = 0)) rfl 7 (by decide) (hts _ tw_0) (fun _ h => h) (qi (M.1 0 7)) rfl d_Pg_lines_1 ?_
  refine qj_if_eq (tgt := 20) hx hb d_Pg_lines_4 (by decide) (fun hc1 => ?_) (fun hc1 => ?_)
  · replace hf := q_if_t hc1 hf
    refine qj_iconst (v := (-1)) hx hb d_Pg_lines_20 (by decide) ?_
    exact hret _ _ _ _ d_Pg_lines_21 (congrArg (fun z => (z, M)) (Option.some.inj hf))
  · replace hf := q_if_f hc1 hf
    refine qj_aload_n hx hb d_Pg_lines_7 rfl 0 rfl ?_
    refine qj_get hx hb hts hin_11 hown hK (q_in (rfl : tcX 0 = 0) (by decide)) (en_0 (rfl : tcX 0 = 0)) rfl 3 (by decide) (hts _ tw_415) (fun _ h => h) (qr (some 364)) rfl d_Pg_lines_8 ?_
    refine qj_get hx hb hts hin_10 hown hK (q_in (rfl : tcX 364 = 24) (by decide)) (en_24 (rfl : tcX 364 = 24)) rfl 0 (by decide) (hts _ tw_416) (fun _ h => h) (qr (some 365)) rfl d_Pg_lines_11 ?_
    refine qj_get hx hb hts hin_9 hown hK (q_in (rfl : tcX 365 = 25) (by decide)) (en_25 (rfl : tcX 365 = 25)) rfl 12 (by decide) (hts _ tw_417) (fun _ h => h) (qi (M.1 365 12)) rfl d_Pg_lines_14 ?_
    refine qj_goto (tgt := 21) hx hb d_Pg_lines_17 (by decide) ?_
    exact hret _ _ _ _ d_Pg_lines_21 (congrArg (fun z => (z, M)) (Option.some.inj hf))
theorem d_Layout_covers_0 : decode prog_4_method_9_code 0 = .ok (.iload_n 1, 1) := by decide +kernel
theorem d_Layout_covers_1 : decode prog_4_method_9_code 1 = .ok (.aload_n 0, 1) := by decide +kernel
theorem d_Layout_covers_2 : decode prog_4_method_9_code 2 = .ok (.getfield 70, 3) := by decide +kernel
theorem d_Layout_covers_5 : decode prog_4_method_9_code 5 = .ok (.if_icmp .lt 41, 3) := by decide +kernel
theorem d_Layout_covers_8 : decode prog_4_method_9_code 8 = .ok (.iload_n 1, 1) := by decide +kernel
theorem d_Layout_covers_9 : decode prog_4_method_9_code 9 = .ok (.aload_n 0, 1) := by decide +kernel
theorem d_Layout_covers_10 : decode prog_4_method_9_code 10 = .ok (.getfield 70, 3) := by decide +kernel
theorem d_Layout_covers_13 : decode prog_4_method_9_code 13 = .ok (.aload_n 0, 1) := by decide +kernel
theorem d_Layout_covers_14 : decode prog_4_method_9_code 14 = .ok (.getfield 91, 3) := by decide +kernel
theorem d_Layout_covers_17 : decode prog_4_method_9_code 17 = .ok (.iadd, 1) := by decide +kernel
theorem d_Layout_covers_18 : decode prog_4_method_9_code 18 = .ok (.if_icmp .ge 28, 3) := by decide +kernel
theorem d_Layout_covers_21 : decode prog_4_method_9_code 21 = .ok (.iload_n 2, 1) := by decide +kernel
theorem d_Layout_covers_22 : decode prog_4_method_9_code 22 = .ok (.aload_n 0, 1) := by decide +kernel
theorem d_Layout_covers_23 : decode prog_4_method_9_code 23 = .ok (.getfield 73, 3) := by decide +kernel
theorem d_Layout_covers_26 : decode prog_4_method_9_code 26 = .ok (.if_icmp .lt 20, 3) := by decide +kernel
theorem d_Layout_covers_29 : decode prog_4_method_9_code 29 = .ok (.iload_n 2, 1) := by decide +kernel
theorem d_Layout_covers_30 : decode prog_4_method_9_code 30 = .ok (.aload_n 0, 1) := by decide +kernel
theorem d_Layout_covers_31 : decode prog_4_method_9_code 31 = .ok (.getfield 73, 3) := by decide +kernel
theorem d_Layout_covers_34 : decode prog_4_method_9_code 34 = .ok (.aload_n 0, 1) := by decide +kernel
theorem d_Layout_covers_35 : decode prog_4_method_9_code 35 = .ok (.getfield 116, 3) := by decide +kernel
theorem d_Layout_covers_38 : decode prog_4_method_9_code 38 = .ok (.iadd, 1) := by decide +kernel
theorem d_Layout_covers_39 : decode prog_4_method_9_code 39 = .ok (.if_icmp .ge 7, 3) := by decide +kernel
theorem d_Layout_covers_42 : decode prog_4_method_9_code 42 = .ok (.iconst 1, 1) := by decide +kernel
theorem d_Layout_covers_43 : decode prog_4_method_9_code 43 = .ok (.goto 4, 3) := by decide +kernel
theorem d_Layout_covers_46 : decode prog_4_method_9_code 46 = .ok (.iconst 0, 1) := by decide +kernel
theorem d_Layout_covers_47 : decode prog_4_method_9_code 47 = .ok (.ireturn, 1) := by decide +kernel
def f_Layout_covers (q0 : Nat) (a1 : Int32) (a2 : Int32) (M : qM) : Option Int32 := if a1 < (M.1 q0 1) then (some 0) else (if ((M.1 q0 1) + (M.1 q0 3)) ≤ a1 then (some 0) else (if a2 < (M.1 q0 2) then (some 0) else (if ((M.1 q0 2) + (M.1 q0 4)) ≤ a2 then (some 0) else (some 1))))
abbrev rm_Layout_covers : Room := { frames := 0, cells := 0, slots := 0, locals := 0 }
set_option maxRecDepth 100000 in
set_option maxHeartbeats 4000000 in
theorem c_Layout_covers {l : Launch} {D : va_G} {dA : Nat → ClassId} {b : Nat} {adK adV : Nat → Nat} (q0 : Nat) (a1 : Int32) (a2 : Int32) (tq0 : tcX q0 = 11) (M : qM) (out : Int32) (hf : f_Layout_covers q0 a1 a2 M = some out) : CTi l y_Layout_covers w_Layout_covers rm_Layout_covers D (tysX dA) (enX dA b) 367 b (qX adK adV 367 b) [qr (some q0), qi a1, qi a2] M (out, M) := by
  refine qm_z (cc := prog_4_method_9_code) (nL := 3) (by decide) rfl (Nat.le_of_ble_eq_true rfl) ?_
  intro p e s m args below meth c Q hx hb hts0 hown hml hK hs hret
  have hts : ∀ w ∈ lw_g, w.before args s = true := fun w h => hts0 w (List.mem_cons_of_mem _ h)
  show QJ p l e rm_Layout_covers s m args below meth c (qA 367 b) b 3 0 0 Q (qWd D (enX dA b) 367 b) M 0 [(0, qr (some q0)), (1, qi a1), (2, qi a2)] []
  unfold f_Layout_covers at hf
  refine qj_iload_n hx hb d_Layout_covers_0 rfl 1 rfl ?_
  refine qj_aload_n hx hb d_Layout_covers_1 rfl 0 rfl ?_
  refine qj_get hx hb hts hin_0 hown hK (q_in tq0 (by decide)) (en_11 tq0) rfl 1 (by decide) (hts _ tw_418) (fun _ h => h) (qi (M.1 q0 1)) rfl d_Layout_covers_2 ?_
  refine qj_icmp_lt (tgt := 46) hx hb d_Layout_covers_5 (by decide) (fun hc1 => ?_) (fun hc1 => ?_)
  · replace hf := q_if_t hc1 hf
    refine qj_iconst (v := 0) hx hb d_Layout_covers_46 (by decide) ?_
    exact hret _ _ _ _ (Or.inl rfl) d_Layout_covers_47 (congrArg (fun z => (z, M)) (Option.some.inj hf))
  · replace hf := q_if_f hc1 hf
    refine qj_iload_n hx hb d_Layout_covers_8 rfl 1 rfl ?_
    refine qj_aload_n hx hb d_Layout_covers_9 rfl 0 rfl ?_
    refine qj_get hx hb hts hin_0 hown hK (q_in tq0 (by decide)) (en_11 tq0) rfl 1 (by decide) (hts _ tw_418) (fun _ h => h) (qi (M.1 q0 1)) rfl d_Layout_covers_10 ?_
    refine qj_aload_n hx hb d_Layout_covers_13 rfl 0 rfl ?_
    refine qj_get hx hb hts hin_0 hown hK (q_in tq0 (by decide)) (en_11 tq0) rfl 3 (by decide) (hts _ tw_419) (fun _ h => h) (qi (M.1 q0 3)) rfl d_Layout_covers_14 ?_
    refine qj_iadd hx hb d_Layout_covers_17 ?_
    refine qj_icmp_ge (tgt := 46) hx hb d_Layout_covers_18 (by decide) (fun hc2 => ?_) (fun hc2 => ?_)
    · replace hf := q_if_t hc2 hf
      refine qj_iconst (v := 0) hx hb d_Layout_covers_46 (by decide) ?_
      exact hret _ _ _ _ (Or.inl rfl) d_Layout_covers_47 (congrArg (fun z => (z, M)) (Option.some.inj hf))
    · replace hf := q_if_f hc2 hf
      refine qj_iload_n hx hb d_Layout_covers_21 rfl 2 rfl ?_
      refine qj_aload_n hx hb d_Layout_covers_22 rfl 0 rfl ?_
      refine qj_get hx hb hts hin_0 hown hK (q_in tq0 (by decide)) (en_11 tq0) rfl 2 (by decide) (hts _ tw_420) (fun _ h => h) (qi (M.1 q0 2)) rfl d_Layout_covers_23 ?_
      refine qj_icmp_lt (tgt := 46) hx hb d_Layout_covers_26 (by decide) (fun hc3 => ?_) (fun hc3 => ?_)
      · replace hf := q_if_t hc3 hf
        refine qj_iconst (v := 0) hx hb d_Layout_covers_46 (by decide) ?_
        exact hret _ _ _ _ (Or.inl rfl) d_Layout_covers_47 (congrArg (fun z => (z, M)) (Option.some.inj hf))
      · replace hf := q_if_f hc3 hf
        refine qj_iload_n hx hb d_Layout_covers_29 rfl 2 rfl ?_
        refine qj_aload_n hx hb d_Layout_covers_30 rfl 0 rfl ?_
        refine qj_get hx hb hts hin_0 hown hK (q_in tq0 (by decide)) (en_11 tq0) rfl 2 (by decide) (hts _ tw_420) (fun _ h => h) (qi (M.1 q0 2)) rfl d_Layout_covers_31 ?_
        refine qj_aload_n hx hb d_Layout_covers_34 rfl 0 rfl ?_
        refine qj_get hx hb hts hin_0 hown hK (q_in tq0 (by decide)) (en_11 tq0) rfl 4 (by decide) (hts _ tw_421) (fun _ h => h) (qi (M.1 q0 4)) rfl d_Layout_covers_35 ?_
        refine qj_iadd hx hb d_Layout_covers_38 ?_
        refine qj_icmp_ge (tgt := 46) hx hb d_Layout_covers_39 (by decide) (fun hc4 => ?_) (fun hc4 => ?_)
        · replace hf := q_if_t hc4 hf
          refine qj_iconst (v := 0) hx hb d_Layout_covers_46 (by decide) ?_
          exact hret _ _ _ _ (Or.inl rfl) d_Layout_covers_47 (congrArg (fun z => (z, M)) (Option.some.inj hf))
        · replace hf := q_if_f hc4 hf
          refine qj_iconst (v := 1) hx hb d_Layout_covers_42 (by decide) ?_
          refine qj_goto (tgt := 47) hx hb d_Layout_covers_43 (by decide) ?_
          exact hret _ _ _ _ (Or.inr rfl) d_Layout_covers_47 (congrArg (fun z => (z, M)) (Option.some.inj hf))
theorem d_Layout_marks_0 : decode prog_4_method_10_code 0 = .ok (.aload_n 0, 1) := by decide +kernel
theorem d_Layout_marks_1 : decode prog_4_method_10_code 1 = .ok (.getfield 162, 3) := by decide +kernel
theorem d_Layout_marks_4 : decode prog_4_method_10_code 4 = .ok (.istore_n 3, 1) := by decide +kernel
theorem d_Layout_marks_5 : decode prog_4_method_10_code 5 = .ok (.iload_n 1, 1) := by decide +kernel
theorem d_Layout_marks_6 : decode prog_4_method_10_code 6 = .ok (.aload_n 0, 1) := by decide +kernel
theorem d_Layout_marks_7 : decode prog_4_method_10_code 7 = .ok (.getfield 165, 3) := by decide +kernel
theorem d_Layout_marks_10 : decode prog_4_method_10_code 10 = .ok (.isub, 1) := by decide +kernel
theorem d_Layout_marks_11 : decode prog_4_method_10_code 11 = .ok (.istore 4, 2) := by decide +kernel
theorem d_Layout_marks_13 : decode prog_4_method_10_code 13 = .ok (.iload_n 2, 1) := by decide +kernel
theorem d_Layout_marks_14 : decode prog_4_method_10_code 14 = .ok (.aload_n 0, 1) := by decide +kernel
theorem d_Layout_marks_15 : decode prog_4_method_10_code 15 = .ok (.getfield 166, 3) := by decide +kernel
theorem d_Layout_marks_18 : decode prog_4_method_10_code 18 = .ok (.isub, 1) := by decide +kernel
theorem d_Layout_marks_19 : decode prog_4_method_10_code 19 = .ok (.istore 5, 2) := by decide +kernel
theorem d_Layout_marks_21 : decode prog_4_method_10_code 21 = .ok (.iload 4, 2) := by decide +kernel
theorem d_Layout_marks_23 : decode prog_4_method_10_code 23 = .ok (.ifCond .lt 20, 3) := by decide +kernel
theorem d_Layout_marks_26 : decode prog_4_method_10_code 26 = .ok (.iload 4, 2) := by decide +kernel
theorem d_Layout_marks_28 : decode prog_4_method_10_code 28 = .ok (.iload_n 3, 1) := by decide +kernel
theorem d_Layout_marks_29 : decode prog_4_method_10_code 29 = .ok (.if_icmp .ge 14, 3) := by decide +kernel
theorem d_Layout_marks_32 : decode prog_4_method_10_code 32 = .ok (.iload 5, 2) := by decide +kernel
theorem d_Layout_marks_34 : decode prog_4_method_10_code 34 = .ok (.ifCond .lt 9, 3) := by decide +kernel
theorem d_Layout_marks_37 : decode prog_4_method_10_code 37 = .ok (.iload 5, 2) := by decide +kernel
theorem d_Layout_marks_39 : decode prog_4_method_10_code 39 = .ok (.iload_n 3, 1) := by decide +kernel
theorem d_Layout_marks_40 : decode prog_4_method_10_code 40 = .ok (.if_icmp .lt 5, 3) := by decide +kernel
theorem d_Layout_marks_43 : decode prog_4_method_10_code 43 = .ok (.iconst 0, 1) := by decide +kernel
theorem d_Layout_marks_44 : decode prog_4_method_10_code 44 = .ok (.ireturn, 1) := by decide +kernel
theorem d_Layout_marks_45 : decode prog_4_method_10_code 45 = .ok (.iconst 2, 1) := by decide +kernel
theorem d_Layout_marks_46 : decode prog_4_method_10_code 46 = .ok (.iconst 2, 1) := by decide +kernel
theorem d_Layout_marks_47 : decode prog_4_method_10_code 47 = .ok (.iload 5, 2) := by decide +kernel
theorem d_Layout_marks_49 : decode prog_4_method_10_code 49 = .ok (.imul, 1) := by decide +kernel
theorem d_Layout_marks_50 : decode prog_4_method_10_code 50 = .ok (.iload_n 3, 1) := by decide +kernel
theorem d_Layout_marks_51 : decode prog_4_method_10_code 51 = .ok (.idiv, 1) := by decide +kernel
theorem d_Layout_marks_52 : decode prog_4_method_10_code 52 = .ok (.imul, 1) := by decide +kernel
theorem d_Layout_marks_53 : decode prog_4_method_10_code 53 = .ok (.iconst 2, 1) := by decide +kernel
theorem d_Layout_marks_54 : decode prog_4_method_10_code 54 = .ok (.iload 4, 2) := by decide +kernel
theorem d_Layout_marks_56 : decode prog_4_method_10_code 56 = .ok (.imul, 1) := by decide +kernel
theorem d_Layout_marks_57 : decode prog_4_method_10_code 57 = .ok (.iload_n 3, 1) := by decide +kernel
theorem d_Layout_marks_58 : decode prog_4_method_10_code 58 = .ok (.idiv, 1) := by decide +kernel
theorem d_Layout_marks_59 : decode prog_4_method_10_code 59 = .ok (.iadd, 1) := by decide +kernel
theorem d_Layout_marks_60 : decode prog_4_method_10_code 60 = .ok (.istore 6, 2) := by decide +kernel
theorem d_Layout_marks_62 : decode prog_4_method_10_code 62 = .ok (.aload_n 0, 1) := by decide +kernel
theorem d_Layout_marks_63 : decode prog_4_method_10_code 63 = .ok (.getfield 167, 3) := by decide +kernel
theorem d_Layout_marks_66 : decode prog_4_method_10_code 66 = .ok (.iload 6, 2) := by decide +kernel
theorem d_Layout_marks_68 : decode prog_4_method_10_code 68 = .ok (.ishr, 1) := by decide +kernel
theorem d_Layout_marks_69 : decode prog_4_method_10_code 69 = .ok (.iconst 1, 1) := by decide +kernel
theorem d_Layout_marks_70 : decode prog_4_method_10_code 70 = .ok (.iand, 1) := by decide +kernel
theorem d_Layout_marks_71 : decode prog_4_method_10_code 71 = .ok (.ifCond .eq 7, 3) := by decide +kernel
theorem d_Layout_marks_74 : decode prog_4_method_10_code 74 = .ok (.iconst 1, 1) := by decide +kernel
theorem d_Layout_marks_75 : decode prog_4_method_10_code 75 = .ok (.goto 4, 3) := by decide +kernel
theorem d_Layout_marks_78 : decode prog_4_method_10_code 78 = .ok (.iconst 0, 1) := by decide +kernel
theorem d_Layout_marks_79 : decode prog_4_method_10_code 79 = .ok (.ireturn, 1) := by decide +kernel
def f_Layout_marks (q0 : Nat) (a1 : Int32) (a2 : Int32) (M : qM) : Option Int32 := if (a1 - (M.1 q0 4)) < 0 then (some 0) else (if (M.1 q0 3) ≤ (a1 - (M.1 q0 4)) then (some 0) else (if (a2 - (M.1 q0 5)) < 0 then (some 0) else (if (a2 - (M.1 q0 5)) < (M.1 q0 3) then (q_dk (M.1 q0 3) <| q_dk (M.1 q0 3) <| q_lt ((2 * ((2 * (a2 - (M.1 q0 5))) / (M.1 q0 3))) + ((2 * (a1 - (M.1 q0 4))) / (M.1 q0 3))) fun x7 => if (((M.1 q0 0) >>> (x7 &&& 31)) &&& 1) = 0 then (some 0) else (some 1)) else (some 0))))
abbrev rm_Layout_marks : Room := { frames := 0, cells := 0, slots := 0, locals := 0 }
set_option maxRecDepth 100000 in
set_option maxHeartbeats 4000000 in
theorem c_Layout_marks {l : Launch} {D : va_G} {dA : Nat → ClassId} {b : Nat} {adK adV : Nat → Nat} (q0 : Nat) (a1 : Int32) (a2 : Int32) (tq0 : tcX q0 = 12) (M : qM) (out : Int32) (hf : f_Layout_marks q0 a1 a2 M = some out) : CTi l y_Layout_marks w_Layout_marks rm_Layout_marks D (tysX dA) (enX dA b) 367 b (qX adK adV 367 b) [qr (some q0), qi a1, qi a2] M (out, M) := by
  refine qm_z (cc := prog_4_method_10_code) (nL := 7) (by decide) rfl (Nat.le_of_ble_eq_true rfl) ?_
  intro p e s m args below meth c Q hx hb hts0 hown hml hK hs hret
  have hts : ∀ w ∈ lw_g, w.before args s = true := fun w h => hts0 w (List.mem_cons_of_mem _ h)
  show QJ p l e rm_Layout_marks s m args below meth c (qA 367 b) b 7 0 0 Q (qWd D (enX dA b) 367 b) M 0 [(0, qr (some q0)), (1, qi a1), (2, qi a2)] []
  unfold f_Layout_marks at hf
  refine qj_aload_n hx hb d_Layout_marks_0 rfl 0 rfl ?_
  refine qj_get hx hb hts hin_2 hown hK (q_in tq0 (by decide)) (en_12 tq0) rfl 3 (by decide) (hts _ tw_422) (fun _ h => h) (qi (M.1 q0 3)) rfl d_Layout_marks_1 ?_
  refine qj_istore_n hx hb d_Layout_marks_4 rfl (by decide) rfl ?_
  refine qj_iload_n hx hb d_Layout_marks_5 rfl 2 rfl ?_
  refine qj_aload_n hx hb d_Layout_marks_6 rfl 1 rfl ?_
  refine qj_get hx hb hts hin_2 hown hK (q_in tq0 (by decide)) (en_12 tq0) rfl 4 (by decide) (hts _ tw_423) (fun _ h => h) (qi (M.1 q0 4)) rfl d_Layout_marks_7 ?_
  refine qj_isub hx hb d_Layout_marks_10 ?_
  refine qj_istore hx hb d_Layout_marks_11 (by decide) rfl ?_
  refine qj_iload_n hx hb d_Layout_marks_13 rfl 4 rfl ?_
  refine qj_aload_n hx hb d_Layout_marks_14 rfl 2 rfl ?_
  refine qj_get hx hb hts hin_2 hown hK (q_in tq0 (by decide)) (en_12 tq0) rfl 5 (by decide) (hts _ tw_424) (fun _ h => h) (qi (M.1 q0 5)) rfl d_Layout_marks_15 ?_
  refine qj_isub hx hb d_Layout_marks_18 ?_
  refine qj_istore hx hb d_Layout_marks_19 (by decide) rfl ?_
  refine qj_iload hx hb d_Layout_marks_21 1 rfl ?_
  refine qj_if_lt (tgt := 43) hx hb d_Layout_marks_23 (by decide) (fun hc1 => ?_) (fun hc1 => ?_)
  · replace hf := q_if_t hc1 hf
    refine qj_iconst (v := 0) hx hb d_Layout_marks_43 (by decide) ?_
    exact hret _ _ _ _ (Or.inl rfl) d_Layout_marks_44 (congrArg (fun z => (z, M)) (Option.some.inj hf))
  · replace hf := q_if_f hc1 hf
    refine qj_iload hx hb d_Layout_marks_26 1 rfl ?_
    refine qj_iload_n hx hb d_Layout_marks_28 rfl 2 rfl ?_
    refine qj_icmp_ge (tgt := 43) hx hb d_Layout_marks_29 (by decide) (fun hc2 => ?_) (fun hc2 => ?_)
    · replace hf := q_if_t hc2 hf
      refine qj_iconst (v := 0) hx hb d_Layout_marks_43 (by decide) ?_
      exact hret _ _ _ _ (Or.inl rfl) d_Layout_marks_44 (congrArg (fun z => (z, M)) (Option.some.inj hf))
    · replace hf := q_if_f hc2 hf
      refine qj_iload hx hb d_Layout_marks_32 0 rfl ?_
      refine qj_if_lt (tgt := 43) hx hb d_Layout_marks_34 (by decide) (fun hc3 => ?_) (fun hc3 => ?_)
      · replace hf := q_if_t hc3 hf
        refine qj_iconst (v := 0) hx hb d_Layout_marks_43 (by decide) ?_
        exact hret _ _ _ _ (Or.inl rfl) d_Layout_marks_44 (congrArg (fun z => (z, M)) (Option.some.inj hf))
      · replace hf := q_if_f hc3 hf
        refine qj_iload hx hb d_Layout_marks_37 0 rfl ?_
        refine qj_iload_n hx hb d_Layout_marks_39 rfl 2 rfl ?_
        refine qj_icmp_lt (tgt := 45) hx hb d_Layout_marks_40 (by decide) (fun hc4 => ?_) (fun hc4 => ?_)
        · replace hf := q_if_t hc4 hf
          refine qj_iconst (v := 2) hx hb d_Layout_marks_45 (by decide) ?_
          refine qj_iconst (v := 2) hx hb d_Layout_marks_46 (by decide) ?_
          refine qj_iload hx hb d_Layout_marks_47 0 rfl ?_
          refine qj_imul hx hb d_Layout_marks_49 ?_
          refine qj_iload_n hx hb d_Layout_marks_50 rfl 2 rfl ?_
          have hf9 := q_dk_s hf; clear hf; obtain ⟨hd5, hf⟩ := hf9
          refine qj_idiv hx hb d_Layout_marks_51 hd5 ?_
          refine qj_imul hx hb d_Layout_marks_52 ?_
          refine qj_iconst (v := 2) hx hb d_Layout_marks_53 (by decide) ?_
          refine qj_iload hx hb d_Layout_marks_54 1 rfl ?_
          refine qj_imul hx hb d_Layout_marks_56 ?_
          refine qj_iload_n hx hb d_Layout_marks_57 rfl 2 rfl ?_
          have hf9 := q_dk_s hf; clear hf; obtain ⟨hd6, hf⟩ := hf9
          refine qj_idiv hx hb d_Layout_marks_58 hd6 ?_
          refine qj_iadd hx hb d_Layout_marks_59 ?_
          have hf9 := q_lt_s hf; clear hf; obtain ⟨x7, ex7, hf⟩ := hf9
          rw [← ex7]
          refine qj_istore hx hb d_Layout_marks_60 (by decide) rfl ?_
          refine qj_aload_n hx hb d_Layout_marks_62 rfl 4 rfl ?_
          refine qj_get hx hb hts hin_2 hown hK (q_in tq0 (by decide)) (en_12 tq0) rfl 0 (by decide) (hts _ tw_425) (fun _ h => h) (qi (M.1 q0 0)) rfl d_Layout_marks_63 ?_
          refine qj_iload hx hb d_Layout_marks_66 0 rfl ?_
          refine qj_ishr hx hb d_Layout_marks_68 ?_
          refine qj_iconst (v := 1) hx hb d_Layout_marks_69 (by decide) ?_
          refine qj_iand hx hb d_Layout_marks_70 ?_
          refine qj_if_eq (tgt := 78) hx hb d_Layout_marks_71 (by decide) (fun hc8 => ?_) (fun hc8 => ?_)
          · replace hf := q_if_t hc8 hf
            refine qj_iconst (v := 0) hx hb d_Layout_marks_78 (by decide) ?_
            exact hret _ _ _ _ (Or.inl rfl) d_Layout_marks_79 (congrArg (fun z => (z, M)) (Option.some.inj hf))
          · replace hf := q_if_f hc8 hf
            refine qj_iconst (v := 1) hx hb d_Layout_marks_74 (by decide) ?_
            refine qj_goto (tgt := 79) hx hb d_Layout_marks_75 (by decide) ?_
            exact hret _ _ _ _ (Or.inr rfl) d_Layout_marks_79 (congrArg (fun z => (z, M)) (Option.some.inj hf))
        · replace hf := q_if_f hc4 hf
          refine qj_iconst (v := 0) hx hb d_Layout_marks_43 (by decide) ?_
          exact hret _ _ _ _ (Or.inl rfl) d_Layout_marks_44 (congrArg (fun z => (z, M)) (Option.some.inj hf))
theorem d_Layout_paintedAt_0 : decode prog_4_method_8_code 0 = .ok (.iconst 0, 1) := by decide +kernel
theorem d_Layout_paintedAt_1 : decode prog_4_method_8_code 1 = .ok (.istore 4, 2) := by decide +kernel
theorem d_Layout_paintedAt_3 : decode prog_4_method_8_code 3 = .ok (.iconst 0, 1) := by decide +kernel
theorem d_Layout_paintedAt_4 : decode prog_4_method_8_code 4 = .ok (.istore 5, 2) := by decide +kernel
theorem d_Layout_paintedAt_6 : decode prog_4_method_8_code 6 = .ok (.iload 5, 2) := by decide +kernel
theorem d_Layout_paintedAt_8 : decode prog_4_method_8_code 8 = .ok (.aload_n 1, 1) := by decide +kernel
theorem d_Layout_paintedAt_9 : decode prog_4_method_8_code 9 = .ok (.getfield 25, 3) := by decide +kernel
theorem d_Layout_paintedAt_12 : decode prog_4_method_8_code 12 = .ok (.if_icmp .ge 61, 3) := by decide +kernel
theorem d_Layout_paintedAt_15 : decode prog_4_method_8_code 15 = .ok (.aload_n 1, 1) := by decide +kernel
theorem d_Layout_paintedAt_16 : decode prog_4_method_8_code 16 = .ok (.getfield 30, 3) := by decide +kernel
theorem d_Layout_paintedAt_19 : decode prog_4_method_8_code 19 = .ok (.iload 5, 2) := by decide +kernel
theorem d_Layout_paintedAt_21 : decode prog_4_method_8_code 21 = .ok (.aaload, 1) := by decide +kernel
theorem d_Layout_paintedAt_22 : decode prog_4_method_8_code 22 = .ok (.astore 6, 2) := by decide +kernel
theorem d_Layout_paintedAt_24 : decode prog_4_method_8_code 24 = .ok (.aload 6, 2) := by decide +kernel
theorem d_Layout_paintedAt_26 : decode prog_4_method_8_code 26 = .ok (.getfield 34, 3) := by decide +kernel
theorem d_Layout_paintedAt_29 : decode prog_4_method_8_code 29 = .ok (.getfield 40, 3) := by decide +kernel
theorem d_Layout_paintedAt_32 : decode prog_4_method_8_code 32 = .ok (.ifCond .eq 35, 3) := by decide +kernel
theorem d_Layout_paintedAt_35 : decode prog_4_method_8_code 35 = .ok (.aload 6, 2) := by decide +kernel
theorem d_Layout_paintedAt_37 : decode prog_4_method_8_code 37 = .ok (.getfield 66, 3) := by decide +kernel
theorem d_Layout_paintedAt_40 : decode prog_4_method_8_code 40 = .ok (.iconst 1, 1) := by decide +kernel
theorem d_Layout_paintedAt_41 : decode prog_4_method_8_code 41 = .ok (.iaload, 1) := by decide +kernel
theorem d_Layout_paintedAt_42 : decode prog_4_method_8_code 42 = .ok (.ifCond .eq 25, 3) := by decide +kernel
theorem d_Layout_paintedAt_45 : decode prog_4_method_8_code 45 = .ok (.aload 6, 2) := by decide +kernel
theorem d_Layout_paintedAt_47 : decode prog_4_method_8_code 47 = .ok (.getfield 34, 3) := by decide +kernel
theorem d_Layout_paintedAt_50 : decode prog_4_method_8_code 50 = .ok (.iload_n 2, 1) := by decide +kernel
theorem d_Layout_paintedAt_51 : decode prog_4_method_8_code 51 = .ok (.iload_n 3, 1) := by decide +kernel
theorem d_Layout_paintedAt_52 : decode prog_4_method_8_code 52 = .ok (.invokestatic 144, 3) := by decide +kernel
theorem d_Layout_paintedAt_55 : decode prog_4_method_8_code 55 = .ok (.ifCond .eq 12, 3) := by decide +kernel
theorem d_Layout_paintedAt_58 : decode prog_4_method_8_code 58 = .ok (.aload 6, 2) := by decide +kernel
theorem d_Layout_paintedAt_60 : decode prog_4_method_8_code 60 = .ok (.getfield 66, 3) := by decide +kernel
theorem d_Layout_paintedAt_63 : decode prog_4_method_8_code 63 = .ok (.iconst 1, 1) := by decide +kernel
theorem d_Layout_paintedAt_64 : decode prog_4_method_8_code 64 = .ok (.iaload, 1) := by decide +kernel
theorem d_Layout_paintedAt_65 : decode prog_4_method_8_code 65 = .ok (.istore 4, 2) := by decide +kernel
theorem d_Layout_paintedAt_67 : decode prog_4_method_8_code 67 = .ok (.iinc 5 1, 3) := by decide +kernel
theorem d_Layout_paintedAt_70 : decode prog_4_method_8_code 70 = .ok (.goto (-64), 3) := by decide +kernel
theorem d_Layout_paintedAt_73 : decode prog_4_method_8_code 73 = .ok (.iconst 0, 1) := by decide +kernel
theorem d_Layout_paintedAt_74 : decode prog_4_method_8_code 74 = .ok (.istore 5, 2) := by decide +kernel
theorem d_Layout_paintedAt_76 : decode prog_4_method_8_code 76 = .ok (.iload 5, 2) := by decide +kernel
theorem d_Layout_paintedAt_78 : decode prog_4_method_8_code 78 = .ok (.aload_n 1, 1) := by decide +kernel
theorem d_Layout_paintedAt_79 : decode prog_4_method_8_code 79 = .ok (.getfield 25, 3) := by decide +kernel
theorem d_Layout_paintedAt_82 : decode prog_4_method_8_code 82 = .ok (.if_icmp .ge 78, 3) := by decide +kernel
theorem d_Layout_paintedAt_85 : decode prog_4_method_8_code 85 = .ok (.aload_n 1, 1) := by decide +kernel
theorem d_Layout_paintedAt_86 : decode prog_4_method_8_code 86 = .ok (.getfield 30, 3) := by decide +kernel
theorem d_Layout_paintedAt_89 : decode prog_4_method_8_code 89 = .ok (.iload 5, 2) := by decide +kernel
theorem d_Layout_paintedAt_91 : decode prog_4_method_8_code 91 = .ok (.aaload, 1) := by decide +kernel
theorem d_Layout_paintedAt_92 : decode prog_4_method_8_code 92 = .ok (.astore 6, 2) := by decide +kernel
theorem d_Layout_paintedAt_94 : decode prog_4_method_8_code 94 = .ok (.aload 6, 2) := by decide +kernel
theorem d_Layout_paintedAt_96 : decode prog_4_method_8_code 96 = .ok (.getfield 148, 3) := by decide +kernel
theorem d_Layout_paintedAt_99 : decode prog_4_method_8_code 99 = .ok (.astore 7, 2) := by decide +kernel
theorem d_Layout_paintedAt_101 : decode prog_4_method_8_code 101 = .ok (.aload 7, 2) := by decide +kernel
theorem d_Layout_paintedAt_103 : decode prog_4_method_8_code 103 = .ok (.ifnull 51, 3) := by decide +kernel
theorem d_Layout_paintedAt_106 : decode prog_4_method_8_code 106 = .ok (.aload 7, 2) := by decide +kernel
theorem d_Layout_paintedAt_108 : decode prog_4_method_8_code 108 = .ok (.getfield 53, 3) := by decide +kernel
theorem d_Layout_paintedAt_111 : decode prog_4_method_8_code 111 = .ok (.ifCond .eq 33, 3) := by decide +kernel
theorem d_Layout_paintedAt_114 : decode prog_4_method_8_code 114 = .ok (.aload 6, 2) := by decide +kernel
theorem d_Layout_paintedAt_116 : decode prog_4_method_8_code 116 = .ok (.getfield 152, 3) := by decide +kernel
theorem d_Layout_paintedAt_119 : decode prog_4_method_8_code 119 = .ok (.ifnull 25, 3) := by decide +kernel
theorem d_Layout_paintedAt_122 : decode prog_4_method_8_code 122 = .ok (.aload 7, 2) := by decide +kernel
theorem d_Layout_paintedAt_124 : decode prog_4_method_8_code 124 = .ok (.iload_n 2, 1) := by decide +kernel
theorem d_Layout_paintedAt_125 : decode prog_4_method_8_code 125 = .ok (.iload_n 3, 1) := by decide +kernel
theorem d_Layout_paintedAt_126 : decode prog_4_method_8_code 126 = .ok (.invokestatic 155, 3) := by decide +kernel
theorem d_Layout_paintedAt_129 : decode prog_4_method_8_code 129 = .ok (.ifCond .eq 15, 3) := by decide +kernel
theorem d_Layout_paintedAt_132 : decode prog_4_method_8_code 132 = .ok (.aload 6, 2) := by decide +kernel
theorem d_Layout_paintedAt_134 : decode prog_4_method_8_code 134 = .ok (.getfield 152, 3) := by decide +kernel
theorem d_Layout_paintedAt_137 : decode prog_4_method_8_code 137 = .ok (.getfield 66, 3) := by decide +kernel
theorem d_Layout_paintedAt_140 : decode prog_4_method_8_code 140 = .ok (.iconst 0, 1) := by decide +kernel
theorem d_Layout_paintedAt_141 : decode prog_4_method_8_code 141 = .ok (.iaload, 1) := by decide +kernel
theorem d_Layout_paintedAt_142 : decode prog_4_method_8_code 142 = .ok (.istore 4, 2) := by decide +kernel
theorem d_Layout_paintedAt_144 : decode prog_4_method_8_code 144 = .ok (.aload 7, 2) := by decide +kernel
theorem d_Layout_paintedAt_146 : decode prog_4_method_8_code 146 = .ok (.getfield 159, 3) := by decide +kernel
theorem d_Layout_paintedAt_149 : decode prog_4_method_8_code 149 = .ok (.astore 7, 2) := by decide +kernel
theorem d_Layout_paintedAt_151 : decode prog_4_method_8_code 151 = .ok (.goto (-50), 3) := by decide +kernel
theorem d_Layout_paintedAt_154 : decode prog_4_method_8_code 154 = .ok (.iinc 5 1, 3) := by decide +kernel
theorem d_Layout_paintedAt_157 : decode prog_4_method_8_code 157 = .ok (.goto (-81), 3) := by decide +kernel
theorem d_Layout_paintedAt_160 : decode prog_4_method_8_code 160 = .ok (.iload 4, 2) := by decide +kernel
theorem d_Layout_paintedAt_162 : decode prog_4_method_8_code 162 = .ok (.ireturn, 1) := by decide +kernel
def f_Layout_paintedAt_6 (M : qM) (a2 : Int32) (a3 : Int32) : Nat → (Int32 → Option Int32) → Int32 → Int32 → Option Int32
  | 0, _, _, _ => none
  | n + 1, K3, x1, x2 => if (M.1 1 5) ≤ x2 then (K3 x1) else (q_ix x2 24 <| q_lt (M.2 3 x2.toNatClampNeg) fun r6 => q_nn r6 fun o7 => if (M.1 (o7 + 4) 0) = 0 then (f_Layout_paintedAt_6 M a2 a3 n K3 x1 (x2 + 1)) else (q_ix (1 : Int32) 7 <| if (M.1 (o7 + 3) (1 : Int32).toNatClampNeg) = 0 then (f_Layout_paintedAt_6 M a2 a3 n K3 x1 (x2 + 1)) else (q_bp (f_Layout_covers (o7 + 4) a2 a3 M) fun x11 => if x11 = 0 then (f_Layout_paintedAt_6 M a2 a3 n K3 x1 (x2 + 1)) else (q_ix (1 : Int32) 7 <| q_lt (M.1 (o7 + 3) (1 : Int32).toNatClampNeg) fun x14 => f_Layout_paintedAt_6 M a2 a3 n K3 x14 (x2 + 1)))))
def f_Layout_paintedAt_101 (M : qM) (o22 : Nat) (a2 : Int32) (a3 : Int32) : Nat → (Int32 → Option Int32) → Int32 → Option Nat → Option Int32
  | 0, _, _, _ => none
  | n + 1, K26, x24, r25 => q_on r25 (K26 x24) fun o27 => (if (M.1 o27 2) = 0 then (q_lt (M.2 o27 1) fun r29 => f_Layout_paintedAt_101 M o22 a2 a3 n K26 x24 r29) else (q_lt (M.2 o22 4) fun r30 => q_on r30 (q_lt (M.2 o27 1) fun r32 => f_Layout_paintedAt_101 M o22 a2 a3 n K26 x24 r32) fun o31 => (q_bp (f_Layout_marks o27 a2 a3 M) fun x33 => if x33 = 0 then (q_lt (M.2 o27 1) fun r35 => f_Layout_paintedAt_101 M o22 a2 a3 n K26 x24 r35) else (q_lt (M.2 o22 4) fun r36 => q_nn r36 fun o37 => q_ix (0 : Int32) 7 <| q_lt (M.1 (o37 + 3) (0 : Int32).toNatClampNeg) fun x39 => q_lt (M.2 o27 1) fun r40 => f_Layout_paintedAt_101 M o22 a2 a3 n K26 x39 r40))))
def f_Layout_paintedAt_76 (M : qM) (a2 : Int32) (a3 : Int32) : Nat → (Int32 → Option Int32) → Int32 → Int32 → Option Int32
  | 0, _, _, _ => none
  | n + 1, K18, x16, x17 => if (M.1 1 5) ≤ x17 then (K18 x16) else (q_ix x17 24 <| q_lt (M.2 3 x17.toNatClampNeg) fun r21 => q_nn r21 fun o22 => q_lt (M.2 o22 9) fun r23 => f_Layout_paintedAt_101 M o22 a2 a3 1000 (fun (x43 : Int32) => f_Layout_paintedAt_76 M a2 a3 n K18 x43 (x17 + 1)) x16 r23)
def f_Layout_paintedAt (a2 : Int32) (a3 : Int32) (M : qM) : Option Int32 := f_Layout_paintedAt_6 M a2 a3 1000 (fun (x15 : Int32) => f_Layout_paintedAt_76 M a2 a3 1000 (fun (x44 : Int32) => some x44) x15 0) 0 0
abbrev rm_Layout_paintedAt : Room := { frames := 1, cells := 0, slots := 0, locals := 26 }
set_option maxRecDepth 100000 in
set_option maxHeartbeats 4000000 in
theorem c_Layout_paintedAt {l : Launch} {D : va_G} {dA : Nat → ClassId} {b : Nat} {adK adV : Nat → Nat} (a2 : Int32) (a3 : Int32)  (M : qM) (out : Int32) (hf : f_Layout_paintedAt a2 a3 M = some out) : CTi l y_Layout_paintedAt w_Layout_paintedAt rm_Layout_paintedAt D (tysX dA) (enX dA b) 367 b (qX adK adV 367 b) [qr (some 364), qr (some 1), qi a2, qi a3] M (out, M) := by
  refine qm_i (cc := prog_4_method_8_code) (nL := 8) (by decide) rfl (Nat.le_of_ble_eq_true rfl) ?_
  intro p e s m args below meth c Q hx hb hts0 hown hml hK hs hret
  have hts : ∀ w ∈ lw_g, w.before args s = true := fun w h => hts0 w (List.mem_cons_of_mem _ h)
  show QJ p l e rm_Layout_paintedAt s m args below meth c (qA 367 b) b 8 0 0 Q (qWd D (enX dA b) 367 b) M 0 [(0, qr (some 364)), (1, qr (some 1)), (2, qi a2), (3, qi a3)] []
  unfold f_Layout_paintedAt at hf
  refine qj_iconst (v := 0) hx hb d_Layout_paintedAt_0 (by decide) ?_
  refine qj_istore hx hb d_Layout_paintedAt_1 (by decide) rfl ?_
  refine qj_iconst (v := 0) hx hb d_Layout_paintedAt_3 (by decide) ?_
  refine qj_istore hx hb d_Layout_paintedAt_4 (by decide) rfl ?_
  have hL6 : ∀ (n : Nat) (K3 : Int32 → Option Int32), (∀ (x15 : Int32), K3 x15 = some out → QJ p l e rm_Layout_paintedAt s m args below meth c (qA 367 b) b 8 0 0 Q (qWd D (enX dA b) 367 b) M 73 [(1, qr (some 1)), (2, qi a2), (3, qi a3), (4, qi x15)] []) → ∀ (x1 : Int32) (x2 : Int32), f_Layout_paintedAt_6 M a2 a3 n K3 x1 x2 = some out → QJ p l e rm_Layout_paintedAt s m args below meth c (qA 367 b) b 8 0 0 Q (qWd D (enX dA b) 367 b) M 6 [(1, qr (some 1)), (2, qi a2), (3, qi a3), (4, qi x1), (5, qi x2)] [] := by
    clear hf
    intro n
    induction n with
    | zero =>
      intro K3 hK3 x1 x2 hf
      exact absurd hf (by simp [f_Layout_paintedAt_6])
    | succ n ih6 =>
      intro K3 hK3 x1 x2 hf
      rw [f_Layout_paintedAt_6] at hf
      have ih6 := ih6 K3 hK3
      refine qj_iload hx hb d_Layout_paintedAt_6 4 rfl ?_
      refine qj_aload_n hx hb d_Layout_paintedAt_8 rfl 0 rfl ?_
      refine qj_get hx hb hts hin_5 hown hK (q_in (rfl : tcX 1 = 1) (by decide)) (en_1 (rfl : tcX 1 = 1)) rfl 5 (by decide) (hts _ tw_426) (fun _ h => h) (qi (M.1 1 5)) rfl d_Layout_paintedAt_9 ?_
      refine qj_icmp_ge (tgt := 73) hx hb d_Layout_paintedAt_12 (by decide) (fun hc4 => ?_) (fun hc4 => ?_)
      · replace hf := q_if_t hc4 hf
        refine qj_sub [0, 1, 2, 3] rfl ?_
        exact hK3 x1 hf
      · replace hf := q_if_f hc4 hf
        refine qj_aload_n hx hb d_Layout_paintedAt_15 rfl 0 rfl ?_
        refine qj_get hx hb hts hin_5 hown hK (q_in (rfl : tcX 1 = 1) (by decide)) (en_1 (rfl : tcX 1 = 1)) rfl 1 (by decide) (hts _ tw_427) (fun _ h => h) (qr (some 3)) rfl d_Layout_paintedAt_16 ?_
        refine qj_iload hx hb d_Layout_paintedAt_19 4 rfl ?_
        have hf9 := q_ix_s hf; clear hf; obtain ⟨hi5, hf⟩ := hf9
        have hf9 := q_lt_s hf; clear hf; obtain ⟨r6, er6, hf⟩ := hf9
        refine qj_w fun w => ?_
        have tr6 : ∀ o, r6 = some o → tcX o = 7 := fun o h => (w _ _ o (er6.symm.trans h)).trans (by rw [(rfl : tcX 3 = 3)] <;> rfl)
        refine qj_aald (t0 := 3) (f := M.2 3) hx hb hK (q_in (rfl : tcX 3 = 3) (by decide)) (en_3 (rfl : tcX 3 = 3) _ _) rfl hi5 d_Layout_paintedAt_21 ?_
        rw [← er6]
        refine qj_astore hx hb d_Layout_paintedAt_22 (by decide) rfl ?_
        refine qj_aload hx hb d_Layout_paintedAt_24 0 rfl ?_
        have hf9 := q_nn_s hf; clear hf; obtain ⟨o7, rfl, hf⟩ := hf9
        refine qj_get hx hb hts hin_3 hown hK (q_in (tr6 _ rfl) (by decide)) (en_7 (tr6 _ rfl)) rfl 13 (by decide) (hts _ tw_428) (fun _ h => h) (qr (some (o7 + 4))) rfl d_Layout_paintedAt_26 ?_
        refine qj_get hx hb hts hin_0 hown hK (q_in (tc_7_4 (tr6 _ rfl)) (by decide)) (en_11 (tc_7_4 (tr6 _ rfl))) rfl 0 (by decide) (hts _ tw_429) (fun _ h => h) (qi (M.1 (o7 + 4) 0)) rfl d_Layout_paintedAt_29 ?_
        refine qj_if_eq (tgt := 67) hx hb d_Layout_paintedAt_32 (by decide) (fun hc8 => ?_) (fun hc8 => ?_)
        · replace hf := q_if_t hc8 hf
          refine qj_iinc (j := 5) (v := x2 + 1) hx hb d_Layout_paintedAt_67 rfl rfl (by decide) rfl ?_
          refine qj_goto (tgt := 6) hx hb d_Layout_paintedAt_70 (by decide) ?_
          refine qj_sub [2, 3, 4, 5, 0] rfl ?_
          exact ih6 x1 (x2 + 1) hf
        · replace hf := q_if_f hc8 hf
          refine qj_aload hx hb d_Layout_paintedAt_35 0 rfl ?_
          refine qj_get hx hb hts hin_3 hown hK (q_in (tr6 _ rfl) (by decide)) (en_7 (tr6 _ rfl)) rfl 12 (by decide) (hts _ tw_367) (fun _ h => h) (qr (some (o7 + 3))) rfl d_Layout_paintedAt_37 ?_
          refine qj_iconst (v := 1) hx hb d_Layout_paintedAt_40 (by decide) ?_
          have hf9 := q_ix_s hf; clear hf; obtain ⟨hi9, hf⟩ := hf9
          refine qj_iald (t0 := 0) hx hb hK (q_in (tc_7_3 (tr6 _ rfl)) (by decide)) (en_10 (tc_7_3 (tr6 _ rfl))) rfl hi9 d_Layout_paintedAt_41 ?_
          refine qj_if_eq (tgt := 67) hx hb d_Layout_paintedAt_42 (by decide) (fun hc10 => ?_) (fun hc10 => ?_)
          · replace hf := q_if_t hc10 hf
            refine qj_iinc (j := 5) (v := x2 + 1) hx hb d_Layout_paintedAt_67 rfl rfl (by decide) rfl ?_
            refine qj_goto (tgt := 6) hx hb d_Layout_paintedAt_70 (by decide) ?_
            refine qj_sub [2, 3, 4, 5, 0] rfl ?_
            exact ih6 x1 (x2 + 1) hf
          · replace hf := q_if_f hc10 hf
            refine qj_aload hx hb d_Layout_paintedAt_45 0 rfl ?_
            refine qj_get hx hb hts hin_3 hown hK (q_in (tr6 _ rfl) (by decide)) (en_7 (tr6 _ rfl)) rfl 13 (by decide) (hts _ tw_428) (fun _ h => h) (qr (some (o7 + 4))) rfl d_Layout_paintedAt_47 ?_
            refine qj_iload_n hx hb d_Layout_paintedAt_50 rfl 2 rfl ?_
            refine qj_iload_n hx hb d_Layout_paintedAt_51 rfl 3 rfl ?_
            have hf9 := q_bp_s hf; clear hf; obtain ⟨x11, hx11, hf⟩ := hf9
            refine qc_Si (st := []) hx hb hml hown hts hK (qX_ok _ _ _ _) hs (c_Layout_covers (o7 + 4) a2 a3 (tc_7_4 (tr6 _ rfl)) M _ hx11) ⟨(callB_of 3 hts (q_good tw_431) rfl rfl rfl (hts _ tw_430) (hts _ tw_432) (by decide +kernel) ⟨by decide, by decide⟩), (hts _ tw_433)⟩ rfl rfl (Nat.le_of_ble_eq_true rfl) d_Layout_paintedAt_52 ?_
            refine qj_if_eq (tgt := 67) hx hb d_Layout_paintedAt_55 (by decide) (fun hc12 => ?_) (fun hc12 => ?_)
            · replace hf := q_if_t hc12 hf
              refine qj_iinc (j := 5) (v := x2 + 1) hx hb d_Layout_paintedAt_67 rfl rfl (by decide) rfl ?_
              refine qj_goto (tgt := 6) hx hb d_Layout_paintedAt_70 (by decide) ?_
              refine qj_sub [2, 3, 4, 5, 0] rfl ?_
              exact ih6 x1 (x2 + 1) hf
            · replace hf := q_if_f hc12 hf
              refine qj_aload hx hb d_Layout_paintedAt_58 0 rfl ?_
              refine qj_get hx hb hts hin_3 hown hK (q_in (tr6 _ rfl) (by decide)) (en_7 (tr6 _ rfl)) rfl 12 (by decide) (hts _ tw_367) (fun _ h => h) (qr (some (o7 + 3))) rfl d_Layout_paintedAt_60 ?_
              refine qj_iconst (v := 1) hx hb d_Layout_paintedAt_63 (by decide) ?_
              have hf9 := q_ix_s hf; clear hf; obtain ⟨hi13, hf⟩ := hf9
              refine qj_iald (t0 := 0) hx hb hK (q_in (tc_7_3 (tr6 _ rfl)) (by decide)) (en_10 (tc_7_3 (tr6 _ rfl))) rfl hi13 d_Layout_paintedAt_64 ?_
              have hf9 := q_lt_s hf; clear hf; obtain ⟨x14, ex14, hf⟩ := hf9
              rw [← ex14]
              refine qj_istore hx hb d_Layout_paintedAt_65 (by decide) rfl ?_
              refine qj_iinc (j := 5) (v := x2 + 1) hx hb d_Layout_paintedAt_67 rfl rfl (by decide) rfl ?_
              refine qj_goto (tgt := 6) hx hb d_Layout_paintedAt_70 (by decide) ?_
              refine qj_sub [3, 4, 5, 1, 0] rfl ?_
              exact ih6 x14 (x2 + 1) hf
  refine qj_sub [3, 4, 5, 1, 0] rfl ?_
  refine hL6 _ _ (fun x15 hf9 => ?_) 0 0 hf
  clear hf; have hf := hf9; clear hf9
  refine qj_iconst (v := 0) hx hb d_Layout_paintedAt_73 (by decide) ?_
  refine qj_istore hx hb d_Layout_paintedAt_74 (by decide) rfl ?_
  have hL76 : ∀ (n : Nat) (K18 : Int32 → Option Int32), (∀ (x44 : Int32), K18 x44 = some out → QJ p l e rm_Layout_paintedAt s m args below meth c (qA 367 b) b 8 0 0 Q (qWd D (enX dA b) 367 b) M 160 [(4, qi x44)] []) → ∀ (x16 : Int32) (x17 : Int32), f_Layout_paintedAt_76 M a2 a3 n K18 x16 x17 = some out → QJ p l e rm_Layout_paintedAt s m args below meth c (qA 367 b) b 8 0 0 Q (qWd D (enX dA b) 367 b) M 76 [(1, qr (some 1)), (2, qi a2), (3, qi a3), (4, qi x16), (5, qi x17)] [] := by
    clear hf
    intro n
    induction n with
    | zero =>
      intro K18 hK18 x16 x17 hf
      exact absurd hf (by simp [f_Layout_paintedAt_76])
    | succ n ih76 =>
      intro K18 hK18 x16 x17 hf
      rw [f_Layout_paintedAt_76] at hf
      have ih76 := ih76 K18 hK18
      refine qj_iload hx hb d_Layout_paintedAt_76 4 rfl ?_
      refine qj_aload_n hx hb d_Layout_paintedAt_78 rfl 0 rfl ?_
      refine qj_get hx hb hts hin_5 hown hK (q_in (rfl : tcX 1 = 1) (by decide)) (en_1 (rfl : tcX 1 = 1)) rfl 5 (by decide) (hts _ tw_426) (fun _ h => h) (qi (M.1 1 5)) rfl d_Layout_paintedAt_79 ?_
      refine qj_icmp_ge (tgt := 160) hx hb d_Layout_paintedAt_82 (by decide) (fun hc19 => ?_) (fun hc19 => ?_)
      · replace hf := q_if_t hc19 hf
        refine qj_sub [3] rfl ?_
        exact hK18 x16 hf
      · replace hf := q_if_f hc19 hf
        refine qj_aload_n hx hb d_Layout_paintedAt_85 rfl 0 rfl ?_
        refine qj_get hx hb hts hin_5 hown hK (q_in (rfl : tcX 1 = 1) (by decide)) (en_1 (rfl : tcX 1 = 1)) rfl 1 (by decide) (hts _ tw_427) (fun _ h => h) (qr (some 3)) rfl d_Layout_paintedAt_86 ?_
        refine qj_iload hx hb d_Layout_paintedAt_89 4 rfl ?_
        have hf9 := q_ix_s hf; clear hf; obtain ⟨hi20, hf⟩ := hf9
        have hf9 := q_lt_s hf; clear hf; obtain ⟨r21, er21, hf⟩ := hf9
        refine qj_w fun w => ?_
        have tr21 : ∀ o, r21 = some o → tcX o = 7 := fun o h => (w _ _ o (er21.symm.trans h)).trans (by rw [(rfl : tcX 3 = 3)] <;> rfl)
        refine qj_aald (t0 := 3) (f := M.2 3) hx hb hK (q_in (rfl : tcX 3 = 3) (by decide)) (en_3 (rfl : tcX 3 = 3) _ _) rfl hi20 d_Layout_paintedAt_91 ?_
        rw [← er21]
        refine qj_astore hx hb d_Layout_paintedAt_92 (by decide) rfl ?_
        refine qj_aload hx hb d_Layout_paintedAt_94 0 rfl ?_
        have hf9 := q_nn_s hf; clear hf; obtain ⟨o22, rfl, hf⟩ := hf9
        have hf9 := q_lt_s hf; clear hf; obtain ⟨r23, er23, hf⟩ := hf9
        refine qj_w fun w => ?_
        have tr23 : ∀ o, r23 = some o → tcX o = 12 := fun o h => (w _ _ o (er23.symm.trans h)).trans (by rw [(tr21 _ rfl)] <;> rfl)
        refine qj_get hx hb hts hin_3 hown hK (q_in (tr21 _ rfl) (by decide)) (en_7 (tr21 _ rfl)) rfl 9 (by decide) (hts _ tw_434) (fun _ h => h) (qr r23) (by rw [er23]; rfl) d_Layout_paintedAt_96 ?_
        refine qj_astore hx hb d_Layout_paintedAt_99 (by decide) rfl ?_
        have hL101 : ∀ (n : Nat) (K26 : Int32 → Option Int32), (∀ (x43 : Int32), K26 x43 = some out → QJ p l e rm_Layout_paintedAt s m args below meth c (qA 367 b) b 8 0 0 Q (qWd D (enX dA b) 367 b) M 154 [(1, qr (some 1)), (2, qi a2), (3, qi a3), (4, qi x43), (5, qi x17)] []) → ∀ (x24 : Int32) (r25 : Option Nat), (∀ o, r25 = some o → tcX o = 12) → f_Layout_paintedAt_101 M o22 a2 a3 n K26 x24 r25 = some out → QJ p l e rm_Layout_paintedAt s m args below meth c (qA 367 b) b 8 0 0 Q (qWd D (enX dA b) 367 b) M 101 [(1, qr (some 1)), (2, qi a2), (3, qi a3), (4, qi x24), (5, qi x17), (6, qr (some o22)), (7, qr r25)] [] := by
          clear hf
          intro n
          induction n with
          | zero =>
            intro K26 hK26 x24 r25 tr25 hf
            exact absurd hf (by simp [f_Layout_paintedAt_101])
          | succ n ih101 =>
            intro K26 hK26 x24 r25 tr25 hf
            rw [f_Layout_paintedAt_101] at hf
            have ih101 := ih101 K26 hK26
            refine qj_aload hx hb d_Layout_paintedAt_101 6 rfl ?_
            refine qj_ifnull (tgt := 154) hx hb d_Layout_paintedAt_103 (by decide) (fun hn42 => ?_) (fun o27 hn42 => ?_)
            · subst hn42
              replace hf := q_on_n hf
              refine qj_sub [0, 1, 2, 3, 4] rfl ?_
              exact hK26 x24 hf
            · subst hn42
              replace hf := q_on_s hf
              refine qj_aload hx hb d_Layout_paintedAt_106 6 rfl ?_
              refine qj_get hx hb hts hin_2 hown hK (q_in (tr25 _ rfl) (by decide)) (en_12 (tr25 _ rfl)) rfl 2 (by decide) (hts _ tw_435) (fun _ h => h) (qi (M.1 o27 2)) rfl d_Layout_paintedAt_108 ?_
              refine qj_if_eq (tgt := 144) hx hb d_Layout_paintedAt_111 (by decide) (fun hc28 => ?_) (fun hc28 => ?_)
              · replace hf := q_if_t hc28 hf
                refine qj_aload hx hb d_Layout_paintedAt_144 6 rfl ?_
                have hf9 := q_lt_s hf; clear hf; obtain ⟨r29, er29, hf⟩ := hf9
                refine qj_w fun w => ?_
                have tr29 : ∀ o, r29 = some o → tcX o = 12 := fun o h => (w _ _ o (er29.symm.trans h)).trans (by rw [(tr25 _ rfl)] <;> rfl)
                refine qj_get hx hb hts hin_2 hown hK (q_in (tr25 _ rfl) (by decide)) (en_12 (tr25 _ rfl)) rfl 1 (by decide) (hts _ tw_436) (fun _ h => h) (qr r29) (by rw [er29]; rfl) d_Layout_paintedAt_146 ?_
                refine qj_astore hx hb d_Layout_paintedAt_149 (by decide) rfl ?_
                refine qj_goto (tgt := 101) hx hb d_Layout_paintedAt_151 (by decide) ?_
                refine qj_sub [1, 2, 3, 4, 5, 6, 0] rfl ?_
                exact ih101 x24 r29 tr29 hf
              · replace hf := q_if_f hc28 hf
                refine qj_aload hx hb d_Layout_paintedAt_114 5 rfl ?_
                have hf9 := q_lt_s hf; clear hf; obtain ⟨r30, er30, hf⟩ := hf9
                refine qj_w fun w => ?_
                have tr30 : ∀ o, r30 = some o → tcX o = 7 := fun o h => (w _ _ o (er30.symm.trans h)).trans (by rw [(tr21 _ rfl)] <;> rfl)
                refine qj_get hx hb hts hin_3 hown hK (q_in (tr21 _ rfl) (by decide)) (en_7 (tr21 _ rfl)) rfl 4 (by decide) (hts _ tw_437) (fun _ h => h) (qr r30) (by rw [er30]; rfl) d_Layout_paintedAt_116 ?_
                refine qj_ifnull (tgt := 144) hx hb d_Layout_paintedAt_119 (by decide) (fun hn41 => ?_) (fun o31 hn41 => ?_)
                · subst hn41
                  replace hf := q_on_n hf
                  refine qj_aload hx hb d_Layout_paintedAt_144 6 rfl ?_
                  have hf9 := q_lt_s hf; clear hf; obtain ⟨r32, er32, hf⟩ := hf9
                  refine qj_w fun w => ?_
                  have tr32 : ∀ o, r32 = some o → tcX o = 12 := fun o h => (w _ _ o (er32.symm.trans h)).trans (by rw [(tr25 _ rfl)] <;> rfl)
                  refine qj_get hx hb hts hin_2 hown hK (q_in (tr25 _ rfl) (by decide)) (en_12 (tr25 _ rfl)) rfl 1 (by decide) (hts _ tw_436) (fun _ h => h) (qr r32) (by rw [er32]; rfl) d_Layout_paintedAt_146 ?_
                  refine qj_astore hx hb d_Layout_paintedAt_149 (by decide) rfl ?_
                  refine qj_goto (tgt := 101) hx hb d_Layout_paintedAt_151 (by decide) ?_
                  refine qj_sub [1, 2, 3, 4, 5, 6, 0] rfl ?_
                  exact ih101 x24 r32 tr32 hf
                · subst hn41
                  replace hf := q_on_s hf
                  refine qj_aload hx hb d_Layout_paintedAt_122 6 rfl ?_
                  refine qj_iload_n hx hb d_Layout_paintedAt_124 rfl 1 rfl ?_
                  refine qj_iload_n hx hb d_Layout_paintedAt_125 rfl 2 rfl ?_
                  have hf9 := q_bp_s hf; clear hf; obtain ⟨x33, hx33, hf⟩ := hf9
                  refine qc_Si (st := []) hx hb hml hown hts hK (qX_ok _ _ _ _) hs (c_Layout_marks o27 a2 a3 (tr25 _ rfl) M _ hx33) ⟨(callB_of 3 hts (q_good tw_438) rfl rfl rfl (hts _ tw_430) (hts _ tw_439) (by decide +kernel) ⟨by decide, by decide⟩), (hts _ tw_440)⟩ rfl rfl (Nat.le_of_ble_eq_true rfl) d_Layout_paintedAt_126 ?_
                  refine qj_if_eq (tgt := 144) hx hb d_Layout_paintedAt_129 (by decide) (fun hc34 => ?_) (fun hc34 => ?_)
                  · replace hf := q_if_t hc34 hf
                    refine qj_aload hx hb d_Layout_paintedAt_144 6 rfl ?_
                    have hf9 := q_lt_s hf; clear hf; obtain ⟨r35, er35, hf⟩ := hf9
                    refine qj_w fun w => ?_
                    have tr35 : ∀ o, r35 = some o → tcX o = 12 := fun o h => (w _ _ o (er35.symm.trans h)).trans (by rw [(tr25 _ rfl)] <;> rfl)
                    refine qj_get hx hb hts hin_2 hown hK (q_in (tr25 _ rfl) (by decide)) (en_12 (tr25 _ rfl)) rfl 1 (by decide) (hts _ tw_436) (fun _ h => h) (qr r35) (by rw [er35]; rfl) d_Layout_paintedAt_146 ?_
                    refine qj_astore hx hb d_Layout_paintedAt_149 (by decide) rfl ?_
                    refine qj_goto (tgt := 101) hx hb d_Layout_paintedAt_151 (by decide) ?_
                    refine qj_sub [1, 2, 3, 4, 5, 6, 0] rfl ?_
                    exact ih101 x24 r35 tr35 hf
                  · replace hf := q_if_f hc34 hf
                    refine qj_aload hx hb d_Layout_paintedAt_132 5 rfl ?_
                    have hf9 := q_lt_s hf; clear hf; obtain ⟨r36, er36, hf⟩ := hf9
                    refine qj_w fun w => ?_
                    have tr36 : ∀ o, r36 = some o → tcX o = 7 := fun o h => (w _ _ o (er36.symm.trans h)).trans (by rw [(tr21 _ rfl)] <;> rfl)
                    refine qj_get hx hb hts hin_3 hown hK (q_in (tr21 _ rfl) (by decide)) (en_7 (tr21 _ rfl)) rfl 4 (by decide) (hts _ tw_437) (fun _ h => h) (qr r36) (by rw [er36]; rfl) d_Layout_paintedAt_134 ?_
                    have hf9 := q_nn_s hf; clear hf; obtain ⟨o37, rfl, hf⟩ := hf9
                    refine qj_get hx hb hts hin_3 hown hK (q_in (tr36 _ rfl) (by decide)) (en_7 (tr36 _ rfl)) rfl 12 (by decide) (hts _ tw_367) (fun _ h => h) (qr (some (o37 + 3))) rfl d_Layout_paintedAt_137 ?_
                    refine qj_iconst (v := 0) hx hb d_Layout_paintedAt_140 (by decide) ?_
                    have hf9 := q_ix_s hf; clear hf; obtain ⟨hi38, hf⟩ := hf9
                    refine qj_iald (t0 := 0) hx hb hK (q_in (tc_7_3 (tr36 _ rfl)) (by decide)) (en_10 (tc_7_3 (tr36 _ rfl))) rfl hi38 d_Layout_paintedAt_141 ?_
                    have hf9 := q_lt_s hf; clear hf; obtain ⟨x39, ex39, hf⟩ := hf9
                    rw [← ex39]
                    refine qj_istore hx hb d_Layout_paintedAt_142 (by decide) rfl ?_
                    refine qj_aload hx hb d_Layout_paintedAt_144 6 rfl ?_
                    have hf9 := q_lt_s hf; clear hf; obtain ⟨r40, er40, hf⟩ := hf9
                    refine qj_w fun w => ?_
                    have tr40 : ∀ o, r40 = some o → tcX o = 12 := fun o h => (w _ _ o (er40.symm.trans h)).trans (by rw [(tr25 _ rfl)] <;> rfl)
                    refine qj_get hx hb hts hin_2 hown hK (q_in (tr25 _ rfl) (by decide)) (en_12 (tr25 _ rfl)) rfl 1 (by decide) (hts _ tw_436) (fun _ h => h) (qr r40) (by rw [er40]; rfl) d_Layout_paintedAt_146 ?_
                    refine qj_astore hx hb d_Layout_paintedAt_149 (by decide) rfl ?_
                    refine qj_goto (tgt := 101) hx hb d_Layout_paintedAt_151 (by decide) ?_
                    refine qj_sub [2, 3, 4, 1, 5, 6, 0] rfl ?_
                    exact ih101 x39 r40 tr40 hf
        refine qj_sub [2, 3, 4, 5, 6, 1, 0] rfl ?_
        refine hL101 _ _ (fun x43 hf9 => ?_) x16 r23 tr23 hf
        clear hf; have hf := hf9; clear hf9
        refine qj_iinc (j := 4) (v := x17 + 1) hx hb d_Layout_paintedAt_154 rfl rfl (by decide) rfl ?_
        refine qj_goto (tgt := 76) hx hb d_Layout_paintedAt_157 (by decide) ?_
        refine qj_sub [1, 2, 3, 4, 0] rfl ?_
        exact ih76 x43 (x17 + 1) hf
  refine qj_sub [1, 2, 3, 4, 0] rfl ?_
  refine hL76 _ _ (fun x44 hf9 => ?_) x15 0 hf
  clear hf; have hf := hf9; clear hf9
  refine qj_iload hx hb d_Layout_paintedAt_160 0 rfl ?_
  exact hret _ _ _ _ d_Layout_paintedAt_162 (congrArg (fun z => (z, M)) (Option.some.inj hf))
theorem d_Pg_pixel_0 : decode prog_1_method_17_code 0 = .ok (.aload_n 0, 1) := by decide +kernel
theorem d_Pg_pixel_1 : decode prog_1_method_17_code 1 = .ok (.getfield 133, 3) := by decide +kernel
theorem d_Pg_pixel_4 : decode prog_1_method_17_code 4 = .ok (.ifCond .eq 28, 3) := by decide +kernel
theorem d_Pg_pixel_7 : decode prog_1_method_17_code 7 = .ok (.iload_n 1, 1) := by decide +kernel
theorem d_Pg_pixel_8 : decode prog_1_method_17_code 8 = .ok (.ifCond .lt 24, 3) := by decide +kernel
theorem d_Pg_pixel_11 : decode prog_1_method_17_code 11 = .ok (.iload_n 1, 1) := by decide +kernel
theorem d_Pg_pixel_12 : decode prog_1_method_17_code 12 = .ok (.aload_n 0, 1) := by decide +kernel
theorem d_Pg_pixel_13 : decode prog_1_method_17_code 13 = .ok (.getfield 33, 3) := by decide +kernel
theorem d_Pg_pixel_16 : decode prog_1_method_17_code 16 = .ok (.getfield 175, 3) := by decide +kernel
theorem d_Pg_pixel_19 : decode prog_1_method_17_code 19 = .ok (.if_icmp .ge 13, 3) := by decide +kernel
theorem d_Pg_pixel_22 : decode prog_1_method_17_code 22 = .ok (.iload_n 2, 1) := by decide +kernel
theorem d_Pg_pixel_23 : decode prog_1_method_17_code 23 = .ok (.ifCond .lt 9, 3) := by decide +kernel
theorem d_Pg_pixel_26 : decode prog_1_method_17_code 26 = .ok (.iload_n 2, 1) := by decide +kernel
theorem d_Pg_pixel_27 : decode prog_1_method_17_code 27 = .ok (.bipush 64, 2) := by decide +kernel
theorem d_Pg_pixel_29 : decode prog_1_method_17_code 29 = .ok (.if_icmp .lt 5, 3) := by decide +kernel
theorem d_Pg_pixel_32 : decode prog_1_method_17_code 32 = .ok (.iconst (-1), 1) := by decide +kernel
theorem d_Pg_pixel_33 : decode prog_1_method_17_code 33 = .ok (.ireturn, 1) := by decide +kernel
theorem d_Pg_pixel_34 : decode prog_1_method_17_code 34 = .ok (.aload_n 0, 1) := by decide +kernel
theorem d_Pg_pixel_35 : decode prog_1_method_17_code 35 = .ok (.getfield 33, 3) := by decide +kernel
theorem d_Pg_pixel_38 : decode prog_1_method_17_code 38 = .ok (.aload_n 0, 1) := by decide +kernel
theorem d_Pg_pixel_39 : decode prog_1_method_17_code 39 = .ok (.getfield 10, 3) := by decide +kernel
theorem d_Pg_pixel_42 : decode prog_1_method_17_code 42 = .ok (.iload_n 1, 1) := by decide +kernel
theorem d_Pg_pixel_43 : decode prog_1_method_17_code 43 = .ok (.iload_n 2, 1) := by decide +kernel
theorem d_Pg_pixel_44 : decode prog_1_method_17_code 44 = .ok (.invokevirtual 176, 3) := by decide +kernel
theorem d_Pg_pixel_47 : decode prog_1_method_17_code 47 = .ok (.ireturn, 1) := by decide +kernel
def f_Pg_pixel (a1 : Int32) (a2 : Int32) (M : qM) : Option Int32 := if (M.1 0 7) = 0 then (some (-1)) else (if a1 < 0 then (some (-1)) else (if (M.1 364 1) ≤ a1 then (some (-1)) else (if a2 < 0 then (some (-1)) else (if a2 < 64 then (q_bp (f_Layout_paintedAt a1 a2 M) fun x6 => some x6) else (some (-1))))))
abbrev rm_Pg_pixel : Room := { frames := 2, cells := 0, slots := 0, locals := 53 }
set_option maxRecDepth 100000 in
set_option maxHeartbeats 4000000 in
theorem c_Pg_pixel {l : Launch} {D : va_G} {dA : Nat → ClassId} {b : Nat} {adK adV : Nat → Nat} (a1 : Int32) (a2 : Int32)  (M : qM) (out : Int32) (hf : f_Pg_pixel a1 a2 M = some out) : CTi l y_Pg_pixel w_Pg_pixel rm_Pg_pixel D (tysX dA) (enX dA b) 367 b (qX adK adV 367 b) [qr (some 0), qi a1, qi a2] M (out, M) := by
  refine qm_i (cc := prog_1_method_17_code) (nL := 3) (by decide) rfl (Nat.le_of_ble_eq_true rfl) ?_
  intro p e s m args below meth c Q hx hb hts0 hown hml hK hs hret
  have hts : ∀ w ∈ lw_g, w.before args s = true := fun w h => hts0 w (List.mem_cons_of_mem _ h)
  show QJ p l e rm_Pg_pixel s m args below meth c (qA 367 b) b 3 0 0 Q (qWd D (enX dA b) 367 b) M 0 [(0, qr (some 0)), (1, qi a1), (2, qi a2)] []
  unfold f_Pg_pixel at hf
  refine qj_aload_n hx hb d_Pg_pixel_0 rfl 0 rfl ?_
  refine qj_get hx hb hts hin_11 hown hK (q_in (rfl : tcX 0 = 0) (by decide)) (en_0 (rfl : tcX 0 = 0)) rfl 7 (by decide) (hts _ tw_0) (fun _ h => h) (qi (M.1 0 7)) rfl d_Pg_pixel_1 ?_
  refine qj_if_eq (tgt := 32) hx hb d_Pg_pixel_4 (by decide) (fun hc1 => ?_) (fun hc1 => ?_)
  · replace hf := q_if_t hc1 hf
    refine qj_iconst (v := (-1)) hx hb d_Pg_pixel_32 (by decide) ?_
    exact hret _ _ _ _ d_Pg_pixel_33 (congrArg (fun z => (z, M)) (Option.some.inj hf))
  · replace hf := q_if_f hc1 hf
    refine qj_iload_n hx hb d_Pg_pixel_7 rfl 1 rfl ?_
    refine qj_if_lt (tgt := 32) hx hb d_Pg_pixel_8 (by decide) (fun hc2 => ?_) (fun hc2 => ?_)
    · replace hf := q_if_t hc2 hf
      refine qj_iconst (v := (-1)) hx hb d_Pg_pixel_32 (by decide) ?_
      exact hret _ _ _ _ d_Pg_pixel_33 (congrArg (fun z => (z, M)) (Option.some.inj hf))
    · replace hf := q_if_f hc2 hf
      refine qj_iload_n hx hb d_Pg_pixel_11 rfl 1 rfl ?_
      refine qj_aload_n hx hb d_Pg_pixel_12 rfl 0 rfl ?_
      refine qj_get hx hb hts hin_11 hown hK (q_in (rfl : tcX 0 = 0) (by decide)) (en_0 (rfl : tcX 0 = 0)) rfl 3 (by decide) (hts _ tw_415) (fun _ h => h) (qr (some 364)) rfl d_Pg_pixel_13 ?_
      refine qj_get hx hb hts hin_10 hown hK (q_in (rfl : tcX 364 = 24) (by decide)) (en_24 (rfl : tcX 364 = 24)) rfl 1 (by decide) (hts _ tw_441) (fun _ h => h) (qi (M.1 364 1)) rfl d_Pg_pixel_16 ?_
      refine qj_icmp_ge (tgt := 32) hx hb d_Pg_pixel_19 (by decide) (fun hc3 => ?_) (fun hc3 => ?_)
      · replace hf := q_if_t hc3 hf
        refine qj_iconst (v := (-1)) hx hb d_Pg_pixel_32 (by decide) ?_
        exact hret _ _ _ _ d_Pg_pixel_33 (congrArg (fun z => (z, M)) (Option.some.inj hf))
      · replace hf := q_if_f hc3 hf
        refine qj_iload_n hx hb d_Pg_pixel_22 rfl 2 rfl ?_
        refine qj_if_lt (tgt := 32) hx hb d_Pg_pixel_23 (by decide) (fun hc4 => ?_) (fun hc4 => ?_)
        · replace hf := q_if_t hc4 hf
          refine qj_iconst (v := (-1)) hx hb d_Pg_pixel_32 (by decide) ?_
          exact hret _ _ _ _ d_Pg_pixel_33 (congrArg (fun z => (z, M)) (Option.some.inj hf))
        · replace hf := q_if_f hc4 hf
          refine qj_iload_n hx hb d_Pg_pixel_26 rfl 2 rfl ?_
          refine qj_bipush (v := 64) hx hb d_Pg_pixel_27 (by decide) ?_
          refine qj_icmp_lt (tgt := 34) hx hb d_Pg_pixel_29 (by decide) (fun hc5 => ?_) (fun hc5 => ?_)
          · replace hf := q_if_t hc5 hf
            refine qj_aload_n hx hb d_Pg_pixel_34 rfl 0 rfl ?_
            refine qj_get hx hb hts hin_11 hown hK (q_in (rfl : tcX 0 = 0) (by decide)) (en_0 (rfl : tcX 0 = 0)) rfl 3 (by decide) (hts _ tw_415) (fun _ h => h) (qr (some 364)) rfl d_Pg_pixel_35 ?_
            refine qj_aload_n hx hb d_Pg_pixel_38 rfl 0 rfl ?_
            refine qj_get hx hb hts hin_11 hown hK (q_in (rfl : tcX 0 = 0) (by decide)) (en_0 (rfl : tcX 0 = 0)) rfl 0 (by decide) (hts _ tw_240) (fun _ h => h) (qr (some 1)) rfl d_Pg_pixel_39 ?_
            refine qj_iload_n hx hb d_Pg_pixel_42 rfl 1 rfl ?_
            refine qj_iload_n hx hb d_Pg_pixel_43 rfl 2 rfl ?_
            have hf9 := q_bp_s hf; clear hf; obtain ⟨x6, hx6, hf⟩ := hf9
            refine qc_Vi (st := []) hx hb hml hown hts hK (qX_ok _ _ _ _) hs (c_Layout_paintedAt a1 a2 M _ hx6) ⟨(callB_of 3 hts (q_good tw_442) rfl rfl rfl (hts _ tw_430) (hts _ tw_443) (by decide +kernel) ⟨by decide, by decide⟩), (hts _ tw_444), (hts _ tw_445)⟩ (q_in (rfl : tcX 364 = 24) (by decide)) (en_24 (rfl : tcX 364 = 24)) rfl rfl rfl (Nat.le_of_ble_eq_true rfl) d_Pg_pixel_44 ?_
            exact hret _ _ _ _ d_Pg_pixel_47 (congrArg (fun z => (z, M)) (Option.some.inj hf))
          · replace hf := q_if_f hc5 hf
            refine qj_iconst (v := (-1)) hx hb d_Pg_pixel_32 (by decide) ?_
            exact hret _ _ _ _ d_Pg_pixel_33 (congrArg (fun z => (z, M)) (Option.some.inj hf))
