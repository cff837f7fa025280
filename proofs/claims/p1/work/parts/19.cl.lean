theorem d_Pg_canBeTyped_0 : decode prog_1_method_21_code 0 = .ok (.iload_n 0, 1) := by decide +kernel
theorem d_Pg_canBeTyped_1 : decode prog_1_method_21_code 1 = .ok (.bipush 32, 2) := by decide +kernel
theorem d_Pg_canBeTyped_3 : decode prog_1_method_21_code 3 = .ok (.if_icmp .lt 13, 3) := by decide +kernel
theorem d_Pg_canBeTyped_6 : decode prog_1_method_21_code 6 = .ok (.iload_n 0, 1) := by decide +kernel
theorem d_Pg_canBeTyped_7 : decode prog_1_method_21_code 7 = .ok (.bipush 126, 2) := by decide +kernel
theorem d_Pg_canBeTyped_9 : decode prog_1_method_21_code 9 = .ok (.if_icmp .gt 7, 3) := by decide +kernel
theorem d_Pg_canBeTyped_12 : decode prog_1_method_21_code 12 = .ok (.iconst 1, 1) := by decide +kernel
theorem d_Pg_canBeTyped_13 : decode prog_1_method_21_code 13 = .ok (.goto 4, 3) := by decide +kernel
theorem d_Pg_canBeTyped_16 : decode prog_1_method_21_code 16 = .ok (.iconst 0, 1) := by decide +kernel
theorem d_Pg_canBeTyped_17 : decode prog_1_method_21_code 17 = .ok (.ireturn, 1) := by decide +kernel
def f_Pg_canBeTyped (a0 : Int32) (M : qM) : Option Int32 := if a0 < 32 then (some 0) else (if 126 < a0 then (some 0) else (some 1))
abbrev rm_Pg_canBeTyped : Room := { frames := 0, cells := 0, slots := 0, locals := 0 }
set_option maxRecDepth 100000 in
set_option maxHeartbeats 4000000 in
theorem c_Pg_canBeTyped {l : Launch} {D : va_G} {dA : Nat → ClassId} {b : Nat} {adK adV : Nat → Nat} (a0 : Int32)  (M : qM) (out : Int32) (hf : f_Pg_canBeTyped a0 M = some out) : CTi l y_Pg_canBeTyped w_Pg_canBeTyped rm_Pg_canBeTyped D (tysX dA) (enX dA b) 367 b (qX adK adV 367 b) [qi a0] M (out, M) := by
  refine qm_z (cc := prog_1_method_21_code) (nL := 1) (by decide) rfl (Nat.le_of_ble_eq_true rfl) ?_
  intro p e s m args below meth c Q hx hb hts0 hown hml hK hs hret
  have hts : ∀ w ∈ lw_g, w.before args s = true := fun w h => hts0 w (List.mem_cons_of_mem _ h)
  show QJ p l e rm_Pg_canBeTyped s m args below meth c (qA 367 b) b 1 0 0 Q (qWd D (enX dA b) 367 b) M 0 [(0, qi a0)] []
  unfold f_Pg_canBeTyped at hf
  refine qj_iload_n hx hb d_Pg_canBeTyped_0 rfl 0 rfl ?_
  refine qj_bipush (v := 32) hx hb d_Pg_canBeTyped_1 (by decide) ?_
  refine qj_icmp_lt (tgt := 16) hx hb d_Pg_canBeTyped_3 (by decide) (fun hc1 => ?_) (fun hc1 => ?_)
  · replace hf := q_if_t hc1 hf
    refine qj_iconst (v := 0) hx hb d_Pg_canBeTyped_16 (by decide) ?_
    exact hret _ _ _ _ (Or.inl rfl) d_Pg_canBeTyped_17 (congrArg (fun z => (z, M)) (Option.some.inj hf))
  · replace hf := q_if_f hc1 hf
    refine qj_iload_n hx hb d_Pg_canBeTyped_6 rfl 0 rfl ?_
    refine qj_bipush (v := 126) hx hb d_Pg_canBeTyped_7 (by decide) ?_
    refine qj_icmp_gt (tgt := 16) hx hb d_Pg_canBeTyped_9 (by decide) (fun hc2 => ?_) (fun hc2 => ?_)
    · replace hf := q_if_t hc2 hf
      refine qj_iconst (v := 0) hx hb d_Pg_canBeTyped_16 (by decide) ?_
      exact hret _ _ _ _ (Or.inl rfl) d_Pg_canBeTyped_17 (congrArg (fun z => (z, M)) (Option.some.inj hf))
    · replace hf := q_if_f hc2 hf
      refine qj_iconst (v := 1) hx hb d_Pg_canBeTyped_12 (by decide) ?_
      refine qj_goto (tgt := 17) hx hb d_Pg_canBeTyped_13 (by decide) ?_
      exact hret _ _ _ _ (Or.inr rfl) d_Pg_canBeTyped_17 (congrArg (fun z => (z, M)) (Option.some.inj hf))
theorem d_Pg_forgetLayout_0 : decode prog_1_method_19_code 0 = .ok (.aload_n 0, 1) := by decide +kernel
theorem d_Pg_forgetLayout_1 : decode prog_1_method_19_code 1 = .ok (.iconst 0, 1) := by decide +kernel
theorem d_Pg_forgetLayout_2 : decode prog_1_method_19_code 2 = .ok (.putfield 133, 3) := by decide +kernel
theorem d_Pg_forgetLayout_5 : decode prog_1_method_19_code 5 = .ok (.aload_n 0, 1) := by decide +kernel
theorem d_Pg_forgetLayout_6 : decode prog_1_method_19_code 6 = .ok (.iconst 0, 1) := by decide +kernel
theorem d_Pg_forgetLayout_7 : decode prog_1_method_19_code 7 = .ok (.putfield 185, 3) := by decide +kernel
theorem d_Pg_forgetLayout_10 : decode prog_1_method_19_code 10 = .ok (.return_, 1) := by decide +kernel
def f_Pg_forgetLayout  (M : qM) : Option qM := q_lt (qsI M 0 7 0) fun M1 => q_lt (qsI M1 0 6 0) fun M2 => some M2
abbrev rm_Pg_forgetLayout : Room := { frames := 0, cells := 0, slots := 0, locals := 0 }
set_option maxRecDepth 100000 in
set_option maxHeartbeats 4000000 in
theorem c_Pg_forgetLayout {l : Launch} {D : va_G} {dA : Nat → ClassId} {b : Nat} {adK adV : Nat → Nat}   (M : qM) (out : qM) (hf : f_Pg_forgetLayout M = some out) : CTv l y_Pg_forgetLayout w_Pg_forgetLayout rm_Pg_forgetLayout D (tysX dA) (enX dA b) 367 b (qX adK adV 367 b) [qr (some 0)] M out := by
  refine qm_v (cc := prog_1_method_19_code) (nL := 1) (by decide) rfl (Nat.le_of_ble_eq_true rfl) ?_
  intro p e s m args below meth c Q hx hb hts0 hown hml hK hs hret
  have hts : ∀ w ∈ lw_g, w.before args s = true := fun w h => hts0 w (List.mem_cons_of_mem _ h)
  show QJ p l e rm_Pg_forgetLayout s m args below meth c (qA 367 b) b 1 0 0 Q (qWd D (enX dA b) 367 b) M 0 [(0, qr (some 0))] []
  unfold f_Pg_forgetLayout at hf
  refine qj_aload_n hx hb d_Pg_forgetLayout_0 rfl 0 rfl ?_
  refine qj_iconst (v := 0) hx hb d_Pg_forgetLayout_1 (by decide) ?_
  have hf9 := q_lt_s hf; clear hf; obtain ⟨M1, eM1, hf⟩ := hf9
  refine qj_puti (ty := .boolean) hx hb hts hin_11 ty_11 tyok_11 nm_11 hown hK (q_in (rfl : tcX 0 = 0) (by decide)) (en_0 (rfl : tcX 0 = 0)) rfl 7 (by decide) (hts _ tw_0) (fun _ h => h) rfl (by decide +kernel) rfl rfl (Nat.le_of_ble_eq_true rfl) (sp_0_7 (rfl : tcX 0 = 0)) eM1 d_Pg_forgetLayout_2 ?_
  refine qj_aload_n hx hb d_Pg_forgetLayout_5 rfl 0 rfl ?_
  refine qj_iconst (v := 0) hx hb d_Pg_forgetLayout_6 (by decide) ?_
  have hf9 := q_lt_s hf; clear hf; obtain ⟨M2, eM2, hf⟩ := hf9
  refine qj_puti (ty := .boolean) hx hb hts hin_11 ty_11 tyok_11 nm_11 hown hK (q_in (rfl : tcX 0 = 0) (by decide)) (en_0 (rfl : tcX 0 = 0)) rfl 6 (by decide) (hts _ tw_1) (fun _ h => h) rfl (by decide +kernel) rfl rfl (Nat.le_of_ble_eq_true rfl) (sp_0_6 (rfl : tcX 0 = 0)) eM2 d_Pg_forgetLayout_7 ?_
  exact hret _ _ _ d_Pg_forgetLayout_10 (Option.some.inj hf)
theorem d_Pg_isOneOf_0 : decode prog_1_method_25_code 0 = .ok (.aload_n 1, 1) := by decide +kernel
theorem d_Pg_isOneOf_1 : decode prog_1_method_25_code 1 = .ok (.iload_n 0, 1) := by decide +kernel
theorem d_Pg_isOneOf_2 : decode prog_1_method_25_code 2 = .ok (.i2c, 1) := by decide +kernel
theorem d_Pg_isOneOf_3 : decode prog_1_method_25_code 3 = .ok (.invokevirtual 112, 3) := by decide +kernel
theorem d_Pg_isOneOf_6 : decode prog_1_method_25_code 6 = .ok (.ifCond .lt 7, 3) := by decide +kernel
theorem d_Pg_isOneOf_9 : decode prog_1_method_25_code 9 = .ok (.iconst 1, 1) := by decide +kernel
theorem d_Pg_isOneOf_10 : decode prog_1_method_25_code 10 = .ok (.goto 4, 3) := by decide +kernel
theorem d_Pg_isOneOf_13 : decode prog_1_method_25_code 13 = .ok (.iconst 0, 1) := by decide +kernel
theorem d_Pg_isOneOf_14 : decode prog_1_method_25_code 14 = .ok (.ireturn, 1) := by decide +kernel
def f_Pg_isOneOf (a0 : Int32) (n1 : Nat) (M : qM) : Option Int32 := q_bp (f_indexOf n1 ((a0.toUInt32 % 65536).toInt32)) fun x1 => if x1 < 0 then (some 0) else (some 1)
abbrev rm_Pg_isOneOf : Room := { frames := 10, cells := 0, slots := 0, locals := 421 }
set_option maxRecDepth 100000 in
set_option maxHeartbeats 4000000 in
theorem c_Pg_isOneOf {l : Launch} {D : va_G} {dA : Nat → ClassId} {b : Nat} {adK adV : Nat → Nat} (a0 : Int32) (n1 : Nat)  (M : qM) (out : Int32) (hf : f_Pg_isOneOf a0 n1 M = some out) : CTi l y_Pg_isOneOf w_Pg_isOneOf rm_Pg_isOneOf D (tysX dA) (enX dA b) 367 b (qX adK adV 367 b) [qi a0, qa (adK n1)] M (out, M) := by
  refine qm_z (cc := prog_1_method_25_code) (nL := 2) (by decide) rfl (Nat.le_of_ble_eq_true rfl) ?_
  intro p e s m args below meth c Q hx hb hts0 hown hml hK hs hret
  have hts : ∀ w ∈ lw_g, w.before args s = true := fun w h => hts0 w (List.mem_cons_of_mem _ h)
  show QJ p l e rm_Pg_isOneOf s m args below meth c (qA 367 b) b 2 0 0 Q (qWd D (enX dA b) 367 b) M 0 [(0, qi a0), (1, qa (adK n1))] []
  unfold f_Pg_isOneOf at hf
  refine qj_aloadA_n hx hb d_Pg_isOneOf_0 rfl 1 rfl ?_
  refine qj_iload_n hx hb d_Pg_isOneOf_1 rfl 0 rfl ?_
  refine qj_i2c hx hb d_Pg_isOneOf_2 ?_
  have hf9 := q_bp_s hf; clear hf; obtain ⟨x1, hx1, hf⟩ := hf9
  refine qc_ix (st := []) hx hb hml hown hts hK hs (hts _ tw_2) hx1 rfl (Nat.le_of_ble_eq_true rfl) ⟨by decide, by decide⟩ d_Pg_isOneOf_3 ?_
  refine qj_if_lt (tgt := 13) hx hb d_Pg_isOneOf_6 (by decide) (fun hc2 => ?_) (fun hc2 => ?_)
  · replace hf := q_if_t hc2 hf
    refine qj_iconst (v := 0) hx hb d_Pg_isOneOf_13 (by decide) ?_
    exact hret _ _ _ _ (Or.inl rfl) d_Pg_isOneOf_14 (congrArg (fun z => (z, M)) (Option.some.inj hf))
  · replace hf := q_if_f hc2 hf
    refine qj_iconst (v := 1) hx hb d_Pg_isOneOf_9 (by decide) ?_
    refine qj_goto (tgt := 14) hx hb d_Pg_isOneOf_10 (by decide) ?_
    exact hret _ _ _ _ (Or.inr rfl) d_Pg_isOneOf_14 (congrArg (fun z => (z, M)) (Option.some.inj hf))
theorem d_Pg_isSmall_0 : decode prog_1_method_22_code 0 = .ok (.iload_n 0, 1) := by decide +kernel
theorem d_Pg_isSmall_1 : decode prog_1_method_22_code 1 = .ok (.bipush 97, 2) := by decide +kernel
theorem d_Pg_isSmall_3 : decode prog_1_method_22_code 3 = .ok (.if_icmp .lt 13, 3) := by decide +kernel
theorem d_Pg_isSmall_6 : decode prog_1_method_22_code 6 = .ok (.iload_n 0, 1) := by decide +kernel
theorem d_Pg_isSmall_7 : decode prog_1_method_22_code 7 = .ok (.bipush 122, 2) := by decide +kernel
theorem d_Pg_isSmall_9 : decode prog_1_method_22_code 9 = .ok (.if_icmp .gt 7, 3) := by decide +kernel
theorem d_Pg_isSmall_12 : decode prog_1_method_22_code 12 = .ok (.iconst 1, 1) := by decide +kernel
theorem d_Pg_isSmall_13 : decode prog_1_method_22_code 13 = .ok (.goto 4, 3) := by decide +kernel
theorem d_Pg_isSmall_16 : decode prog_1_method_22_code 16 = .ok (.iconst 0, 1) := by decide +kernel
theorem d_Pg_isSmall_17 : decode prog_1_method_22_code 17 = .ok (.ireturn, 1) := by decide +kernel
def f_Pg_isSmall (a0 : Int32) (M : qM) : Option Int32 := if a0 < 97 then (some 0) else (if 122 < a0 then (some 0) else (some 1))
abbrev rm_Pg_isSmall : Room := { frames := 0, cells := 0, slots := 0, locals := 0 }
set_option maxRecDepth 100000 in
set_option maxHeartbeats 4000000 in
theorem c_Pg_isSmall {l : Launch} {D : va_G} {dA : Nat → ClassId} {b : Nat} {adK adV : Nat → Nat} (a0 : Int32)  (M : qM) (out : Int32) (hf : f_Pg_isSmall a0 M = some out) : CTi l y_Pg_isSmall w_Pg_isSmall rm_Pg_isSmall D (tysX dA) (enX dA b) 367 b (qX adK adV 367 b) [qi a0] M (out, M) := by
  refine qm_z (cc := prog_1_method_22_code) (nL := 1) (by decide) rfl (Nat.le_of_ble_eq_true rfl) ?_
  intro p e s m args below meth c Q hx hb hts0 hown hml hK hs hret
  have hts : ∀ w ∈ lw_g, w.before args s = true := fun w h => hts0 w (List.mem_cons_of_mem _ h)
  show QJ p l e rm_Pg_isSmall s m args below meth c (qA 367 b) b 1 0 0 Q (qWd D (enX dA b) 367 b) M 0 [(0, qi a0)] []
  unfold f_Pg_isSmall at hf
  refine qj_iload_n hx hb d_Pg_isSmall_0 rfl 0 rfl ?_
  refine qj_bipush (v := 97) hx hb d_Pg_isSmall_1 (by decide) ?_
  refine qj_icmp_lt (tgt := 16) hx hb d_Pg_isSmall_3 (by decide) (fun hc1 => ?_) (fun hc1 => ?_)
  · replace hf := q_if_t hc1 hf
    refine qj_iconst (v := 0) hx hb d_Pg_isSmall_16 (by decide) ?_
    exact hret _ _ _ _ (Or.inl rfl) d_Pg_isSmall_17 (congrArg (fun z => (z, M)) (Option.some.inj hf))
  · replace hf := q_if_f hc1 hf
    refine qj_iload_n hx hb d_Pg_isSmall_6 rfl 0 rfl ?_
    refine qj_bipush (v := 122) hx hb d_Pg_isSmall_7 (by decide) ?_
    refine qj_icmp_gt (tgt := 16) hx hb d_Pg_isSmall_9 (by decide) (fun hc2 => ?_) (fun hc2 => ?_)
    · replace hf := q_if_t hc2 hf
      refine qj_iconst (v := 0) hx hb d_Pg_isSmall_16 (by decide) ?_
      exact hret _ _ _ _ (Or.inl rfl) d_Pg_isSmall_17 (congrArg (fun z => (z, M)) (Option.some.inj hf))
    · replace hf := q_if_f hc2 hf
      refine qj_iconst (v := 1) hx hb d_Pg_isSmall_12 (by decide) ?_
      refine qj_goto (tgt := 17) hx hb d_Pg_isSmall_13 (by decide) ?_
      exact hret _ _ _ _ (Or.inr rfl) d_Pg_isSmall_17 (congrArg (fun z => (z, M)) (Option.some.inj hf))
theorem d_Typist_goesOn_0 : decode prog_12_method_4_code 0 = .ok (.aload_n 0, 1) := by decide +kernel
theorem d_Typist_goesOn_1 : decode prog_12_method_4_code 1 = .ok (.getfield 9, 3) := by decide +kernel
theorem d_Typist_goesOn_4 : decode prog_12_method_4_code 4 = .ok (.tableswitch 72 1 3 #[28, 35, 47], 28) := by decide +kernel
theorem d_Typist_goesOn_32 : decode prog_12_method_4_code 32 = .ok (.iload_n 1, 1) := by decide +kernel
theorem d_Typist_goesOn_33 : decode prog_12_method_4_code 33 = .ok (.ldc 48, 2) := by decide +kernel
theorem d_Typist_goesOn_35 : decode prog_12_method_4_code 35 = .ok (.invokestatic 50, 3) := by decide +kernel
theorem d_Typist_goesOn_38 : decode prog_12_method_4_code 38 = .ok (.ireturn, 1) := by decide +kernel
theorem d_Typist_goesOn_39 : decode prog_12_method_4_code 39 = .ok (.iload_n 1, 1) := by decide +kernel
theorem d_Typist_goesOn_40 : decode prog_12_method_4_code 40 = .ok (.bipush 59, 2) := by decide +kernel
theorem d_Typist_goesOn_42 : decode prog_12_method_4_code 42 = .ok (.if_icmp .ne 7, 3) := by decide +kernel
theorem d_Typist_goesOn_45 : decode prog_12_method_4_code 45 = .ok (.iconst 1, 1) := by decide +kernel
theorem d_Typist_goesOn_46 : decode prog_12_method_4_code 46 = .ok (.goto 4, 3) := by decide +kernel
theorem d_Typist_goesOn_49 : decode prog_12_method_4_code 49 = .ok (.iconst 0, 1) := by decide +kernel
theorem d_Typist_goesOn_50 : decode prog_12_method_4_code 50 = .ok (.ireturn, 1) := by decide +kernel
theorem d_Typist_goesOn_51 : decode prog_12_method_4_code 51 = .ok (.iload_n 1, 1) := by decide +kernel
theorem d_Typist_goesOn_52 : decode prog_12_method_4_code 52 = .ok (.invokestatic 56, 3) := by decide +kernel
theorem d_Typist_goesOn_55 : decode prog_12_method_4_code 55 = .ok (.ifCond .ne 15, 3) := by decide +kernel
theorem d_Typist_goesOn_58 : decode prog_12_method_4_code 58 = .ok (.iload_n 1, 1) := by decide +kernel
theorem d_Typist_goesOn_59 : decode prog_12_method_4_code 59 = .ok (.bipush 47, 2) := by decide +kernel
theorem d_Typist_goesOn_61 : decode prog_12_method_4_code 61 = .ok (.if_icmp .eq 9, 3) := by decide +kernel
theorem d_Typist_goesOn_64 : decode prog_12_method_4_code 64 = .ok (.iload_n 1, 1) := by decide +kernel
theorem d_Typist_goesOn_65 : decode prog_12_method_4_code 65 = .ok (.bipush 33, 2) := by decide +kernel
theorem d_Typist_goesOn_67 : decode prog_12_method_4_code 67 = .ok (.if_icmp .ne 7, 3) := by decide +kernel
theorem d_Typist_goesOn_70 : decode prog_12_method_4_code 70 = .ok (.iconst 1, 1) := by decide +kernel
theorem d_Typist_goesOn_71 : decode prog_12_method_4_code 71 = .ok (.goto 4, 3) := by decide +kernel
theorem d_Typist_goesOn_74 : decode prog_12_method_4_code 74 = .ok (.iconst 0, 1) := by decide +kernel
theorem d_Typist_goesOn_75 : decode prog_12_method_4_code 75 = .ok (.ireturn, 1) := by decide +kernel
theorem d_Typist_goesOn_76 : decode prog_12_method_4_code 76 = .ok (.iconst 1, 1) := by decide +kernel
theorem d_Typist_goesOn_77 : decode prog_12_method_4_code 77 = .ok (.ireturn, 1) := by decide +kernel
def f_Typist_goesOn (a1 : Int32) (M : qM) : Option Int32 := if (M.1 287 0) = 1 then (q_bp (f_Pg_isOneOf a1 0 M) fun x2 => q_zk x2 <| some x2) else if (M.1 287 0) = 2 then (if a1 = 59 then (some 1) else (some 0)) else if (M.1 287 0) = 3 then (q_bp (f_Pg_isSmall a1 M) fun x7 => if x7 = 0 then (if a1 = 47 then (some 1) else (if a1 = 33 then (some 1) else (some 0))) else (some 1)) else (some 1)
abbrev rm_Typist_goesOn : Room := { frames := 11, cells := 0, slots := 0, locals := 442 }
set_option maxRecDepth 100000 in
set_option maxHeartbeats 4000000 in
theorem c_Typist_goesOn {l : Launch} {D : va_G} {dA : Nat → ClassId} {b : Nat} {adK adV : Nat → Nat} (a1 : Int32)  (M : qM) (out : Int32) (hf : f_Typist_goesOn a1 M = some out) : CTi l y_Typist_goesOn w_Typist_goesOn rm_Typist_goesOn D (tysX dA) (enX dA b) 367 b (qX adK adV 367 b) [qr (some 287), qi a1] M (out, M) := by
  refine qm_z (cc := prog_12_method_4_code) (nL := 2) (by decide) rfl (Nat.le_of_ble_eq_true rfl) ?_
  intro p e s m args below meth c Q hx hb hts0 hown hml hK hs hret
  have hts : ∀ w ∈ lw_g, w.before args s = true := fun w h => hts0 w (List.mem_cons_of_mem _ h)
  show QJ p l e rm_Typist_goesOn s m args below meth c (qA 367 b) b 2 0 0 Q (qWd D (enX dA b) 367 b) M 0 [(0, qr (some 287)), (1, qi a1)] []
  unfold f_Typist_goesOn at hf
  refine qj_aload_n hx hb d_Typist_goesOn_0 rfl 0 rfl ?_
  refine qj_get hx hb hts hin_6 hown hK (q_in (rfl : tcX 287 = 13) (by decide)) (en_13 (rfl : tcX 287 = 13)) rfl 0 (by decide) (hts _ tw_3) (fun _ h => h) (qi (M.1 287 0)) rfl d_Typist_goesOn_1 ?_
  by_cases hk1 : (M.1 287 0) = 1
  · replace hf := q_if_t hk1 hf
    refine qj_tableIn (off := 28) (tgt := 32) hx hb d_Typist_goesOn_4 (by rw [hk1]; decide) (by rw [hk1]; decide) (by rw [hk1] <;> rfl) (by decide) ?_
    refine qj_iload_n hx hb d_Typist_goesOn_32 rfl 1 rfl ?_
    refine qj_ldcS hx hb hown (hs.2.1 ("PlainPage$Typist", 48, "lga", 0) (by decide +kernel)) d_Typist_goesOn_33 ?_
    have hf9 := q_bp_s hf; clear hf; obtain ⟨x2, hx2, hf⟩ := hf9
    refine qc_SNi (st := []) hx hb hml hown hts hK (qX_ok _ _ _ _) hs (c_Pg_isOneOf a1 0 M _ hx2) ⟨(va_cnB 2 hts (q_good tw_5) rfl rfl rfl (hs.2.2.1 ("PlainPage$Typist", 50, y_Pg_isOneOf, "PlainPage") (by decide +kernel)) (hts _ tw_4) (by decide +kernel) ⟨by decide, by decide⟩), (hts _ tw_6), trivial⟩ rfl rfl (Nat.le_of_ble_eq_true rfl) d_Typist_goesOn_35 ?_
    have hf9 := q_zk_s hf; clear hf; obtain ⟨hz3, hf⟩ := hf9
    exact hret _ _ _ _ hz3 d_Typist_goesOn_38 (congrArg (fun z => (z, M)) (Option.some.inj hf))
  replace hf := q_if_f hk1 hf
  by_cases hk4 : (M.1 287 0) = 2
  · replace hf := q_if_t hk4 hf
    refine qj_tableIn (off := 35) (tgt := 39) hx hb d_Typist_goesOn_4 (by rw [hk4]; decide) (by rw [hk4]; decide) (by rw [hk4] <;> rfl) (by decide) ?_
    refine qj_iload_n hx hb d_Typist_goesOn_39 rfl 1 rfl ?_
    refine qj_bipush (v := 59) hx hb d_Typist_goesOn_40 (by decide) ?_
    refine qj_icmp_ne (tgt := 49) hx hb d_Typist_goesOn_42 (by decide) (fun hc5 => ?_) (fun hc5 => ?_)
    · replace hf := q_if_f hc5 hf
      refine qj_iconst (v := 0) hx hb d_Typist_goesOn_49 (by decide) ?_
      exact hret _ _ _ _ (Or.inl rfl) d_Typist_goesOn_50 (congrArg (fun z => (z, M)) (Option.some.inj hf))
    · replace hf := q_if_t hc5 hf
      refine qj_iconst (v := 1) hx hb d_Typist_goesOn_45 (by decide) ?_
      refine qj_goto (tgt := 50) hx hb d_Typist_goesOn_46 (by decide) ?_
      exact hret _ _ _ _ (Or.inr rfl) d_Typist_goesOn_50 (congrArg (fun z => (z, M)) (Option.some.inj hf))
  replace hf := q_if_f hk4 hf
  by_cases hk6 : (M.1 287 0) = 3
  · replace hf := q_if_t hk6 hf
    refine qj_tableIn (off := 47) (tgt := 51) hx hb d_Typist_goesOn_4 (by rw [hk6]; decide) (by rw [hk6]; decide) (by rw [hk6] <;> rfl) (by decide) ?_
    refine qj_iload_n hx hb d_Typist_goesOn_51 rfl 1 rfl ?_
    have hf9 := q_bp_s hf; clear hf; obtain ⟨x7, hx7, hf⟩ := hf9
    refine qc_SNi (st := []) hx hb hml hown hts hK (qX_ok _ _ _ _) hs (c_Pg_isSmall a1 M _ hx7) ⟨(va_cnB 1 hts (q_good tw_7) rfl rfl rfl (hs.2.2.1 ("PlainPage$Typist", 56, y_Pg_isSmall, "PlainPage") (by decide +kernel)) (hts _ tw_4) (by decide +kernel) ⟨by decide, by decide⟩), (hts _ tw_8), trivial⟩ rfl rfl (Nat.le_of_ble_eq_true rfl) d_Typist_goesOn_52 ?_
    refine qj_if_ne (tgt := 70) hx hb d_Typist_goesOn_55 (by decide) (fun hc8 => ?_) (fun hc8 => ?_)
    · replace hf := q_if_f hc8 hf
      refine qj_iconst (v := 1) hx hb d_Typist_goesOn_70 (by decide) ?_
      refine qj_goto (tgt := 75) hx hb d_Typist_goesOn_71 (by decide) ?_
      exact hret _ _ _ _ (Or.inr rfl) d_Typist_goesOn_75 (congrArg (fun z => (z, M)) (Option.some.inj hf))
    · replace hf := q_if_t hc8 hf
      refine qj_iload_n hx hb d_Typist_goesOn_58 rfl 1 rfl ?_
      refine qj_bipush (v := 47) hx hb d_Typist_goesOn_59 (by decide) ?_
      refine qj_icmp_eq (tgt := 70) hx hb d_Typist_goesOn_61 (by decide) (fun hc9 => ?_) (fun hc9 => ?_)
      · replace hf := q_if_t hc9 hf
        refine qj_iconst (v := 1) hx hb d_Typist_goesOn_70 (by decide) ?_
        refine qj_goto (tgt := 75) hx hb d_Typist_goesOn_71 (by decide) ?_
        exact hret _ _ _ _ (Or.inr rfl) d_Typist_goesOn_75 (congrArg (fun z => (z, M)) (Option.some.inj hf))
      · replace hf := q_if_f hc9 hf
        refine qj_iload_n hx hb d_Typist_goesOn_64 rfl 1 rfl ?_
        refine qj_bipush (v := 33) hx hb d_Typist_goesOn_65 (by decide) ?_
        refine qj_icmp_ne (tgt := 74) hx hb d_Typist_goesOn_67 (by decide) (fun hc10 => ?_) (fun hc10 => ?_)
        · replace hf := q_if_f hc10 hf
          refine qj_iconst (v := 0) hx hb d_Typist_goesOn_74 (by decide) ?_
          exact hret _ _ _ _ (Or.inl rfl) d_Typist_goesOn_75 (congrArg (fun z => (z, M)) (Option.some.inj hf))
        · replace hf := q_if_t hc10 hf
          refine qj_iconst (v := 1) hx hb d_Typist_goesOn_70 (by decide) ?_
          refine qj_goto (tgt := 75) hx hb d_Typist_goesOn_71 (by decide) ?_
          exact hret _ _ _ _ (Or.inr rfl) d_Typist_goesOn_75 (congrArg (fun z => (z, M)) (Option.some.inj hf))
  replace hf := q_if_f hk6 hf
  refine qj_tableOut (tgt := 76) hx hb d_Typist_goesOn_4 (by have z0 := lv_neT hk1 (a := 1) (by decide); have z1 := lv_neT hk4 (a := 2) (by decide); have z2 := lv_neT hk6 (a := 3) (by decide); omega) (by decide) ?_
  refine qj_iconst (v := 1) hx hb d_Typist_goesOn_76 (by decide) ?_
  exact hret _ _ _ _ (Or.inr rfl) d_Typist_goesOn_77 (congrArg (fun z => (z, M)) (Option.some.inj hf))
theorem d_OpenStack_tableUnderTop_0 : decode prog_7_method_7_code 0 = .ok (.iload_n 1, 1) := by decide +kernel
theorem d_OpenStack_tableUnderTop_1 : decode prog_7_method_7_code 1 = .ok (.iconst 1, 1) := by decide +kernel
theorem d_OpenStack_tableUnderTop_2 : decode prog_7_method_7_code 2 = .ok (.if_icmp .lt 43, 3) := by decide +kernel
theorem d_OpenStack_tableUnderTop_5 : decode prog_7_method_7_code 5 = .ok (.iload_n 1, 1) := by decide +kernel
theorem d_OpenStack_tableUnderTop_6 : decode prog_7_method_7_code 6 = .ok (.aload_n 0, 1) := by decide +kernel
theorem d_OpenStack_tableUnderTop_7 : decode prog_7_method_7_code 7 = .ok (.getfield 17, 3) := by decide +kernel
theorem d_OpenStack_tableUnderTop_10 : decode prog_7_method_7_code 10 = .ok (.if_icmp .gt 35, 3) := by decide +kernel
theorem d_OpenStack_tableUnderTop_13 : decode prog_7_method_7_code 13 = .ok (.aload_n 0, 1) := by decide +kernel
theorem d_OpenStack_tableUnderTop_14 : decode prog_7_method_7_code 14 = .ok (.getfield 11, 3) := by decide +kernel
theorem d_OpenStack_tableUnderTop_17 : decode prog_7_method_7_code 17 = .ok (.iload_n 1, 1) := by decide +kernel
theorem d_OpenStack_tableUnderTop_18 : decode prog_7_method_7_code 18 = .ok (.iconst 1, 1) := by decide +kernel
theorem d_OpenStack_tableUnderTop_19 : decode prog_7_method_7_code 19 = .ok (.isub, 1) := by decide +kernel
theorem d_OpenStack_tableUnderTop_20 : decode prog_7_method_7_code 20 = .ok (.aaload, 1) := by decide +kernel
theorem d_OpenStack_tableUnderTop_21 : decode prog_7_method_7_code 21 = .ok (.getfield 25, 3) := by decide +kernel
theorem d_OpenStack_tableUnderTop_24 : decode prog_7_method_7_code 24 = .ok (.bipush 116, 2) := by decide +kernel
theorem d_OpenStack_tableUnderTop_26 : decode prog_7_method_7_code 26 = .ok (.if_icmp .eq 21, 3) := by decide +kernel
theorem d_OpenStack_tableUnderTop_29 : decode prog_7_method_7_code 29 = .ok (.aload_n 0, 1) := by decide +kernel
theorem d_OpenStack_tableUnderTop_30 : decode prog_7_method_7_code 30 = .ok (.getfield 11, 3) := by decide +kernel
theorem d_OpenStack_tableUnderTop_33 : decode prog_7_method_7_code 33 = .ok (.iload_n 1, 1) := by decide +kernel
theorem d_OpenStack_tableUnderTop_34 : decode prog_7_method_7_code 34 = .ok (.iconst 1, 1) := by decide +kernel
theorem d_OpenStack_tableUnderTop_35 : decode prog_7_method_7_code 35 = .ok (.isub, 1) := by decide +kernel
theorem d_OpenStack_tableUnderTop_36 : decode prog_7_method_7_code 36 = .ok (.aaload, 1) := by decide +kernel
theorem d_OpenStack_tableUnderTop_37 : decode prog_7_method_7_code 37 = .ok (.getfield 25, 3) := by decide +kernel
theorem d_OpenStack_tableUnderTop_40 : decode prog_7_method_7_code 40 = .ok (.bipush 114, 2) := by decide +kernel
theorem d_OpenStack_tableUnderTop_42 : decode prog_7_method_7_code 42 = .ok (.if_icmp .eq 5, 3) := by decide +kernel
theorem d_OpenStack_tableUnderTop_45 : decode prog_7_method_7_code 45 = .ok (.aconst_null, 1) := by decide +kernel
theorem d_OpenStack_tableUnderTop_46 : decode prog_7_method_7_code 46 = .ok (.areturn, 1) := by decide +kernel
theorem d_OpenStack_tableUnderTop_47 : decode prog_7_method_7_code 47 = .ok (.iload_n 1, 1) := by decide +kernel
theorem d_OpenStack_tableUnderTop_48 : decode prog_7_method_7_code 48 = .ok (.iconst 1, 1) := by decide +kernel
theorem d_OpenStack_tableUnderTop_49 : decode prog_7_method_7_code 49 = .ok (.isub, 1) := by decide +kernel
theorem d_OpenStack_tableUnderTop_50 : decode prog_7_method_7_code 50 = .ok (.istore_n 2, 1) := by decide +kernel
theorem d_OpenStack_tableUnderTop_51 : decode prog_7_method_7_code 51 = .ok (.iload_n 2, 1) := by decide +kernel
theorem d_OpenStack_tableUnderTop_52 : decode prog_7_method_7_code 52 = .ok (.ifCond .lt 30, 3) := by decide +kernel
theorem d_OpenStack_tableUnderTop_55 : decode prog_7_method_7_code 55 = .ok (.aload_n 0, 1) := by decide +kernel
theorem d_OpenStack_tableUnderTop_56 : decode prog_7_method_7_code 56 = .ok (.getfield 11, 3) := by decide +kernel
theorem d_OpenStack_tableUnderTop_59 : decode prog_7_method_7_code 59 = .ok (.iload_n 2, 1) := by decide +kernel
theorem d_OpenStack_tableUnderTop_60 : decode prog_7_method_7_code 60 = .ok (.aaload, 1) := by decide +kernel
theorem d_OpenStack_tableUnderTop_61 : decode prog_7_method_7_code 61 = .ok (.getfield 25, 3) := by decide +kernel
theorem d_OpenStack_tableUnderTop_64 : decode prog_7_method_7_code 64 = .ok (.bipush 116, 2) := by decide +kernel
theorem d_OpenStack_tableUnderTop_66 : decode prog_7_method_7_code 66 = .ok (.if_icmp .ne 10, 3) := by decide +kernel
theorem d_OpenStack_tableUnderTop_69 : decode prog_7_method_7_code 69 = .ok (.aload_n 0, 1) := by decide +kernel
theorem d_OpenStack_tableUnderTop_70 : decode prog_7_method_7_code 70 = .ok (.getfield 11, 3) := by decide +kernel
theorem d_OpenStack_tableUnderTop_73 : decode prog_7_method_7_code 73 = .ok (.iload_n 2, 1) := by decide +kernel
theorem d_OpenStack_tableUnderTop_74 : decode prog_7_method_7_code 74 = .ok (.aaload, 1) := by decide +kernel
theorem d_OpenStack_tableUnderTop_75 : decode prog_7_method_7_code 75 = .ok (.areturn, 1) := by decide +kernel
theorem d_OpenStack_tableUnderTop_76 : decode prog_7_method_7_code 76 = .ok (.iinc 2 (-1), 3) := by decide +kernel
theorem d_OpenStack_tableUnderTop_79 : decode prog_7_method_7_code 79 = .ok (.goto (-28), 3) := by decide +kernel
theorem d_OpenStack_tableUnderTop_82 : decode prog_7_method_7_code 82 = .ok (.aconst_null, 1) := by decide +kernel
theorem d_OpenStack_tableUnderTop_83 : decode prog_7_method_7_code 83 = .ok (.areturn, 1) := by decide +kernel
def f_OpenStack_tableUnderTop_51 (M : qM) : Nat → (Option (Option Nat)) → Int32 → Option (Option Nat)
  | 0, _, _ => none
  | n + 1, K7, x6 => if x6 < 0 then (K7) else (q_ix x6 24 <| q_lt (M.2 6 x6.toNatClampNeg) fun r10 => q_nn r10 fun o11 => if (M.1 o11 0) = 116 then (q_ix x6 24 <| q_lt (M.2 6 x6.toNatClampNeg) fun r14 => some r14) else (f_OpenStack_tableUnderTop_51 M n K7 (x6 + (-1))))
def f_OpenStack_tableUnderTop (a1 : Int32) (M : qM) : Option (Option Nat) := if a1 < 1 then (some none) else (if (M.1 5 1) < a1 then (some none) else (q_ix (a1 - 1) 24 <| q_lt (M.2 6 (a1 - 1).toNatClampNeg) fun r4 => q_nn r4 fun o5 => q_lt (f_OpenStack_tableUnderTop_51 M 1000 (some none) (a1 - 1)) fun (j15 : Option (Option Nat)) => if (M.1 o5 0) = 116 then (j15) else (q_ix (a1 - 1) 24 <| q_lt (M.2 6 (a1 - 1).toNatClampNeg) fun r18 => q_nn r18 fun o19 => if (M.1 o19 0) = 114 then (j15) else (some none))))
abbrev rm_OpenStack_tableUnderTop : Room := { frames := 0, cells := 0, slots := 0, locals := 0 }
set_option maxRecDepth 100000 in
set_option maxHeartbeats 4000000 in
theorem c_OpenStack_tableUnderTop {l : Launch} {D : va_G} {dA : Nat → ClassId} {b : Nat} {adK adV : Nat → Nat} (a1 : Int32)  (M : qM) (out : Option Nat) (hf : f_OpenStack_tableUnderTop a1 M = some out) : CTr l y_OpenStack_tableUnderTop w_OpenStack_tableUnderTop rm_OpenStack_tableUnderTop D (tysX dA) (enX dA b) 367 b (qX adK adV 367 b) 7 [qr (some 5), qi a1] M (out, M) := by
  refine qm_r (tt := 7) (cc := prog_7_method_7_code) (nL := 3) (by decide) rfl (Or.inl ⟨_, rfl⟩) (Nat.le_of_ble_eq_true rfl) ?_
  intro p e s m args below meth c Q hx hb hts0 hown hml hK hs hret
  have hts : ∀ w ∈ lw_g, w.before args s = true := fun w h => hts0 w (List.mem_cons_of_mem _ h)
  show QJ p l e rm_OpenStack_tableUnderTop s m args below meth c (qA 367 b) b 3 0 0 Q (qWd D (enX dA b) 367 b) M 0 [(0, qr (some 5)), (1, qi a1)] []
  unfold f_OpenStack_tableUnderTop at hf
  refine qj_iload_n hx hb d_OpenStack_tableUnderTop_0 rfl 1 rfl ?_
  refine qj_iconst (v := 1) hx hb d_OpenStack_tableUnderTop_1 (by decide) ?_
  refine qj_icmp_lt (tgt := 45) hx hb d_OpenStack_tableUnderTop_2 (by decide) (fun hc1 => ?_) (fun hc1 => ?_)
  · replace hf := q_if_t hc1 hf
    refine qj_null hx hb d_OpenStack_tableUnderTop_45 ?_
    exact hret _ _ _ _ q_tn d_OpenStack_tableUnderTop_46 (congrArg (fun z => (z, M)) (Option.some.inj hf))
  · replace hf := q_if_f hc1 hf
    refine qj_iload_n hx hb d_OpenStack_tableUnderTop_5 rfl 1 rfl ?_
    refine qj_aload_n hx hb d_OpenStack_tableUnderTop_6 rfl 0 rfl ?_
    refine qj_get hx hb hts hin_4 hown hK (q_in (rfl : tcX 5 = 5) (by decide)) (en_5 (rfl : tcX 5 = 5)) rfl 1 (by decide) (hts _ tw_9) (fun _ h => h) (qi (M.1 5 1)) rfl d_OpenStack_tableUnderTop_7 ?_
    refine qj_icmp_gt (tgt := 45) hx hb d_OpenStack_tableUnderTop_10 (by decide) (fun hc2 => ?_) (fun hc2 => ?_)
    · replace hf := q_if_t hc2 hf
      refine qj_null hx hb d_OpenStack_tableUnderTop_45 ?_
      exact hret _ _ _ _ q_tn d_OpenStack_tableUnderTop_46 (congrArg (fun z => (z, M)) (Option.some.inj hf))
    · replace hf := q_if_f hc2 hf
      refine qj_aload_n hx hb d_OpenStack_tableUnderTop_13 rfl 0 rfl ?_
      refine qj_get hx hb hts hin_4 hown hK (q_in (rfl : tcX 5 = 5) (by decide)) (en_5 (rfl : tcX 5 = 5)) rfl 0 (by decide) (hts _ tw_10) (fun _ h => h) (qr (some 6)) rfl d_OpenStack_tableUnderTop_14 ?_
      refine qj_iload_n hx hb d_OpenStack_tableUnderTop_17 rfl 1 rfl ?_
      refine qj_iconst (v := 1) hx hb d_OpenStack_tableUnderTop_18 (by decide) ?_
      refine qj_isub hx hb d_OpenStack_tableUnderTop_19 ?_
      have hf9 := q_ix_s hf; clear hf; obtain ⟨hi3, hf⟩ := hf9
      have hf9 := q_lt_s hf; clear hf; obtain ⟨r4, er4, hf⟩ := hf9
      refine qj_w fun w => ?_
      have tr4 : ∀ o, r4 = some o → tcX o = 7 := fun o h => (w _ _ o (er4.symm.trans h)).trans (by rw [(rfl : tcX 6 = 6)] <;> rfl)
      refine qj_aald (t0 := 3) (f := M.2 6) hx hb hK (q_in (rfl : tcX 6 = 6) (by decide)) (en_6 (rfl : tcX 6 = 6) _ _) rfl hi3 d_OpenStack_tableUnderTop_20 ?_
      rw [← er4]
      have hf9 := q_nn_s hf; clear hf; obtain ⟨o5, rfl, hf⟩ := hf9
      refine qj_get hx hb hts hin_3 hown hK (q_in (tr4 _ rfl) (by decide)) (en_7 (tr4 _ rfl)) rfl 0 (by decide) (hts _ tw_11) (fun _ h => h) (qi (M.1 o5 0)) rfl d_OpenStack_tableUnderTop_21 ?_
      refine qj_bipush (v := 116) hx hb d_OpenStack_tableUnderTop_24 (by decide) ?_
      have hf9 := q_lt_s hf; clear hf; obtain ⟨j15, ej15, hf⟩ := hf9
      have hj15 : j15 = some out → QJ p l e rm_OpenStack_tableUnderTop s m args below meth c (qA 367 b) b 3 0 0 Q (qWd D (enX dA b) 367 b) M 47 [(0, qr (some 5)), (1, qi a1)] [] := by
        clear hf
        intro hf
        rw [ej15] at hf
        refine qj_iload_n hx hb d_OpenStack_tableUnderTop_47 rfl 1 rfl ?_
        refine qj_iconst (v := 1) hx hb d_OpenStack_tableUnderTop_48 (by decide) ?_
        refine qj_isub hx hb d_OpenStack_tableUnderTop_49 ?_
        refine qj_istore_n hx hb d_OpenStack_tableUnderTop_50 rfl (by decide) rfl ?_
        have hL51 : ∀ (n : Nat) (K7 : Option (Option Nat)), (K7 = some out → QJ p l e rm_OpenStack_tableUnderTop s m args below meth c (qA 367 b) b 3 0 0 Q (qWd D (enX dA b) 367 b) M 82 [] []) → ∀ (x6 : Int32), f_OpenStack_tableUnderTop_51 M n K7 x6 = some out → QJ p l e rm_OpenStack_tableUnderTop s m args below meth c (qA 367 b) b 3 0 0 Q (qWd D (enX dA b) 367 b) M 51 [(0, qr (some 5)), (2, qi x6)] [] := by
          clear hf
          intro n
          induction n with
          | zero =>
            intro K7 hK7 x6 hf
            exact absurd hf (by simp [f_OpenStack_tableUnderTop_51])
          | succ n ih51 =>
            intro K7 hK7 x6 hf
            rw [f_OpenStack_tableUnderTop_51] at hf
            have ih51 := ih51 K7 hK7
            refine qj_iload_n hx hb d_OpenStack_tableUnderTop_51 rfl 1 rfl ?_
            refine qj_if_lt (tgt := 82) hx hb d_OpenStack_tableUnderTop_52 (by decide) (fun hc8 => ?_) (fun hc8 => ?_)
            · replace hf := q_if_t hc8 hf
              refine qj_sub [] rfl ?_
              exact hK7  hf
            · replace hf := q_if_f hc8 hf
              refine qj_aload_n hx hb d_OpenStack_tableUnderTop_55 rfl 0 rfl ?_
              refine qj_get hx hb hts hin_4 hown hK (q_in (rfl : tcX 5 = 5) (by decide)) (en_5 (rfl : tcX 5 = 5)) rfl 0 (by decide) (hts _ tw_10) (fun _ h => h) (qr (some 6)) rfl d_OpenStack_tableUnderTop_56 ?_
              refine qj_iload_n hx hb d_OpenStack_tableUnderTop_59 rfl 1 rfl ?_
              have hf9 := q_ix_s hf; clear hf; obtain ⟨hi9, hf⟩ := hf9
              have hf9 := q_lt_s hf; clear hf; obtain ⟨r10, er10, hf⟩ := hf9
              refine qj_w fun w => ?_
              have tr10 : ∀ o, r10 = some o → tcX o = 7 := fun o h => (w _ _ o (er10.symm.trans h)).trans (by rw [(rfl : tcX 6 = 6)] <;> rfl)
              refine qj_aald (t0 := 3) (f := M.2 6) hx hb hK (q_in (rfl : tcX 6 = 6) (by decide)) (en_6 (rfl : tcX 6 = 6) _ _) rfl hi9 d_OpenStack_tableUnderTop_60 ?_
              rw [← er10]
              have hf9 := q_nn_s hf; clear hf; obtain ⟨o11, rfl, hf⟩ := hf9
              refine qj_get hx hb hts hin_3 hown hK (q_in (tr10 _ rfl) (by decide)) (en_7 (tr10 _ rfl)) rfl 0 (by decide) (hts _ tw_11) (fun _ h => h) (qi (M.1 o11 0)) rfl d_OpenStack_tableUnderTop_61 ?_
              refine qj_bipush (v := 116) hx hb d_OpenStack_tableUnderTop_64 (by decide) ?_
              refine qj_icmp_ne (tgt := 76) hx hb d_OpenStack_tableUnderTop_66 (by decide) (fun hc12 => ?_) (fun hc12 => ?_)
              · replace hf := q_if_f hc12 hf
                refine qj_iinc (j := 1) (v := x6 + (-1)) hx hb d_OpenStack_tableUnderTop_76 rfl rfl (by decide) rfl ?_
                refine qj_goto (tgt := 51) hx hb d_OpenStack_tableUnderTop_79 (by decide) ?_
                refine qj_sub [1, 0] rfl ?_
                exact ih51 (x6 + (-1)) hf
              · replace hf := q_if_t hc12 hf
                refine qj_aload_n hx hb d_OpenStack_tableUnderTop_69 rfl 0 rfl ?_
                refine qj_get hx hb hts hin_4 hown hK (q_in (rfl : tcX 5 = 5) (by decide)) (en_5 (rfl : tcX 5 = 5)) rfl 0 (by decide) (hts _ tw_10) (fun _ h => h) (qr (some 6)) rfl d_OpenStack_tableUnderTop_70 ?_
                refine qj_iload_n hx hb d_OpenStack_tableUnderTop_73 rfl 1 rfl ?_
                have hf9 := q_ix_s hf; clear hf; obtain ⟨hi13, hf⟩ := hf9
                have hf9 := q_lt_s hf; clear hf; obtain ⟨r14, er14, hf⟩ := hf9
                refine qj_w fun w => ?_
                have tr14 : ∀ o, r14 = some o → tcX o = 7 := fun o h => (w _ _ o (er14.symm.trans h)).trans (by rw [(rfl : tcX 6 = 6)] <;> rfl)
                refine qj_aald (t0 := 3) (f := M.2 6) hx hb hK (q_in (rfl : tcX 6 = 6) (by decide)) (en_6 (rfl : tcX 6 = 6) _ _) rfl hi13 d_OpenStack_tableUnderTop_74 ?_
                rw [← er14]
                exact hret _ _ _ _ tr14 d_OpenStack_tableUnderTop_75 (congrArg (fun z => (z, M)) (Option.some.inj hf))
        refine qj_sub [1, 0] rfl ?_
        refine hL51 _ _ (fun hf9 => ?_) (a1 - 1) hf
        clear hf; have hf := hf9; clear hf9
        refine qj_null hx hb d_OpenStack_tableUnderTop_82 ?_
        exact hret _ _ _ _ q_tn d_OpenStack_tableUnderTop_83 (congrArg (fun z => (z, M)) (Option.some.inj hf))
      refine qj_icmp_eq (tgt := 47) hx hb d_OpenStack_tableUnderTop_26 (by decide) (fun hc16 => ?_) (fun hc16 => ?_)
      · replace hf := q_if_t hc16 hf
        exact hj15  hf
      · replace hf := q_if_f hc16 hf
        refine qj_aload_n hx hb d_OpenStack_tableUnderTop_29 rfl 0 rfl ?_
        refine qj_get hx hb hts hin_4 hown hK (q_in (rfl : tcX 5 = 5) (by decide)) (en_5 (rfl : tcX 5 = 5)) rfl 0 (by decide) (hts _ tw_10) (fun _ h => h) (qr (some 6)) rfl d_OpenStack_tableUnderTop_30 ?_
        refine qj_iload_n hx hb d_OpenStack_tableUnderTop_33 rfl 1 rfl ?_
        refine qj_iconst (v := 1) hx hb d_OpenStack_tableUnderTop_34 (by decide) ?_
        refine qj_isub hx hb d_OpenStack_tableUnderTop_35 ?_
        have hf9 := q_ix_s hf; clear hf; obtain ⟨hi17, hf⟩ := hf9
        have hf9 := q_lt_s hf; clear hf; obtain ⟨r18, er18, hf⟩ := hf9
        refine qj_w fun w => ?_
        have tr18 : ∀ o, r18 = some o → tcX o = 7 := fun o h => (w _ _ o (er18.symm.trans h)).trans (by rw [(rfl : tcX 6 = 6)] <;> rfl)
        refine qj_aald (t0 := 3) (f := M.2 6) hx hb hK (q_in (rfl : tcX 6 = 6) (by decide)) (en_6 (rfl : tcX 6 = 6) _ _) rfl hi17 d_OpenStack_tableUnderTop_36 ?_
        rw [← er18]
        have hf9 := q_nn_s hf; clear hf; obtain ⟨o19, rfl, hf⟩ := hf9
        refine qj_get hx hb hts hin_3 hown hK (q_in (tr18 _ rfl) (by decide)) (en_7 (tr18 _ rfl)) rfl 0 (by decide) (hts _ tw_11) (fun _ h => h) (qi (M.1 o19 0)) rfl d_OpenStack_tableUnderTop_37 ?_
        refine qj_bipush (v := 114) hx hb d_OpenStack_tableUnderTop_40 (by decide) ?_
        refine qj_icmp_eq (tgt := 47) hx hb d_OpenStack_tableUnderTop_42 (by decide) (fun hc20 => ?_) (fun hc20 => ?_)
        · replace hf := q_if_t hc20 hf
          exact hj15  hf
        · replace hf := q_if_f hc20 hf
          refine qj_null hx hb d_OpenStack_tableUnderTop_45 ?_
          exact hret _ _ _ _ q_tn d_OpenStack_tableUnderTop_46 (congrArg (fun z => (z, M)) (Option.some.inj hf))
theorem d_OpenStack_topmost_0 : decode prog_7_method_5_code 0 = .ok (.aload_n 0, 1) := by decide +kernel
theorem d_OpenStack_topmost_1 : decode prog_7_method_5_code 1 = .ok (.getfield 17, 3) := by decide +kernel
theorem d_OpenStack_topmost_4 : decode prog_7_method_5_code 4 = .ok (.iconst 1, 1) := by decide +kernel
theorem d_OpenStack_topmost_5 : decode prog_7_method_5_code 5 = .ok (.isub, 1) := by decide +kernel
theorem d_OpenStack_topmost_6 : decode prog_7_method_5_code 6 = .ok (.istore_n 2, 1) := by decide +kernel
theorem d_OpenStack_topmost_7 : decode prog_7_method_5_code 7 = .ok (.iload_n 2, 1) := by decide +kernel
theorem d_OpenStack_topmost_8 : decode prog_7_method_5_code 8 = .ok (.ifCond .lt 29, 3) := by decide +kernel
theorem d_OpenStack_topmost_11 : decode prog_7_method_5_code 11 = .ok (.aload_n 0, 1) := by decide +kernel
theorem d_OpenStack_topmost_12 : decode prog_7_method_5_code 12 = .ok (.getfield 11, 3) := by decide +kernel
theorem d_OpenStack_topmost_15 : decode prog_7_method_5_code 15 = .ok (.iload_n 2, 1) := by decide +kernel
theorem d_OpenStack_topmost_16 : decode prog_7_method_5_code 16 = .ok (.aaload, 1) := by decide +kernel
theorem d_OpenStack_topmost_17 : decode prog_7_method_5_code 17 = .ok (.getfield 25, 3) := by decide +kernel
theorem d_OpenStack_topmost_20 : decode prog_7_method_5_code 20 = .ok (.iload_n 1, 1) := by decide +kernel
theorem d_OpenStack_topmost_21 : decode prog_7_method_5_code 21 = .ok (.if_icmp .ne 10, 3) := by decide +kernel
theorem d_OpenStack_topmost_24 : decode prog_7_method_5_code 24 = .ok (.aload_n 0, 1) := by decide +kernel
theorem d_OpenStack_topmost_25 : decode prog_7_method_5_code 25 = .ok (.getfield 11, 3) := by decide +kernel
theorem d_OpenStack_topmost_28 : decode prog_7_method_5_code 28 = .ok (.iload_n 2, 1) := by decide +kernel
theorem d_OpenStack_topmost_29 : decode prog_7_method_5_code 29 = .ok (.aaload, 1) := by decide +kernel
theorem d_OpenStack_topmost_30 : decode prog_7_method_5_code 30 = .ok (.areturn, 1) := by decide +kernel
theorem d_OpenStack_topmost_31 : decode prog_7_method_5_code 31 = .ok (.iinc 2 (-1), 3) := by decide +kernel
theorem d_OpenStack_topmost_34 : decode prog_7_method_5_code 34 = .ok (.goto (-27), 3) := by decide +kernel
theorem d_OpenStack_topmost_37 : decode prog_7_method_5_code 37 = .ok (.aconst_null, 1) := by decide +kernel
theorem d_OpenStack_topmost_38 : decode prog_7_method_5_code 38 = .ok (.areturn, 1) := by decide +kernel
def f_OpenStack_topmost_7 (M : qM) (a1 : Int32) : Nat → (Option (Option Nat)) → Int32 → Option (Option Nat)
  | 0, _, _ => none
  | n + 1, K2, x1 => if x1 < 0 then (K2) else (q_ix x1 24 <| q_lt (M.2 6 x1.toNatClampNeg) fun r5 => q_nn r5 fun o6 => if (M.1 o6 0) = a1 then (q_ix x1 24 <| q_lt (M.2 6 x1.toNatClampNeg) fun r9 => some r9) else (f_OpenStack_topmost_7 M a1 n K2 (x1 + (-1))))
def f_OpenStack_topmost (a1 : Int32) (M : qM) : Option (Option Nat) := f_OpenStack_topmost_7 M a1 1000 (some none) ((M.1 5 1) - 1)
abbrev rm_OpenStack_topmost : Room := { frames := 0, cells := 0, slots := 0, locals := 0 }
set_option maxRecDepth 100000 in
set_option maxHeartbeats 4000000 in
theorem c_OpenStack_topmost {l : Launch} {D : va_G} {dA : Nat → ClassId} {b : Nat} {adK adV : Nat → Nat} (a1 : Int32)  (M : qM) (out : Option Nat) (hf : f_OpenStack_topmost a1 M = some out) : CTr l y_OpenStack_topmost w_OpenStack_topmost rm_OpenStack_topmost D (tysX dA) (enX dA b) 367 b (qX adK adV 367 b) 7 [qr (some 5), qi a1] M (out, M) := by
  refine qm_r (tt := 7) (cc := prog_7_method_5_code) (nL := 3) (by decide) rfl (Or.inl ⟨_, rfl⟩) (Nat.le_of_ble_eq_true rfl) ?_
  intro p e s m args below meth c Q hx hb hts0 hown hml hK hs hret
  have hts : ∀ w ∈ lw_g, w.before args s = true := fun w h => hts0 w (List.mem_cons_of_mem _ h)
  show QJ p l e rm_OpenStack_topmost s m args below meth c (qA 367 b) b 3 0 0 Q (qWd D (enX dA b) 367 b) M 0 [(0, qr (some 5)), (1, qi a1)] []
  unfold f_OpenStack_topmost at hf
  refine qj_aload_n hx hb d_OpenStack_topmost_0 rfl 0 rfl ?_
  refine qj_get hx hb hts hin_4 hown hK (q_in (rfl : tcX 5 = 5) (by decide)) (en_5 (rfl : tcX 5 = 5)) rfl 1 (by decide) (hts _ tw_9) (fun _ h => h) (qi (M.1 5 1)) rfl d_OpenStack_topmost_1 ?_
  refine qj_iconst (v := 1) hx hb d_OpenStack_topmost_4 (by decide) ?_
  refine qj_isub hx hb d_OpenStack_topmost_5 ?_
  refine qj_istore_n hx hb d_OpenStack_topmost_6 rfl (by decide) rfl ?_
  have hL7 : ∀ (n : Nat) (K2 : Option (Option Nat)), (K2 = some out → QJ p l e rm_OpenStack_topmost s m args below meth c (qA 367 b) b 3 0 0 Q (qWd D (enX dA b) 367 b) M 37 [] []) → ∀ (x1 : Int32), f_OpenStack_topmost_7 M a1 n K2 x1 = some out → QJ p l e rm_OpenStack_topmost s m args below meth c (qA 367 b) b 3 0 0 Q (qWd D (enX dA b) 367 b) M 7 [(0, qr (some 5)), (1, qi a1), (2, qi x1)] [] := by
    clear hf
    intro n
    induction n with
    | zero =>
      intro K2 hK2 x1 hf
      exact absurd hf (by simp [f_OpenStack_topmost_7])
    | succ n ih7 =>
      intro K2 hK2 x1 hf
      rw [f_OpenStack_topmost_7] at hf
      have ih7 := ih7 K2 hK2
      refine qj_iload_n hx hb d_OpenStack_topmost_7 rfl 2 rfl ?_
      refine qj_if_lt (tgt := 37) hx hb d_OpenStack_topmost_8 (by decide) (fun hc3 => ?_) (fun hc3 => ?_)
      · replace hf := q_if_t hc3 hf
        refine qj_sub [] rfl ?_
        exact hK2  hf
      · replace hf := q_if_f hc3 hf
        refine qj_aload_n hx hb d_OpenStack_topmost_11 rfl 0 rfl ?_
        refine qj_get hx hb hts hin_4 hown hK (q_in (rfl : tcX 5 = 5) (by decide)) (en_5 (rfl : tcX 5 = 5)) rfl 0 (by decide) (hts _ tw_10) (fun _ h => h) (qr (some 6)) rfl d_OpenStack_topmost_12 ?_
        refine qj_iload_n hx hb d_OpenStack_topmost_15 rfl 2 rfl ?_
        have hf9 := q_ix_s hf; clear hf; obtain ⟨hi4, hf⟩ := hf9
        have hf9 := q_lt_s hf; clear hf; obtain ⟨r5, er5, hf⟩ := hf9
        refine qj_w fun w => ?_
        have tr5 : ∀ o, r5 = some o → tcX o = 7 := fun o h => (w _ _ o (er5.symm.trans h)).trans (by rw [(rfl : tcX 6 = 6)] <;> rfl)
        refine qj_aald (t0 := 3) (f := M.2 6) hx hb hK (q_in (rfl : tcX 6 = 6) (by decide)) (en_6 (rfl : tcX 6 = 6) _ _) rfl hi4 d_OpenStack_topmost_16 ?_
        rw [← er5]
        have hf9 := q_nn_s hf; clear hf; obtain ⟨o6, rfl, hf⟩ := hf9
        refine qj_get hx hb hts hin_3 hown hK (q_in (tr5 _ rfl) (by decide)) (en_7 (tr5 _ rfl)) rfl 0 (by decide) (hts _ tw_11) (fun _ h => h) (qi (M.1 o6 0)) rfl d_OpenStack_topmost_17 ?_
        refine qj_iload_n hx hb d_OpenStack_topmost_20 rfl 1 rfl ?_
        refine qj_icmp_ne (tgt := 31) hx hb d_OpenStack_topmost_21 (by decide) (fun hc7 => ?_) (fun hc7 => ?_)
        · replace hf := q_if_f hc7 hf
          refine qj_iinc (j := 2) (v := x1 + (-1)) hx hb d_OpenStack_topmost_31 rfl rfl (by decide) rfl ?_
          refine qj_goto (tgt := 7) hx hb d_OpenStack_topmost_34 (by decide) ?_
          refine qj_sub [1, 2, 0] rfl ?_
          exact ih7 (x1 + (-1)) hf
        · replace hf := q_if_t hc7 hf
          refine qj_aload_n hx hb d_OpenStack_topmost_24 rfl 0 rfl ?_
          refine qj_get hx hb hts hin_4 hown hK (q_in (rfl : tcX 5 = 5) (by decide)) (en_5 (rfl : tcX 5 = 5)) rfl 0 (by decide) (hts _ tw_10) (fun _ h => h) (qr (some 6)) rfl d_OpenStack_topmost_25 ?_
          refine qj_iload_n hx hb d_OpenStack_topmost_28 rfl 2 rfl ?_
          have hf9 := q_ix_s hf; clear hf; obtain ⟨hi8, hf⟩ := hf9
          have hf9 := q_lt_s hf; clear hf; obtain ⟨r9, er9, hf⟩ := hf9
          refine qj_w fun w => ?_
          have tr9 : ∀ o, r9 = some o → tcX o = 7 := fun o h => (w _ _ o (er9.symm.trans h)).trans (by rw [(rfl : tcX 6 = 6)] <;> rfl)
          refine qj_aald (t0 := 3) (f := M.2 6) hx hb hK (q_in (rfl : tcX 6 = 6) (by decide)) (en_6 (rfl : tcX 6 = 6) _ _) rfl hi8 d_OpenStack_topmost_29 ?_
          rw [← er9]
          exact hret _ _ _ _ tr9 d_OpenStack_topmost_30 (congrArg (fun z => (z, M)) (Option.some.inj hf))
  refine qj_sub [1, 2, 0] rfl ?_
  refine hL7 _ _ (fun hf9 => ?_) ((M.1 5 1) - 1) hf
  clear hf; have hf := hf9; clear hf9
  refine qj_null hx hb d_OpenStack_topmost_37 ?_
  exact hret _ _ _ _ q_tn d_OpenStack_topmost_38 (congrArg (fun z => (z, M)) (Option.some.inj hf))
theorem d_Tree_theList_0 : decode prog_11_method_13_code 0 = .ok (.aload_n 0, 1) := by decide +kernel
theorem d_Tree_theList_1 : decode prog_11_method_13_code 1 = .ok (.getfield 29, 3) := by decide +kernel
theorem d_Tree_theList_4 : decode prog_11_method_13_code 4 = .ok (.bipush 99, 2) := by decide +kernel
theorem d_Tree_theList_6 : decode prog_11_method_13_code 6 = .ok (.invokevirtual 123, 3) := by decide +kernel
theorem d_Tree_theList_9 : decode prog_11_method_13_code 9 = .ok (.astore_n 1, 1) := by decide +kernel
theorem d_Tree_theList_10 : decode prog_11_method_13_code 10 = .ok (.aload_n 1, 1) := by decide +kernel
theorem d_Tree_theList_11 : decode prog_11_method_13_code 11 = .ok (.ifnonnull 13, 3) := by decide +kernel
theorem d_Tree_theList_14 : decode prog_11_method_13_code 14 = .ok (.aload_n 0, 1) := by decide +kernel
theorem d_Tree_theList_15 : decode prog_11_method_13_code 15 = .ok (.getfield 35, 3) := by decide +kernel
theorem d_Tree_theList_18 : decode prog_11_method_13_code 18 = .ok (.getfield 205, 3) := by decide +kernel
theorem d_Tree_theList_21 : decode prog_11_method_13_code 21 = .ok (.goto 7, 3) := by decide +kernel
theorem d_Tree_theList_24 : decode prog_11_method_13_code 24 = .ok (.aload_n 1, 1) := by decide +kernel
theorem d_Tree_theList_25 : decode prog_11_method_13_code 25 = .ok (.getfield 205, 3) := by decide +kernel
theorem d_Tree_theList_28 : decode prog_11_method_13_code 28 = .ok (.areturn, 1) := by decide +kernel
def f_Tree_theList  (M : qM) : Option (Option Nat) := q_bp (f_OpenStack_topmost 99 M) fun r1 => q_on r1 (some (some 8)) fun o2 => (some (some (o2 + 1)))
abbrev rm_Tree_theList : Room := { frames := 1, cells := 0, slots := 0, locals := 22 }
set_option maxRecDepth 100000 in
set_option maxHeartbeats 4000000 in
theorem c_Tree_theList {l : Launch} {D : va_G} {dA : Nat → ClassId} {b : Nat} {adK adV : Nat → Nat}   (M : qM) (out : Option Nat) (hf : f_Tree_theList M = some out) : CTr l y_Tree_theList w_Tree_theList rm_Tree_theList D (tysX dA) (enX dA b) 367 b (qX adK adV 367 b) 8 [qr (some 1)] M (out, M) := by
  refine qm_r (tt := 8) (cc := prog_11_method_13_code) (nL := 2) (by decide) rfl (Or.inl ⟨_, rfl⟩) (Nat.le_of_ble_eq_true rfl) ?_
  intro p e s m args below meth c Q hx hb hts0 hown hml hK hs hret
  have hts : ∀ w ∈ lw_g, w.before args s = true := fun w h => hts0 w (List.mem_cons_of_mem _ h)
  show QJ p l e rm_Tree_theList s m args below meth c (qA 367 b) b 2 0 0 Q (qWd D (enX dA b) 367 b) M 0 [(0, qr (some 1))] []
  unfold f_Tree_theList at hf
  refine qj_aload_n hx hb d_Tree_theList_0 rfl 0 rfl ?_
  refine qj_get hx hb hts hin_5 hown hK (q_in (rfl : tcX 1 = 1) (by decide)) (en_1 (rfl : tcX 1 = 1)) rfl 3 (by decide) (hts _ tw_12) (fun _ h => h) (qr (some 5)) rfl d_Tree_theList_1 ?_
  refine qj_bipush (v := 99) hx hb d_Tree_theList_4 (by decide) ?_
  have hf9 := q_bp_s hf; clear hf; obtain ⟨r1, hr1, hf⟩ := hf9
  refine qc_Vr (st := []) hx hb hml hown hts hK (qX_ok _ _ _ _) hs (c_OpenStack_topmost 99 M _ hr1) ⟨(callB_of 1 hts (q_good tw_14) rfl rfl rfl (hts _ tw_13) (hts _ tw_15) (by decide +kernel) ⟨by decide, by decide⟩), (hts _ tw_16), (hts _ tw_17)⟩ (q_in (rfl : tcX 5 = 5) (by decide)) (en_5 (rfl : tcX 5 = 5)) rfl rfl rfl (Nat.le_of_ble_eq_true rfl) d_Tree_theList_6 (fun tr1 => ?_)
  refine qj_astore_n hx hb d_Tree_theList_9 rfl (by decide) rfl ?_
  refine qj_aload_n hx hb d_Tree_theList_10 rfl 0 rfl ?_
  refine qj_ifnonnull (tgt := 24) hx hb d_Tree_theList_11 (by decide) (fun o2 hn3 => ?_) (fun hn3 => ?_)
  · subst hn3
    replace hf := q_on_s hf
    refine qj_aload_n hx hb d_Tree_theList_24 rfl 0 rfl ?_
    refine qj_get hx hb hts hin_3 hown hK (q_in (tr1 _ rfl) (by decide)) (en_7 (tr1 _ rfl)) rfl 11 (by decide) (hts _ tw_19) (fun _ h => h) (qr (some (o2 + 1))) rfl d_Tree_theList_25 ?_
    exact hret _ _ _ _ (q_ts (tc_7_1 (tr1 _ rfl))) d_Tree_theList_28 (congrArg (fun z => (z, M)) (Option.some.inj hf))
  · subst hn3
    replace hf := q_on_n hf
    refine qj_aload_n hx hb d_Tree_theList_14 rfl 1 rfl ?_
    refine qj_get hx hb hts hin_5 hown hK (q_in (rfl : tcX 1 = 1) (by decide)) (en_1 (rfl : tcX 1 = 1)) rfl 4 (by decide) (hts _ tw_18) (fun _ h => h) (qr (some 7)) rfl d_Tree_theList_15 ?_
    refine qj_get hx hb hts hin_3 hown hK (q_in (rfl : tcX 7 = 7) (by decide)) (en_7 (rfl : tcX 7 = 7)) rfl 11 (by decide) (hts _ tw_19) (fun _ h => h) (qr (some 8)) rfl d_Tree_theList_18 ?_
    refine qj_goto (tgt := 28) hx hb d_Tree_theList_21 (by decide) ?_
    exact hret _ _ _ _ (q_ts (rfl : tcX 8 = 8)) d_Tree_theList_28 (congrArg (fun z => (z, M)) (Option.some.inj hf))
theorem d_FormattingList_behindLastOpen_0 : decode prog_3_method_6_code 0 = .ok (.aload_n 0, 1) := by decide +kernel
theorem d_FormattingList_behindLastOpen_1 : decode prog_3_method_6_code 1 = .ok (.getfield 17, 3) := by decide +kernel
theorem d_FormattingList_behindLastOpen_4 : decode prog_3_method_6_code 4 = .ok (.iconst 1, 1) := by decide +kernel
theorem d_FormattingList_behindLastOpen_5 : decode prog_3_method_6_code 5 = .ok (.isub, 1) := by decide +kernel
theorem d_FormattingList_behindLastOpen_6 : decode prog_3_method_6_code 6 = .ok (.istore_n 1, 1) := by decide +kernel
theorem d_FormattingList_behindLastOpen_7 : decode prog_3_method_6_code 7 = .ok (.iload_n 1, 1) := by decide +kernel
theorem d_FormattingList_behindLastOpen_8 : decode prog_3_method_6_code 8 = .ok (.ifCond .lt 25, 3) := by decide +kernel
theorem d_FormattingList_behindLastOpen_11 : decode prog_3_method_6_code 11 = .ok (.aload_n 0, 1) := by decide +kernel
theorem d_FormattingList_behindLastOpen_12 : decode prog_3_method_6_code 12 = .ok (.getfield 11, 3) := by decide +kernel
theorem d_FormattingList_behindLastOpen_15 : decode prog_3_method_6_code 15 = .ok (.iload_n 1, 1) := by decide +kernel
theorem d_FormattingList_behindLastOpen_16 : decode prog_3_method_6_code 16 = .ok (.aaload, 1) := by decide +kernel
theorem d_FormattingList_behindLastOpen_17 : decode prog_3_method_6_code 17 = .ok (.getfield 28, 3) := by decide +kernel
theorem d_FormattingList_behindLastOpen_20 : decode prog_3_method_6_code 20 = .ok (.ifCond .eq 7, 3) := by decide +kernel
theorem d_FormattingList_behindLastOpen_23 : decode prog_3_method_6_code 23 = .ok (.iload_n 1, 1) := by decide +kernel
theorem d_FormattingList_behindLastOpen_24 : decode prog_3_method_6_code 24 = .ok (.iconst 1, 1) := by decide +kernel
theorem d_FormattingList_behindLastOpen_25 : decode prog_3_method_6_code 25 = .ok (.iadd, 1) := by decide +kernel
theorem d_FormattingList_behindLastOpen_26 : decode prog_3_method_6_code 26 = .ok (.ireturn, 1) := by decide +kernel
theorem d_FormattingList_behindLastOpen_27 : decode prog_3_method_6_code 27 = .ok (.iinc 1 (-1), 3) := by decide +kernel
theorem d_FormattingList_behindLastOpen_30 : decode prog_3_method_6_code 30 = .ok (.goto (-23), 3) := by decide +kernel
theorem d_FormattingList_behindLastOpen_33 : decode prog_3_method_6_code 33 = .ok (.iconst 0, 1) := by decide +kernel
theorem d_FormattingList_behindLastOpen_34 : decode prog_3_method_6_code 34 = .ok (.ireturn, 1) := by decide +kernel
def f_FormattingList_behindLastOpen_7 (M : qM) (q0 : Nat) : Nat → (Option Int32) → Int32 → Option Int32
  | 0, _, _ => none
  | n + 1, K2, x1 => if x1 < 0 then (K2) else (q_ix x1 4 <| q_lt (M.2 (q0 + 1) x1.toNatClampNeg) fun r5 => q_nn r5 fun o6 => if (M.1 o6 3) = 0 then (f_FormattingList_behindLastOpen_7 M q0 n K2 (x1 + (-1))) else (some (x1 + 1)))
def f_FormattingList_behindLastOpen (q0 : Nat) (M : qM) : Option Int32 := f_FormattingList_behindLastOpen_7 M q0 1000 (some 0) ((M.1 q0 1) - 1)
abbrev rm_FormattingList_behindLastOpen : Room := { frames := 0, cells := 0, slots := 0, locals := 0 }
set_option maxRecDepth 100000 in
set_option maxHeartbeats 4000000 in
theorem c_FormattingList_behindLastOpen {l : Launch} {D : va_G} {dA : Nat → ClassId} {b : Nat} {adK adV : Nat → Nat} (q0 : Nat) (tq0 : tcX q0 = 8) (M : qM) (out : Int32) (hf : f_FormattingList_behindLastOpen q0 M = some out) : CTi l y_FormattingList_behindLastOpen w_FormattingList_behindLastOpen rm_FormattingList_behindLastOpen D (tysX dA) (enX dA b) 367 b (qX adK adV 367 b) [qr (some q0)] M (out, M) := by
  refine qm_i (cc := prog_3_method_6_code) (nL := 2) (by decide) rfl (Nat.le_of_ble_eq_true rfl) ?_
  intro p e s m args below meth c Q hx hb hts0 hown hml hK hs hret
  have hts : ∀ w ∈ lw_g, w.before args s = true := fun w h => hts0 w (List.mem_cons_of_mem _ h)
  show QJ p l e rm_FormattingList_behindLastOpen s m args below meth c (qA 367 b) b 2 0 0 Q (qWd D (enX dA b) 367 b) M 0 [(0, qr (some q0))] []
  unfold f_FormattingList_behindLastOpen at hf
  refine qj_aload_n hx hb d_FormattingList_behindLastOpen_0 rfl 0 rfl ?_
  refine qj_get hx hb hts hin_1 hown hK (q_in tq0 (by decide)) (en_8 tq0) rfl 1 (by decide) (hts _ tw_20) (fun _ h => h) (qi (M.1 q0 1)) rfl d_FormattingList_behindLastOpen_1 ?_
  refine qj_iconst (v := 1) hx hb d_FormattingList_behindLastOpen_4 (by decide) ?_
  refine qj_isub hx hb d_FormattingList_behindLastOpen_5 ?_
  refine qj_istore_n hx hb d_FormattingList_behindLastOpen_6 rfl (by decide) rfl ?_
  have hL7 : ∀ (n : Nat) (K2 : Option Int32), (K2 = some out → QJ p l e rm_FormattingList_behindLastOpen s m args below meth c (qA 367 b) b 2 0 0 Q (qWd D (enX dA b) 367 b) M 33 [] []) → ∀ (x1 : Int32), f_FormattingList_behindLastOpen_7 M q0 n K2 x1 = some out → QJ p l e rm_FormattingList_behindLastOpen s m args below meth c (qA 367 b) b 2 0 0 Q (qWd D (enX dA b) 367 b) M 7 [(0, qr (some q0)), (1, qi x1)] [] := by
    clear hf
    intro n
    induction n with
    | zero =>
      intro K2 hK2 x1 hf
      exact absurd hf (by simp [f_FormattingList_behindLastOpen_7])
    | succ n ih7 =>
      intro K2 hK2 x1 hf
      rw [f_FormattingList_behindLastOpen_7] at hf
      have ih7 := ih7 K2 hK2
      refine qj_iload_n hx hb d_FormattingList_behindLastOpen_7 rfl 1 rfl ?_
      refine qj_if_lt (tgt := 33) hx hb d_FormattingList_behindLastOpen_8 (by decide) (fun hc3 => ?_) (fun hc3 => ?_)
      · replace hf := q_if_t hc3 hf
        refine qj_sub [] rfl ?_
        exact hK2  hf
      · replace hf := q_if_f hc3 hf
        refine qj_aload_n hx hb d_FormattingList_behindLastOpen_11 rfl 0 rfl ?_
        refine qj_get hx hb hts hin_1 hown hK (q_in tq0 (by decide)) (en_8 tq0) rfl 0 (by decide) (hts _ tw_21) (fun _ h => h) (qr (some (q0 + 1))) rfl d_FormattingList_behindLastOpen_12 ?_
        refine qj_iload_n hx hb d_FormattingList_behindLastOpen_15 rfl 1 rfl ?_
        have hf9 := q_ix_s hf; clear hf; obtain ⟨hi4, hf⟩ := hf9
        have hf9 := q_lt_s hf; clear hf; obtain ⟨r5, er5, hf⟩ := hf9
        refine qj_w fun w => ?_
        have tr5 : ∀ o, r5 = some o → tcX o = 7 := fun o h => (w _ _ o (er5.symm.trans h)).trans (by rw [(tc_8_1 tq0)] <;> rfl)
        refine qj_aald (t0 := 3) (f := M.2 (q0 + 1)) hx hb hK (q_in (tc_8_1 tq0) (by decide)) (en_9 (tc_8_1 tq0) _ _) rfl hi4 d_FormattingList_behindLastOpen_16 ?_
        rw [← er5]
        have hf9 := q_nn_s hf; clear hf; obtain ⟨o6, rfl, hf⟩ := hf9
        refine qj_get hx hb hts hin_3 hown hK (q_in (tr5 _ rfl) (by decide)) (en_7 (tr5 _ rfl)) rfl 3 (by decide) (hts _ tw_22) (fun _ h => h) (qi (M.1 o6 3)) rfl d_FormattingList_behindLastOpen_17 ?_
        refine qj_if_eq (tgt := 27) hx hb d_FormattingList_behindLastOpen_20 (by decide) (fun hc7 => ?_) (fun hc7 => ?_)
        · replace hf := q_if_t hc7 hf
          refine qj_iinc (j := 1) (v := x1 + (-1)) hx hb d_FormattingList_behindLastOpen_27 rfl rfl (by decide) rfl ?_
          refine qj_goto (tgt := 7) hx hb d_FormattingList_behindLastOpen_30 (by decide) ?_
          refine qj_sub [1, 0] rfl ?_
          exact ih7 (x1 + (-1)) hf
        · replace hf := q_if_f hc7 hf
          refine qj_iload_n hx hb d_FormattingList_behindLastOpen_23 rfl 1 rfl ?_
          refine qj_iconst (v := 1) hx hb d_FormattingList_behindLastOpen_24 (by decide) ?_
          refine qj_iadd hx hb d_FormattingList_behindLastOpen_25 ?_
          exact hret _ _ _ _ d_FormattingList_behindLastOpen_26 (congrArg (fun z => (z, M)) (Option.some.inj hf))
  refine qj_sub [1, 0] rfl ?_
  refine hL7 _ _ (fun hf9 => ?_) ((M.1 q0 1) - 1) hf
  clear hf; have hf := hf9; clear hf9
  refine qj_iconst (v := 0) hx hb d_FormattingList_behindLastOpen_33 (by decide) ?_
  exact hret _ _ _ _ d_FormattingList_behindLastOpen_34 (congrArg (fun z => (z, M)) (Option.some.inj hf))
theorem d_Node_become_0 : decode prog_6_method_2_code 0 = .ok (.aload_n 0, 1) := by decide +kernel
theorem d_Node_become_1 : decode prog_6_method_2_code 1 = .ok (.iload_n 1, 1) := by decide +kernel
theorem d_Node_become_2 : decode prog_6_method_2_code 2 = .ok (.putfield 29, 3) := by decide +kernel
theorem d_Node_become_5 : decode prog_6_method_2_code 5 = .ok (.aload_n 0, 1) := by decide +kernel
theorem d_Node_become_6 : decode prog_6_method_2_code 6 = .ok (.iload_n 2, 1) := by decide +kernel
theorem d_Node_become_7 : decode prog_6_method_2_code 7 = .ok (.putfield 33, 3) := by decide +kernel
theorem d_Node_become_10 : decode prog_6_method_2_code 10 = .ok (.aload_n 0, 1) := by decide +kernel
theorem d_Node_become_11 : decode prog_6_method_2_code 11 = .ok (.iconst 0, 1) := by decide +kernel
theorem d_Node_become_12 : decode prog_6_method_2_code 12 = .ok (.putfield 36, 3) := by decide +kernel
theorem d_Node_become_15 : decode prog_6_method_2_code 15 = .ok (.aload_n 0, 1) := by decide +kernel
theorem d_Node_become_16 : decode prog_6_method_2_code 16 = .ok (.aconst_null, 1) := by decide +kernel
theorem d_Node_become_17 : decode prog_6_method_2_code 17 = .ok (.putfield 40, 3) := by decide +kernel
theorem d_Node_become_20 : decode prog_6_method_2_code 20 = .ok (.aload_n 0, 1) := by decide +kernel
theorem d_Node_become_21 : decode prog_6_method_2_code 21 = .ok (.aconst_null, 1) := by decide +kernel
theorem d_Node_become_22 : decode prog_6_method_2_code 22 = .ok (.putfield 44, 3) := by decide +kernel
theorem d_Node_become_25 : decode prog_6_method_2_code 25 = .ok (.aload_n 0, 1) := by decide +kernel
theorem d_Node_become_26 : decode prog_6_method_2_code 26 = .ok (.aconst_null, 1) := by decide +kernel
theorem d_Node_become_27 : decode prog_6_method_2_code 27 = .ok (.putfield 47, 3) := by decide +kernel
theorem d_Node_become_30 : decode prog_6_method_2_code 30 = .ok (.aload_n 0, 1) := by decide +kernel
theorem d_Node_become_31 : decode prog_6_method_2_code 31 = .ok (.aconst_null, 1) := by decide +kernel
theorem d_Node_become_32 : decode prog_6_method_2_code 32 = .ok (.putfield 50, 3) := by decide +kernel
theorem d_Node_become_35 : decode prog_6_method_2_code 35 = .ok (.aload_n 0, 1) := by decide +kernel
theorem d_Node_become_36 : decode prog_6_method_2_code 36 = .ok (.aconst_null, 1) := by decide +kernel
theorem d_Node_become_37 : decode prog_6_method_2_code 37 = .ok (.putfield 53, 3) := by decide +kernel
theorem d_Node_become_40 : decode prog_6_method_2_code 40 = .ok (.aload_n 0, 1) := by decide +kernel
theorem d_Node_become_41 : decode prog_6_method_2_code 41 = .ok (.aconst_null, 1) := by decide +kernel
theorem d_Node_become_42 : decode prog_6_method_2_code 42 = .ok (.putfield 56, 3) := by decide +kernel
theorem d_Node_become_45 : decode prog_6_method_2_code 45 = .ok (.aload_n 0, 1) := by decide +kernel
theorem d_Node_become_46 : decode prog_6_method_2_code 46 = .ok (.aconst_null, 1) := by decide +kernel
theorem d_Node_become_47 : decode prog_6_method_2_code 47 = .ok (.putfield 60, 3) := by decide +kernel
theorem d_Node_become_50 : decode prog_6_method_2_code 50 = .ok (.aload_n 0, 1) := by decide +kernel
theorem d_Node_become_51 : decode prog_6_method_2_code 51 = .ok (.getfield 12, 3) := by decide +kernel
theorem d_Node_become_54 : decode prog_6_method_2_code 54 = .ok (.iconst 0, 1) := by decide +kernel
theorem d_Node_become_55 : decode prog_6_method_2_code 55 = .ok (.putfield 63, 3) := by decide +kernel
theorem d_Node_become_58 : decode prog_6_method_2_code 58 = .ok (.return_, 1) := by decide +kernel
def f_Node_become (q0 : Nat) (a1 : Int32) (a2 : Int32) (M : qM) : Option qM := q_lt (qsI M q0 0 a1) fun M1 => q_lt (qsI M1 q0 1 a2) fun M2 => q_lt (qsI M2 q0 3 0) fun M3 => q_lt (qsR M3 q0 4 none) fun M4 => q_lt (qsR M4 q0 5 none) fun M5 => q_lt (qsR M5 q0 6 none) fun M6 => q_lt (qsR M6 q0 7 none) fun M7 => q_lt (qsR M7 q0 8 none) fun M8 => q_lt (qsR M8 q0 9 none) fun M9 => q_lt (qsR M9 q0 10 none) fun M10 => q_lt (qsI M10 (q0 + 1) 1 0) fun M11 => some M11
abbrev rm_Node_become : Room := { frames := 0, cells := 0, slots := 0, locals := 0 }
set_option maxRecDepth 100000 in
set_option maxHeartbeats 4000000 in
theorem c_Node_become {l : Launch} {D : va_G} {dA : Nat → ClassId} {b : Nat} {adK adV : Nat → Nat} (q0 : Nat) (a1 : Int32) (a2 : Int32) (tq0 : tcX q0 = 7) (M : qM) (out : qM) (hf : f_Node_become q0 a1 a2 M = some out) : CTv l y_Node_become w_Node_become rm_Node_become D (tysX dA) (enX dA b) 367 b (qX adK adV 367 b) [qr (some q0), qi a1, qi a2] M out := by
  refine qm_v (cc := prog_6_method_2_code) (nL := 3) (by decide) rfl (Nat.le_of_ble_eq_true rfl) ?_
  intro p e s m args below meth c Q hx hb hts0 hown hml hK hs hret
  have hts : ∀ w ∈ lw_g, w.before args s = true := fun w h => hts0 w (List.mem_cons_of_mem _ h)
  show QJ p l e rm_Node_become s m args below meth c (qA 367 b) b 3 0 0 Q (qWd D (enX dA b) 367 b) M 0 [(0, qr (some q0)), (1, qi a1), (2, qi a2)] []
  unfold f_Node_become at hf
  refine qj_aload_n hx hb d_Node_become_0 rfl 0 rfl ?_
  refine qj_iload_n hx hb d_Node_become_1 rfl 1 rfl ?_
  have hf9 := q_lt_s hf; clear hf; obtain ⟨M1, eM1, hf⟩ := hf9
  refine qj_puti (ty := .int) hx hb hts hin_3 ty_3 tyok_3 nm_3 hown hK (q_in tq0 (by decide)) (en_7 tq0) rfl 0 (by decide) (hts _ tw_23) (fun _ h => h) rfl (by decide +kernel) rfl rfl (Nat.le_of_ble_eq_true rfl) (sp_7_0 tq0) eM1 d_Node_become_2 ?_
  refine qj_aload_n hx hb d_Node_become_5 rfl 0 rfl ?_
  refine qj_iload_n hx hb d_Node_become_6 rfl 2 rfl ?_
  have hf9 := q_lt_s hf; clear hf; obtain ⟨M2, eM2, hf⟩ := hf9
  refine qj_puti (ty := .int) hx hb hts hin_3 ty_3 tyok_3 nm_3 hown hK (q_in tq0 (by decide)) (en_7 tq0) rfl 1 (by decide) (hts _ tw_24) (fun _ h => h) rfl (by decide +kernel) rfl rfl (Nat.le_of_ble_eq_true rfl) (sp_7_1 tq0) eM2 d_Node_become_7 ?_
  refine qj_aload_n hx hb d_Node_become_10 rfl 0 rfl ?_
  refine qj_iconst (v := 0) hx hb d_Node_become_11 (by decide) ?_
  have hf9 := q_lt_s hf; clear hf; obtain ⟨M3, eM3, hf⟩ := hf9
  refine qj_puti (ty := .boolean) hx hb hts hin_3 ty_3 tyok_3 nm_3 hown hK (q_in tq0 (by decide)) (en_7 tq0) rfl 3 (by decide) (hts _ tw_25) (fun _ h => h) rfl (by decide +kernel) rfl rfl (Nat.le_of_ble_eq_true rfl) (sp_7_3 tq0) eM3 d_Node_become_12 ?_
  refine qj_aload_n hx hb d_Node_become_15 rfl 0 rfl ?_
  refine qj_null hx hb d_Node_become_16 ?_
  have hf9 := q_lt_s hf; clear hf; obtain ⟨M4, eM4, hf⟩ := hf9
  refine qj_putr (Cr := "PlainPage$Node") hx hb hts hin_3 ty_3 tyok_3 nm_3 hown hK (q_in tq0 (by decide)) (en_7 tq0) rfl 4 (by decide) (hts _ tw_26) (fun _ h => h) rfl (by decide +kernel) (Nat.le_of_ble_eq_true rfl) (sp_7_4 tq0) (fun o h => (q_tn o h).trans (by rw [tq0] <;> rfl)) eM4 d_Node_become_17 ?_
  refine qj_aload_n hx hb d_Node_become_20 rfl 0 rfl ?_
  refine qj_null hx hb d_Node_become_21 ?_
  have hf9 := q_lt_s hf; clear hf; obtain ⟨M5, eM5, hf⟩ := hf9
  refine qj_putr (Cr := "PlainPage$Node") hx hb hts hin_3 ty_3 tyok_3 nm_3 hown hK (q_in tq0 (by decide)) (en_7 tq0) rfl 5 (by decide) (hts _ tw_27) (fun _ h => h) rfl (by decide +kernel) (Nat.le_of_ble_eq_true rfl) (sp_7_5 tq0) (fun o h => (q_tn o h).trans (by rw [tq0] <;> rfl)) eM5 d_Node_become_22 ?_
  refine qj_aload_n hx hb d_Node_become_25 rfl 0 rfl ?_
  refine qj_null hx hb d_Node_become_26 ?_
  have hf9 := q_lt_s hf; clear hf; obtain ⟨M6, eM6, hf⟩ := hf9
  refine qj_putr (Cr := "PlainPage$Node") hx hb hts hin_3 ty_3 tyok_3 nm_3 hown hK (q_in tq0 (by decide)) (en_7 tq0) rfl 6 (by decide) (hts _ tw_28) (fun _ h => h) rfl (by decide +kernel) (Nat.le_of_ble_eq_true rfl) (sp_7_6 tq0) (fun o h => (q_tn o h).trans (by rw [tq0] <;> rfl)) eM6 d_Node_become_27 ?_
  refine qj_aload_n hx hb d_Node_become_30 rfl 0 rfl ?_
  refine qj_null hx hb d_Node_become_31 ?_
  have hf9 := q_lt_s hf; clear hf; obtain ⟨M7, eM7, hf⟩ := hf9
  refine qj_putr (Cr := "PlainPage$Node") hx hb hts hin_3 ty_3 tyok_3 nm_3 hown hK (q_in tq0 (by decide)) (en_7 tq0) rfl 7 (by decide) (hts _ tw_29) (fun _ h => h) rfl (by decide +kernel) (Nat.le_of_ble_eq_true rfl) (sp_7_7 tq0) (fun o h => (q_tn o h).trans (by rw [tq0] <;> rfl)) eM7 d_Node_become_32 ?_
  refine qj_aload_n hx hb d_Node_become_35 rfl 0 rfl ?_
  refine qj_null hx hb d_Node_become_36 ?_
  have hf9 := q_lt_s hf; clear hf; obtain ⟨M8, eM8, hf⟩ := hf9
  refine qj_putr (Cr := "PlainPage$Node") hx hb hts hin_3 ty_3 tyok_3 nm_3 hown hK (q_in tq0 (by decide)) (en_7 tq0) rfl 8 (by decide) (hts _ tw_30) (fun _ h => h) rfl (by decide +kernel) (Nat.le_of_ble_eq_true rfl) (sp_7_8 tq0) (fun o h => (q_tn o h).trans (by rw [tq0] <;> rfl)) eM8 d_Node_become_37 ?_
  refine qj_aload_n hx hb d_Node_become_40 rfl 0 rfl ?_
  refine qj_null hx hb d_Node_become_41 ?_
  have hf9 := q_lt_s hf; clear hf; obtain ⟨M9, eM9, hf⟩ := hf9
  refine qj_putr (Cr := "PlainPage$Letter") hx hb hts hin_3 ty_3 tyok_3 nm_3 hown hK (q_in tq0 (by decide)) (en_7 tq0) rfl 9 (by decide) (hts _ tw_31) (fun _ h => h) rfl (by decide +kernel) (Nat.le_of_ble_eq_true rfl) (sp_7_9 tq0) (fun o h => (q_tn o h).trans (by rw [tq0] <;> rfl)) eM9 d_Node_become_42 ?_
  refine qj_aload_n hx hb d_Node_become_45 rfl 0 rfl ?_
  refine qj_null hx hb d_Node_become_46 ?_
  have hf9 := q_lt_s hf; clear hf; obtain ⟨M10, eM10, hf⟩ := hf9
  refine qj_putr (Cr := "PlainPage$Letter") hx hb hts hin_3 ty_3 tyok_3 nm_3 hown hK (q_in tq0 (by decide)) (en_7 tq0) rfl 10 (by decide) (hts _ tw_32) (fun _ h => h) rfl (by decide +kernel) (Nat.le_of_ble_eq_true rfl) (sp_7_10 tq0) (fun o h => (q_tn o h).trans (by rw [tq0] <;> rfl)) eM10 d_Node_become_47 ?_
  refine qj_aload_n hx hb d_Node_become_50 rfl 0 rfl ?_
  refine qj_get hx hb hts hin_3 hown hK (q_in tq0 (by decide)) (en_7 tq0) rfl 11 (by decide) (hts _ tw_33) (fun _ h => h) (qr (some (q0 + 1))) rfl d_Node_become_51 ?_
  refine qj_iconst (v := 0) hx hb d_Node_become_54 (by decide) ?_
  have hf9 := q_lt_s hf; clear hf; obtain ⟨M11, eM11, hf⟩ := hf9
  refine qj_puti (ty := .int) hx hb hts hin_1 ty_1 tyok_1 nm_1 hown hK (q_in (tc_7_1 tq0) (by decide)) (en_8 (tc_7_1 tq0)) rfl 1 (by decide) (hts _ tw_34) (fun _ h => h) rfl (by decide +kernel) rfl rfl (Nat.le_of_ble_eq_true rfl) (sp_8_1 (tc_7_1 tq0)) eM11 d_Node_become_55 ?_
  exact hret _ _ _ d_Node_become_58 (Option.some.inj hf)
theorem d_Tree_make_0 : decode prog_11_method_19_code 0 = .ok (.aload_n 0, 1) := by decide +kernel
theorem d_Tree_make_1 : decode prog_11_method_19_code 1 = .ok (.getfield 47, 3) := by decide +kernel
theorem d_Tree_make_4 : decode prog_11_method_19_code 4 = .ok (.bipush 24, 2) := by decide +kernel
theorem d_Tree_make_6 : decode prog_11_method_19_code 6 = .ok (.if_icmp .lt 10, 3) := by decide +kernel
theorem d_Tree_make_9 : decode prog_11_method_19_code 9 = .ok (.aload_n 0, 1) := by decide +kernel
theorem d_Tree_make_10 : decode prog_11_method_19_code 10 = .ok (.iconst 1, 1) := by decide +kernel
theorem d_Tree_make_11 : decode prog_11_method_19_code 11 = .ok (.putfield 39, 3) := by decide +kernel
theorem d_Tree_make_14 : decode prog_11_method_19_code 14 = .ok (.aconst_null, 1) := by decide +kernel
theorem d_Tree_make_15 : decode prog_11_method_19_code 15 = .ok (.areturn, 1) := by decide +kernel
theorem d_Tree_make_16 : decode prog_11_method_19_code 16 = .ok (.aload_n 0, 1) := by decide +kernel
theorem d_Tree_make_17 : decode prog_11_method_19_code 17 = .ok (.getfield 11, 3) := by decide +kernel
theorem d_Tree_make_20 : decode prog_11_method_19_code 20 = .ok (.aload_n 0, 1) := by decide +kernel
theorem d_Tree_make_21 : decode prog_11_method_19_code 21 = .ok (.getfield 47, 3) := by decide +kernel
theorem d_Tree_make_24 : decode prog_11_method_19_code 24 = .ok (.aaload, 1) := by decide +kernel
theorem d_Tree_make_25 : decode prog_11_method_19_code 25 = .ok (.astore_n 3, 1) := by decide +kernel
theorem d_Tree_make_26 : decode prog_11_method_19_code 26 = .ok (.aload_n 0, 1) := by decide +kernel
theorem d_Tree_make_27 : decode prog_11_method_19_code 27 = .ok (.dup, 1) := by decide +kernel
theorem d_Tree_make_28 : decode prog_11_method_19_code 28 = .ok (.getfield 47, 3) := by decide +kernel
theorem d_Tree_make_31 : decode prog_11_method_19_code 31 = .ok (.iconst 1, 1) := by decide +kernel
theorem d_Tree_make_32 : decode prog_11_method_19_code 32 = .ok (.iadd, 1) := by decide +kernel
theorem d_Tree_make_33 : decode prog_11_method_19_code 33 = .ok (.putfield 47, 3) := by decide +kernel
theorem d_Tree_make_36 : decode prog_11_method_19_code 36 = .ok (.aload_n 3, 1) := by decide +kernel
theorem d_Tree_make_37 : decode prog_11_method_19_code 37 = .ok (.iload_n 1, 1) := by decide +kernel
theorem d_Tree_make_38 : decode prog_11_method_19_code 38 = .ok (.iload_n 2, 1) := by decide +kernel
theorem d_Tree_make_39 : decode prog_11_method_19_code 39 = .ok (.invokevirtual 50, 3) := by decide +kernel
theorem d_Tree_make_42 : decode prog_11_method_19_code 42 = .ok (.aload_n 3, 1) := by decide +kernel
theorem d_Tree_make_43 : decode prog_11_method_19_code 43 = .ok (.areturn, 1) := by decide +kernel
def f_Tree_make (a1 : Int32) (a2 : Int32) (M : qM) : Option (Option Nat × qM) := if (M.1 1 5) < 24 then (q_ix (M.1 1 5) 24 <| q_lt (7 + 5 * (M.1 1 5).toNatClampNeg) fun o3 => q_lt (qsI M 1 5 ((M.1 1 5) + 1)) fun M4 => q_cv (f_Node_become o3 a1 a2 M4) fun M5 => some ((some o3), M5)) else (q_lt (qsI M 1 7 1) fun M6 => some (none, M6))
abbrev rm_Tree_make : Room := { frames := 1, cells := 0, slots := 0, locals := 22 }
set_option maxRecDepth 100000 in
set_option maxHeartbeats 4000000 in
theorem c_Tree_make {l : Launch} {D : va_G} {dA : Nat → ClassId} {b : Nat} {adK adV : Nat → Nat} (a1 : Int32) (a2 : Int32)  (M : qM) (out : Option Nat × qM) (hf : f_Tree_make a1 a2 M = some out) : CTr l y_Tree_make w_Tree_make rm_Tree_make D (tysX dA) (enX dA b) 367 b (qX adK adV 367 b) 7 [qr (some 1), qi a1, qi a2] M out := by
  refine qm_r (tt := 7) (cc := prog_11_method_19_code) (nL := 4) (by decide) rfl (Or.inl ⟨_, rfl⟩) (Nat.le_of_ble_eq_true rfl) ?_
  intro p e s m args below meth c Q hx hb hts0 hown hml hK hs hret
  have hts : ∀ w ∈ lw_g, w.before args s = true := fun w h => hts0 w (List.mem_cons_of_mem _ h)
  show QJ p l e rm_Tree_make s m args below meth c (qA 367 b) b 4 0 0 Q (qWd D (enX dA b) 367 b) M 0 [(0, qr (some 1)), (1, qi a1), (2, qi a2)] []
  unfold f_Tree_make at hf
  refine qj_aload_n hx hb d_Tree_make_0 rfl 0 rfl ?_
  refine qj_get hx hb hts hin_5 hown hK (q_in (rfl : tcX 1 = 1) (by decide)) (en_1 (rfl : tcX 1 = 1)) rfl 5 (by decide) (hts _ tw_35) (fun _ h => h) (qi (M.1 1 5)) rfl d_Tree_make_1 ?_
  refine qj_bipush (v := 24) hx hb d_Tree_make_4 (by decide) ?_
  refine qj_icmp_lt (tgt := 16) hx hb d_Tree_make_6 (by decide) (fun hc1 => ?_) (fun hc1 => ?_)
  · replace hf := q_if_t hc1 hf
    refine qj_aload_n hx hb d_Tree_make_16 rfl 0 rfl ?_
    refine qj_get hx hb hts hin_5 hown hK (q_in (rfl : tcX 1 = 1) (by decide)) (en_1 (rfl : tcX 1 = 1)) rfl 0 (by decide) (hts _ tw_36) (fun _ h => h) (qr (some 2)) rfl d_Tree_make_17 ?_
    refine qj_aload_n hx hb d_Tree_make_20 rfl 0 rfl ?_
    refine qj_get hx hb hts hin_5 hown hK (q_in (rfl : tcX 1 = 1) (by decide)) (en_1 (rfl : tcX 1 = 1)) rfl 5 (by decide) (hts _ tw_35) (fun _ h => h) (qi (M.1 1 5)) rfl d_Tree_make_21 ?_
    have hf9 := q_ix_s hf; clear hf; obtain ⟨hi2, hf⟩ := hf9
    have hf9 := q_lt_s hf; clear hf; obtain ⟨o3, eo3, hf⟩ := hf9
    have to3 : tcX o3 = 7 := by rw [eo3]; exact tc_e2 hi2
    refine qj_aald (t0 := 3) (f := fun j => some (7 + 5 * j)) hx hb hK (q_in (rfl : tcX 2 = 2) (by decide)) (en_2 (rfl : tcX 2 = 2) _ _) rfl hi2 d_Tree_make_24 ?_
    rw [← eo3]
    refine qj_astore_n hx hb d_Tree_make_25 rfl (by decide) rfl ?_
    refine qj_aload_n hx hb d_Tree_make_26 rfl 1 rfl ?_
    refine qj_dup hx hb d_Tree_make_27 ?_
    refine qj_get hx hb hts hin_5 hown hK (q_in (rfl : tcX 1 = 1) (by decide)) (en_1 (rfl : tcX 1 = 1)) rfl 5 (by decide) (hts _ tw_35) (fun _ h => h) (qi (M.1 1 5)) rfl d_Tree_make_28 ?_
    refine qj_iconst (v := 1) hx hb d_Tree_make_31 (by decide) ?_
    refine qj_iadd hx hb d_Tree_make_32 ?_
    have hf9 := q_lt_s hf; clear hf; obtain ⟨M4, eM4, hf⟩ := hf9
    refine qj_puti (ty := .int) hx hb hts hin_5 ty_5 tyok_5 nm_5 hown hK (q_in (rfl : tcX 1 = 1) (by decide)) (en_1 (rfl : tcX 1 = 1)) rfl 5 (by decide) (hts _ tw_35) (fun _ h => h) rfl (by decide +kernel) rfl rfl (Nat.le_of_ble_eq_true rfl) (sp_1_5 (rfl : tcX 1 = 1)) eM4 d_Tree_make_33 ?_
    refine qj_aload_n hx hb d_Tree_make_36 rfl 0 rfl ?_
    refine qj_iload_n hx hb d_Tree_make_37 rfl 2 rfl ?_
    refine qj_iload_n hx hb d_Tree_make_38 rfl 3 rfl ?_
    have hf9 := q_cv_s hf; clear hf; obtain ⟨M5, hM5, hf⟩ := hf9
    refine qc_Vv (st := []) hx hb hml hown hts hK (qX_ok _ _ _ _) hs (c_Node_become o3 a1 a2 to3 M4 _ hM5) ⟨(callB_of 2 hts (q_good tw_38) rfl rfl rfl (hts _ tw_37) (hts _ tw_39) (by decide +kernel) ⟨by decide, by decide⟩), (hts _ tw_40), (hts _ tw_41)⟩ (q_in to3 (by decide)) (en_7 to3) rfl rfl rfl (Nat.le_of_ble_eq_true rfl) d_Tree_make_39 ?_
    refine qj_aload_n hx hb d_Tree_make_42 rfl 0 rfl ?_
    exact hret _ _ _ _ (q_ts to3) d_Tree_make_43 (Option.some.inj hf)
  · replace hf := q_if_f hc1 hf
    refine qj_aload_n hx hb d_Tree_make_9 rfl 0 rfl ?_
    refine qj_iconst (v := 1) hx hb d_Tree_make_10 (by decide) ?_
    have hf9 := q_lt_s hf; clear hf; obtain ⟨M6, eM6, hf⟩ := hf9
    refine qj_puti (ty := .boolean) hx hb hts hin_5 ty_5 tyok_5 nm_5 hown hK (q_in (rfl : tcX 1 = 1) (by decide)) (en_1 (rfl : tcX 1 = 1)) rfl 7 (by decide) (hts _ tw_42) (fun _ h => h) rfl (by decide +kernel) rfl rfl (Nat.le_of_ble_eq_true rfl) (sp_1_7 (rfl : tcX 1 = 1)) eM6 d_Tree_make_11 ?_
    refine qj_null hx hb d_Tree_make_14 ?_
    exact hret _ _ _ _ q_tn d_Tree_make_15 (Option.some.inj hf)
theorem d_Node_insert_0 : decode prog_6_method_4_code 0 = .ok (.aload_n 1, 1) := by decide +kernel
theorem d_Node_insert_1 : decode prog_6_method_4_code 1 = .ok (.aload_n 0, 1) := by decide +kernel
theorem d_Node_insert_2 : decode prog_6_method_4_code 2 = .ok (.putfield 40, 3) := by decide +kernel
theorem d_Node_insert_5 : decode prog_6_method_4_code 5 = .ok (.aload_n 1, 1) := by decide +kernel
theorem d_Node_insert_6 : decode prog_6_method_4_code 6 = .ok (.aload_n 2, 1) := by decide +kernel
theorem d_Node_insert_7 : decode prog_6_method_4_code 7 = .ok (.putfield 53, 3) := by decide +kernel
theorem d_Node_insert_10 : decode prog_6_method_4_code 10 = .ok (.aload_n 1, 1) := by decide +kernel
theorem d_Node_insert_11 : decode prog_6_method_4_code 11 = .ok (.aload_n 2, 1) := by decide +kernel
theorem d_Node_insert_12 : decode prog_6_method_4_code 12 = .ok (.ifnonnull 10, 3) := by decide +kernel
theorem d_Node_insert_15 : decode prog_6_method_4_code 15 = .ok (.aload_n 0, 1) := by decide +kernel
theorem d_Node_insert_16 : decode prog_6_method_4_code 16 = .ok (.getfield 47, 3) := by decide +kernel
theorem d_Node_insert_19 : decode prog_6_method_4_code 19 = .ok (.goto 7, 3) := by decide +kernel
theorem d_Node_insert_22 : decode prog_6_method_4_code 22 = .ok (.aload_n 2, 1) := by decide +kernel
theorem d_Node_insert_23 : decode prog_6_method_4_code 23 = .ok (.getfield 50, 3) := by decide +kernel
theorem d_Node_insert_26 : decode prog_6_method_4_code 26 = .ok (.putfield 50, 3) := by decide +kernel
theorem d_Node_insert_29 : decode prog_6_method_4_code 29 = .ok (.aload_n 1, 1) := by decide +kernel
theorem d_Node_insert_30 : decode prog_6_method_4_code 30 = .ok (.getfield 50, 3) := by decide +kernel
theorem d_Node_insert_33 : decode prog_6_method_4_code 33 = .ok (.ifnonnull 11, 3) := by decide +kernel
theorem d_Node_insert_36 : decode prog_6_method_4_code 36 = .ok (.aload_n 0, 1) := by decide +kernel
theorem d_Node_insert_37 : decode prog_6_method_4_code 37 = .ok (.aload_n 1, 1) := by decide +kernel
theorem d_Node_insert_38 : decode prog_6_method_4_code 38 = .ok (.putfield 44, 3) := by decide +kernel
theorem d_Node_insert_41 : decode prog_6_method_4_code 41 = .ok (.goto 11, 3) := by decide +kernel
theorem d_Node_insert_44 : decode prog_6_method_4_code 44 = .ok (.aload_n 1, 1) := by decide +kernel
theorem d_Node_insert_45 : decode prog_6_method_4_code 45 = .ok (.getfield 50, 3) := by decide +kernel
theorem d_Node_insert_48 : decode prog_6_method_4_code 48 = .ok (.aload_n 1, 1) := by decide +kernel
theorem d_Node_insert_49 : decode prog_6_method_4_code 49 = .ok (.putfield 53, 3) := by decide +kernel
theorem d_Node_insert_52 : decode prog_6_method_4_code 52 = .ok (.aload_n 2, 1) := by decide +kernel
theorem d_Node_insert_53 : decode prog_6_method_4_code 53 = .ok (.ifnonnull 11, 3) := by decide +kernel
theorem d_Node_insert_56 : decode prog_6_method_4_code 56 = .ok (.aload_n 0, 1) := by decide +kernel
theorem d_Node_insert_57 : decode prog_6_method_4_code 57 = .ok (.aload_n 1, 1) := by decide +kernel
theorem d_Node_insert_58 : decode prog_6_method_4_code 58 = .ok (.putfield 47, 3) := by decide +kernel
theorem d_Node_insert_61 : decode prog_6_method_4_code 61 = .ok (.goto 8, 3) := by decide +kernel
theorem d_Node_insert_64 : decode prog_6_method_4_code 64 = .ok (.aload_n 2, 1) := by decide +kernel
theorem d_Node_insert_65 : decode prog_6_method_4_code 65 = .ok (.aload_n 1, 1) := by decide +kernel
theorem d_Node_insert_66 : decode prog_6_method_4_code 66 = .ok (.putfield 50, 3) := by decide +kernel
theorem d_Node_insert_69 : decode prog_6_method_4_code 69 = .ok (.return_, 1) := by decide +kernel
def f_Node_insert (q0 : Nat) (q1 : Nat) (p2 : Option Nat) (M : qM) : Option qM := q_lt (qsR M q1 4 (some q0)) fun M1 => q_lt (qsR M1 q1 8 p2) fun M2 => q_lt (fun (r3 : Option Nat) => q_lt (qsR M2 q1 7 r3) fun M4 => q_lt (M4.2 q1 7) fun r5 => q_lt (fun (M6 : qM) => q_on p2 (q_lt (qsR M6 q0 6 (some q1)) fun M8 => some M8) fun o7 => (q_lt (qsR M6 o7 7 (some q1)) fun M9 => some M9)) fun (j11 : qM → Option qM) => q_on r5 (q_lt (qsR M4 q0 5 (some q1)) fun M13 => j11 M13) fun o12 => (q_lt (M4.2 q1 7) fun r14 => q_nn r14 fun o15 => q_lt (qsR M4 o15 8 (some q1)) fun M16 => j11 M16)) fun (j18 : Option Nat → Option qM) => q_on p2 (q_lt (M2.2 q0 6) fun r20 => j18 r20) fun o19 => (q_lt (M2.2 o19 7) fun r21 => j18 r21)
abbrev rm_Node_insert : Room := { frames := 0, cells := 0, slots := 0, locals := 0 }
set_option maxRecDepth 100000 in
set_option maxHeartbeats 4000000 in
theorem c_Node_insert {l : Launch} {D : va_G} {dA : Nat → ClassId} {b : Nat} {adK adV : Nat → Nat} (q0 : Nat) (q1 : Nat) (p2 : Option Nat) (tq0 : tcX q0 = 7) (tq1 : tcX q1 = 7) (tp2 : ∀ o, p2 = some o → tcX o = 7) (M : qM) (out : qM) (hf : f_Node_insert q0 q1 p2 M = some out) : CTv l y_Node_insert w_Node_insert rm_Node_insert D (tysX dA) (enX dA b) 367 b (qX adK adV 367 b) [qr (some q0), qr (some q1), qr p2] M out := by
  refine qm_v (cc := prog_6_method_4_code) (nL := 3) (by decide) rfl (Nat.le_of_ble_eq_true rfl) ?_
  intro p e s m args below meth c Q hx hb hts0 hown hml hK hs hret
  have hts : ∀ w ∈ lw_g, w.before args s = true := fun w h => hts0 w (List.mem_cons_of_mem _ h)
  show QJ p l e rm_Node_insert s m args below meth c (qA 367 b) b 3 0 0 Q (qWd D (enX dA b) 367 b) M 0 [(0, qr (some q0)), (1, qr (some q1)), (2, qr p2)] []
  unfold f_Node_insert at hf
  refine qj_aload_n hx hb d_Node_insert_0 rfl 1 rfl ?_
  refine qj_aload_n hx hb d_Node_insert_1 rfl 0 rfl ?_
  have hf9 := q_lt_s hf; clear hf; obtain ⟨M1, eM1, hf⟩ := hf9
  refine qj_putr (Cr := "PlainPage$Node") hx hb hts hin_3 ty_3 tyok_3 nm_3 hown hK (q_in tq1 (by decide)) (en_7 tq1) rfl 4 (by decide) (hts _ tw_26) (fun _ h => h) rfl (by decide +kernel) (Nat.le_of_ble_eq_true rfl) (sp_7_4 tq1) (fun o h => ((q_ts tq0) o h).trans (by rw [tq1] <;> rfl)) eM1 d_Node_insert_2 ?_
  refine qj_aload_n hx hb d_Node_insert_5 rfl 1 rfl ?_
  refine qj_aload_n hx hb d_Node_insert_6 rfl 2 rfl ?_
  have hf9 := q_lt_s hf; clear hf; obtain ⟨M2, eM2, hf⟩ := hf9
  refine qj_putr (Cr := "PlainPage$Node") hx hb hts hin_3 ty_3 tyok_3 nm_3 hown hK (q_in tq1 (by decide)) (en_7 tq1) rfl 8 (by decide) (hts _ tw_30) (fun _ h => h) rfl (by decide +kernel) (Nat.le_of_ble_eq_true rfl) (sp_7_8 tq1) (fun o h => (tp2 o h).trans (by rw [tq1] <;> rfl)) eM2 d_Node_insert_7 ?_
  refine qj_aload_n hx hb d_Node_insert_10 rfl 1 rfl ?_
  refine qj_aload_n hx hb d_Node_insert_11 rfl 2 rfl ?_
  have hf9 := q_lt_s hf; clear hf; obtain ⟨j18, ej18, hf⟩ := hf9
  have hj18 : ∀ (r3 : Option Nat), (∀ o, r3 = some o → tcX o = 7) → j18 r3 = some out → QJ p l e rm_Node_insert s m args below meth c (qA 367 b) b 3 0 0 Q (qWd D (enX dA b) 367 b) M2 26 [(0, qr (some q0)), (1, qr (some q1)), (2, qr p2)] [qr r3, qr (some q1)] := by
    clear hf
    intro r3 tr3 hf
    rw [ej18] at hf
    have hf9 := q_lt_s hf; clear hf; obtain ⟨M4, eM4, hf⟩ := hf9
    refine qj_putr (Cr := "PlainPage$Node") hx hb hts hin_3 ty_3 tyok_3 nm_3 hown hK (q_in tq1 (by decide)) (en_7 tq1) rfl 7 (by decide) (hts _ tw_29) (fun _ h => h) rfl (by decide +kernel) (Nat.le_of_ble_eq_true rfl) (sp_7_7 tq1) (fun o h => (tr3 o h).trans (by rw [tq1] <;> rfl)) eM4 d_Node_insert_26 ?_
    refine qj_aload_n hx hb d_Node_insert_29 rfl 1 rfl ?_
    have hf9 := q_lt_s hf; clear hf; obtain ⟨r5, er5, hf⟩ := hf9
    refine qj_w fun w => ?_
    have tr5 : ∀ o, r5 = some o → tcX o = 7 := fun o h => (w _ _ o (er5.symm.trans h)).trans (by rw [tq1] <;> rfl)
    refine qj_get hx hb hts hin_3 hown hK (q_in tq1 (by decide)) (en_7 tq1) rfl 7 (by decide) (hts _ tw_29) (fun _ h => h) (qr r5) (by rw [er5]; rfl) d_Node_insert_30 ?_
    have hf9 := q_lt_s hf; clear hf; obtain ⟨j11, ej11, hf⟩ := hf9
    have hj11 : ∀ (M6 : qM), j11 M6 = some out → QJ p l e rm_Node_insert s m args below meth c (qA 367 b) b 3 0 0 Q (qWd D (enX dA b) 367 b) M6 52 [(0, qr (some q0)), (1, qr (some q1)), (2, qr p2)] [] := by
      clear hf
      intro M6 hf
      rw [ej11] at hf
      refine qj_aload_n hx hb d_Node_insert_52 rfl 2 rfl ?_
      refine qj_ifnonnull (tgt := 64) hx hb d_Node_insert_53 (by decide) (fun o7 hn10 => ?_) (fun hn10 => ?_)
      · subst hn10
        replace hf := q_on_s hf
        refine qj_aload_n hx hb d_Node_insert_64 rfl 2 rfl ?_
        refine qj_aload_n hx hb d_Node_insert_65 rfl 1 rfl ?_
        have hf9 := q_lt_s hf; clear hf; obtain ⟨M9, eM9, hf⟩ := hf9
        refine qj_putr (Cr := "PlainPage$Node") hx hb hts hin_3 ty_3 tyok_3 nm_3 hown hK (q_in (tp2 _ rfl) (by decide)) (en_7 (tp2 _ rfl)) rfl 7 (by decide) (hts _ tw_29) (fun _ h => h) rfl (by decide +kernel) (Nat.le_of_ble_eq_true rfl) (sp_7_7 (tp2 _ rfl)) (fun o h => ((q_ts tq1) o h).trans (by rw [(tp2 _ rfl)] <;> rfl)) eM9 d_Node_insert_66 ?_
        exact hret _ _ _ d_Node_insert_69 (Option.some.inj hf)
      · subst hn10
        replace hf := q_on_n hf
        refine qj_aload_n hx hb d_Node_insert_56 rfl 0 rfl ?_
        refine qj_aload_n hx hb d_Node_insert_57 rfl 1 rfl ?_
        have hf9 := q_lt_s hf; clear hf; obtain ⟨M8, eM8, hf⟩ := hf9
        refine qj_putr (Cr := "PlainPage$Node") hx hb hts hin_3 ty_3 tyok_3 nm_3 hown hK (q_in tq0 (by decide)) (en_7 tq0) rfl 6 (by decide) (hts _ tw_28) (fun _ h => h) rfl (by decide +kernel) (Nat.le_of_ble_eq_true rfl) (sp_7_6 tq0) (fun o h => ((q_ts tq1) o h).trans (by rw [tq0] <;> rfl)) eM8 d_Node_insert_58 ?_
        refine qj_goto (tgt := 69) hx hb d_Node_insert_61 (by decide) ?_
        exact hret _ _ _ d_Node_insert_69 (Option.some.inj hf)
    refine qj_ifnonnull (tgt := 44) hx hb d_Node_insert_33 (by decide) (fun o12 hn17 => ?_) (fun hn17 => ?_)
    · subst hn17
      replace hf := q_on_s hf
      refine qj_aload_n hx hb d_Node_insert_44 rfl 1 rfl ?_
      have hf9 := q_lt_s hf; clear hf; obtain ⟨r14, er14, hf⟩ := hf9
      refine qj_w fun w => ?_
      have tr14 : ∀ o, r14 = some o → tcX o = 7 := fun o h => (w _ _ o (er14.symm.trans h)).trans (by rw [tq1] <;> rfl)
      refine qj_get hx hb hts hin_3 hown hK (q_in tq1 (by decide)) (en_7 tq1) rfl 7 (by decide) (hts _ tw_29) (fun _ h => h) (qr r14) (by rw [er14]; rfl) d_Node_insert_45 ?_
      refine qj_aload_n hx hb d_Node_insert_48 rfl 1 rfl ?_
      have hf9 := q_nn_s hf; clear hf; obtain ⟨o15, rfl, hf⟩ := hf9
      have hf9 := q_lt_s hf; clear hf; obtain ⟨M16, eM16, hf⟩ := hf9
      refine qj_putr (Cr := "PlainPage$Node") hx hb hts hin_3 ty_3 tyok_3 nm_3 hown hK (q_in (tr14 _ rfl) (by decide)) (en_7 (tr14 _ rfl)) rfl 8 (by decide) (hts _ tw_30) (fun _ h => h) rfl (by decide +kernel) (Nat.le_of_ble_eq_true rfl) (sp_7_8 (tr14 _ rfl)) (fun o h => ((q_ts tq1) o h).trans (by rw [(tr14 _ rfl)] <;> rfl)) eM16 d_Node_insert_49 ?_
      exact hj11 M16 hf
    · subst hn17
      replace hf := q_on_n hf
      refine qj_aload_n hx hb d_Node_insert_36 rfl 0 rfl ?_
      refine qj_aload_n hx hb d_Node_insert_37 rfl 1 rfl ?_
      have hf9 := q_lt_s hf; clear hf; obtain ⟨M13, eM13, hf⟩ := hf9
      refine qj_putr (Cr := "PlainPage$Node") hx hb hts hin_3 ty_3 tyok_3 nm_3 hown hK (q_in tq0 (by decide)) (en_7 tq0) rfl 5 (by decide) (hts _ tw_27) (fun _ h => h) rfl (by decide +kernel) (Nat.le_of_ble_eq_true rfl) (sp_7_5 tq0) (fun o h => ((q_ts tq1) o h).trans (by rw [tq0] <;> rfl)) eM13 d_Node_insert_38 ?_
      refine qj_goto (tgt := 52) hx hb d_Node_insert_41 (by decide) ?_
      exact hj11 M13 hf
  refine qj_ifnonnull (tgt := 22) hx hb d_Node_insert_12 (by decide) (fun o19 hn22 => ?_) (fun hn22 => ?_)
  · subst hn22
    replace hf := q_on_s hf
    refine qj_aload_n hx hb d_Node_insert_22 rfl 2 rfl ?_
    have hf9 := q_lt_s hf; clear hf; obtain ⟨r21, er21, hf⟩ := hf9
    refine qj_w fun w => ?_
    have tr21 : ∀ o, r21 = some o → tcX o = 7 := fun o h => (w _ _ o (er21.symm.trans h)).trans (by rw [(tp2 _ rfl)] <;> rfl)
    refine qj_get hx hb hts hin_3 hown hK (q_in (tp2 _ rfl) (by decide)) (en_7 (tp2 _ rfl)) rfl 7 (by decide) (hts _ tw_29) (fun _ h => h) (qr r21) (by rw [er21]; rfl) d_Node_insert_23 ?_
    exact hj18 r21 tr21 hf
  · subst hn22
    replace hf := q_on_n hf
    refine qj_aload_n hx hb d_Node_insert_15 rfl 0 rfl ?_
    have hf9 := q_lt_s hf; clear hf; obtain ⟨r20, er20, hf⟩ := hf9
    refine qj_w fun w => ?_
    have tr20 : ∀ o, r20 = some o → tcX o = 7 := fun o h => (w _ _ o (er20.symm.trans h)).trans (by rw [tq0] <;> rfl)
    refine qj_get hx hb hts hin_3 hown hK (q_in tq0 (by decide)) (en_7 tq0) rfl 6 (by decide) (hts _ tw_28) (fun _ h => h) (qr r20) (by rw [er20]; rfl) d_Node_insert_16 ?_
    refine qj_goto (tgt := 26) hx hb d_Node_insert_19 (by decide) ?_
    exact hj18 r20 tr20 hf
theorem d_Tree_putAtPlace_0 : decode prog_11_method_17_code 0 = .ok (.aload_n 0, 1) := by decide +kernel
theorem d_Tree_putAtPlace_1 : decode prog_11_method_17_code 1 = .ok (.getfield 29, 3) := by decide +kernel
theorem d_Tree_putAtPlace_4 : decode prog_11_method_17_code 4 = .ok (.iload_n 2, 1) := by decide +kernel
theorem d_Tree_putAtPlace_5 : decode prog_11_method_17_code 5 = .ok (.invokevirtual 192, 3) := by decide +kernel
theorem d_Tree_putAtPlace_8 : decode prog_11_method_17_code 8 = .ok (.astore_n 3, 1) := by decide +kernel
theorem d_Tree_putAtPlace_9 : decode prog_11_method_17_code 9 = .ok (.aload_n 3, 1) := by decide +kernel
theorem d_Tree_putAtPlace_10 : decode prog_11_method_17_code 10 = .ok (.ifnull 22, 3) := by decide +kernel
theorem d_Tree_putAtPlace_13 : decode prog_11_method_17_code 13 = .ok (.aload_n 3, 1) := by decide +kernel
theorem d_Tree_putAtPlace_14 : decode prog_11_method_17_code 14 = .ok (.getfield 226, 3) := by decide +kernel
theorem d_Tree_putAtPlace_17 : decode prog_11_method_17_code 17 = .ok (.ifnull 15, 3) := by decide +kernel
theorem d_Tree_putAtPlace_20 : decode prog_11_method_17_code 20 = .ok (.aload_n 3, 1) := by decide +kernel
theorem d_Tree_putAtPlace_21 : decode prog_11_method_17_code 21 = .ok (.getfield 226, 3) := by decide +kernel
theorem d_Tree_putAtPlace_24 : decode prog_11_method_17_code 24 = .ok (.aload_n 1, 1) := by decide +kernel
theorem d_Tree_putAtPlace_25 : decode prog_11_method_17_code 25 = .ok (.aload_n 3, 1) := by decide +kernel
theorem d_Tree_putAtPlace_26 : decode prog_11_method_17_code 26 = .ok (.invokevirtual 189, 3) := by decide +kernel
theorem d_Tree_putAtPlace_29 : decode prog_11_method_17_code 29 = .ok (.goto 23, 3) := by decide +kernel
theorem d_Tree_putAtPlace_32 : decode prog_11_method_17_code 32 = .ok (.iload_n 2, 1) := by decide +kernel
theorem d_Tree_putAtPlace_33 : decode prog_11_method_17_code 33 = .ok (.ifCond .le 19, 3) := by decide +kernel
theorem d_Tree_putAtPlace_36 : decode prog_11_method_17_code 36 = .ok (.aload_n 0, 1) := by decide +kernel
theorem d_Tree_putAtPlace_37 : decode prog_11_method_17_code 37 = .ok (.getfield 29, 3) := by decide +kernel
theorem d_Tree_putAtPlace_40 : decode prog_11_method_17_code 40 = .ok (.getfield 229, 3) := by decide +kernel
theorem d_Tree_putAtPlace_43 : decode prog_11_method_17_code 43 = .ok (.iload_n 2, 1) := by decide +kernel
theorem d_Tree_putAtPlace_44 : decode prog_11_method_17_code 44 = .ok (.iconst 1, 1) := by decide +kernel
theorem d_Tree_putAtPlace_45 : decode prog_11_method_17_code 45 = .ok (.isub, 1) := by decide +kernel
theorem d_Tree_putAtPlace_46 : decode prog_11_method_17_code 46 = .ok (.aaload, 1) := by decide +kernel
theorem d_Tree_putAtPlace_47 : decode prog_11_method_17_code 47 = .ok (.aload_n 1, 1) := by decide +kernel
theorem d_Tree_putAtPlace_48 : decode prog_11_method_17_code 48 = .ok (.aconst_null, 1) := by decide +kernel
theorem d_Tree_putAtPlace_49 : decode prog_11_method_17_code 49 = .ok (.invokevirtual 189, 3) := by decide +kernel
theorem d_Tree_putAtPlace_52 : decode prog_11_method_17_code 52 = .ok (.return_, 1) := by decide +kernel
def f_Tree_putAtPlace (q1 : Nat) (a2 : Int32) (M : qM) : Option qM := q_bp (f_OpenStack_tableUnderTop a2 M) fun r1 => q_lt (if a2 ≤ 0 then (some M) else (q_ix (a2 - 1) 24 <| q_lt (M.2 6 (a2 - 1).toNatClampNeg) fun r4 => q_nn r4 fun o5 => q_cv (f_Node_insert o5 q1 none M) fun M6 => some M6)) fun (j7 : Option qM) => q_on r1 (j7) fun o8 => (q_lt (M.2 o8 4) fun r9 => q_on r9 (j7) fun o10 => (q_lt (M.2 o8 4) fun r11 => q_nn r11 fun o12 => q_cv (f_Node_insert o12 q1 (some o8) M) fun M13 => some M13))
abbrev rm_Tree_putAtPlace : Room := { frames := 1, cells := 0, slots := 0, locals := 22 }
set_option maxRecDepth 100000 in
set_option maxHeartbeats 4000000 in
theorem c_Tree_putAtPlace {l : Launch} {D : va_G} {dA : Nat → ClassId} {b : Nat} {adK adV : Nat → Nat} (q1 : Nat) (a2 : Int32) (tq1 : tcX q1 = 7) (M : qM) (out : qM) (hf : f_Tree_putAtPlace q1 a2 M = some out) : CTv l y_Tree_putAtPlace w_Tree_putAtPlace rm_Tree_putAtPlace D (tysX dA) (enX dA b) 367 b (qX adK adV 367 b) [qr (some 1), qr (some q1), qi a2] M out := by
  refine qm_v (cc := prog_11_method_17_code) (nL := 4) (by decide) rfl (Nat.le_of_ble_eq_true rfl) ?_
  intro p e s m args below meth c Q hx hb hts0 hown hml hK hs hret
  have hts : ∀ w ∈ lw_g, w.before args s = true := fun w h => hts0 w (List.mem_cons_of_mem _ h)
  show QJ p l e rm_Tree_putAtPlace s m args below meth c (qA 367 b) b 4 0 0 Q (qWd D (enX dA b) 367 b) M 0 [(0, qr (some 1)), (1, qr (some q1)), (2, qi a2)] []
  unfold f_Tree_putAtPlace at hf
  refine qj_aload_n hx hb d_Tree_putAtPlace_0 rfl 0 rfl ?_
  refine qj_get hx hb hts hin_5 hown hK (q_in (rfl : tcX 1 = 1) (by decide)) (en_1 (rfl : tcX 1 = 1)) rfl 3 (by decide) (hts _ tw_12) (fun _ h => h) (qr (some 5)) rfl d_Tree_putAtPlace_1 ?_
  refine qj_iload_n hx hb d_Tree_putAtPlace_4 rfl 2 rfl ?_
  have hf9 := q_bp_s hf; clear hf; obtain ⟨r1, hr1, hf⟩ := hf9
  refine qc_Vr (st := []) hx hb hml hown hts hK (qX_ok _ _ _ _) hs (c_OpenStack_tableUnderTop a2 M _ hr1) ⟨(callB_of 1 hts (q_good tw_43) rfl rfl rfl (hts _ tw_13) (hts _ tw_44) (by decide +kernel) ⟨by decide, by decide⟩), (hts _ tw_45), (hts _ tw_46)⟩ (q_in (rfl : tcX 5 = 5) (by decide)) (en_5 (rfl : tcX 5 = 5)) rfl rfl rfl (Nat.le_of_ble_eq_true rfl) d_Tree_putAtPlace_5 (fun tr1 => ?_)
  refine qj_astore_n hx hb d_Tree_putAtPlace_8 rfl (by decide) rfl ?_
  refine qj_aload_n hx hb d_Tree_putAtPlace_9 rfl 0 rfl ?_
  have hf9 := q_lt_s hf; clear hf; obtain ⟨j7, ej7, hf⟩ := hf9
  have hj7 : j7 = some out → QJ p l e rm_Tree_putAtPlace s m args below meth c (qA 367 b) b 4 0 0 Q (qWd D (enX dA b) 367 b) M 32 [(0, qr (some 1)), (1, qr (some q1)), (2, qi a2)] [] := by
    clear hf
    intro hf
    rw [ej7] at hf
    refine qj_iload_n hx hb d_Tree_putAtPlace_32 rfl 2 rfl ?_
    refine qj_if_le (tgt := 52) hx hb d_Tree_putAtPlace_33 (by decide) (fun hc2 => ?_) (fun hc2 => ?_)
    · replace hf := q_if_t hc2 hf
      exact hret _ _ _ d_Tree_putAtPlace_52 (Option.some.inj hf)
    · replace hf := q_if_f hc2 hf
      refine qj_aload_n hx hb d_Tree_putAtPlace_36 rfl 0 rfl ?_
      refine qj_get hx hb hts hin_5 hown hK (q_in (rfl : tcX 1 = 1) (by decide)) (en_1 (rfl : tcX 1 = 1)) rfl 3 (by decide) (hts _ tw_12) (fun _ h => h) (qr (some 5)) rfl d_Tree_putAtPlace_37 ?_
      refine qj_get hx hb hts hin_4 hown hK (q_in (rfl : tcX 5 = 5) (by decide)) (en_5 (rfl : tcX 5 = 5)) rfl 0 (by decide) (hts _ tw_47) (fun _ h => h) (qr (some 6)) rfl d_Tree_putAtPlace_40 ?_
      refine qj_iload_n hx hb d_Tree_putAtPlace_43 rfl 2 rfl ?_
      refine qj_iconst (v := 1) hx hb d_Tree_putAtPlace_44 (by decide) ?_
      refine qj_isub hx hb d_Tree_putAtPlace_45 ?_
      have hf9 := q_ix_s hf; clear hf; obtain ⟨hi3, hf⟩ := hf9
      have hf9 := q_lt_s hf; clear hf; obtain ⟨r4, er4, hf⟩ := hf9
      refine qj_w fun w => ?_
      have tr4 : ∀ o, r4 = some o → tcX o = 7 := fun o h => (w _ _ o (er4.symm.trans h)).trans (by rw [(rfl : tcX 6 = 6)] <;> rfl)
      refine qj_aald (t0 := 3) (f := M.2 6) hx hb hK (q_in (rfl : tcX 6 = 6) (by decide)) (en_6 (rfl : tcX 6 = 6) _ _) rfl hi3 d_Tree_putAtPlace_46 ?_
      rw [← er4]
      refine qj_aload_n hx hb d_Tree_putAtPlace_47 rfl 1 rfl ?_
      refine qj_null hx hb d_Tree_putAtPlace_48 ?_
      have hf9 := q_nn_s hf; clear hf; obtain ⟨o5, rfl, hf⟩ := hf9
      have hf9 := q_cv_s hf; clear hf; obtain ⟨M6, hM6, hf⟩ := hf9
      refine qc_Vv (st := []) hx hb hml hown hts hK (qX_ok _ _ _ _) hs (c_Node_insert o5 q1 none (tr4 _ rfl) tq1 q_tn M _ hM6) ⟨(callB_of 2 hts (q_good tw_48) rfl rfl rfl (hts _ tw_37) (hts _ tw_49) (by decide +kernel) ⟨by decide, by decide⟩), (hts _ tw_50), (hts _ tw_51)⟩ (q_in (tr4 _ rfl) (by decide)) (en_7 (tr4 _ rfl)) rfl rfl rfl (Nat.le_of_ble_eq_true rfl) d_Tree_putAtPlace_49 ?_
      exact hret _ _ _ d_Tree_putAtPlace_52 (Option.some.inj hf)
  refine qj_ifnull (tgt := 32) hx hb d_Tree_putAtPlace_10 (by decide) (fun hn15 => ?_) (fun o8 hn15 => ?_)
  · subst hn15
    replace hf := q_on_n hf
    refine qj_sub [1, 2, 3] rfl ?_
    exact hj7  hf
  · subst hn15
    replace hf := q_on_s hf
    refine qj_aload_n hx hb d_Tree_putAtPlace_13 rfl 0 rfl ?_
    have hf9 := q_lt_s hf; clear hf; obtain ⟨r9, er9, hf⟩ := hf9
    refine qj_w fun w => ?_
    have tr9 : ∀ o, r9 = some o → tcX o = 7 := fun o h => (w _ _ o (er9.symm.trans h)).trans (by rw [(tr1 _ rfl)] <;> rfl)
    refine qj_get hx hb hts hin_3 hown hK (q_in (tr1 _ rfl) (by decide)) (en_7 (tr1 _ rfl)) rfl 4 (by decide) (hts _ tw_52) (fun _ h => h) (qr r9) (by rw [er9]; rfl) d_Tree_putAtPlace_14 ?_
    refine qj_ifnull (tgt := 32) hx hb d_Tree_putAtPlace_17 (by decide) (fun hn14 => ?_) (fun o10 hn14 => ?_)
    · subst hn14
      replace hf := q_on_n hf
      refine qj_sub [1, 2, 3] rfl ?_
      exact hj7  hf
    · subst hn14
      replace hf := q_on_s hf
      refine qj_aload_n hx hb d_Tree_putAtPlace_20 rfl 0 rfl ?_
      have hf9 := q_lt_s hf; clear hf; obtain ⟨r11, er11, hf⟩ := hf9
      refine qj_w fun w => ?_
      have tr11 : ∀ o, r11 = some o → tcX o = 7 := fun o h => (w _ _ o (er11.symm.trans h)).trans (by rw [(tr1 _ rfl)] <;> rfl)
      refine qj_get hx hb hts hin_3 hown hK (q_in (tr1 _ rfl) (by decide)) (en_7 (tr1 _ rfl)) rfl 4 (by decide) (hts _ tw_52) (fun _ h => h) (qr r11) (by rw [er11]; rfl) d_Tree_putAtPlace_21 ?_
      refine qj_aload_n hx hb d_Tree_putAtPlace_24 rfl 2 rfl ?_
      refine qj_aload_n hx hb d_Tree_putAtPlace_25 rfl 0 rfl ?_
      have hf9 := q_nn_s hf; clear hf; obtain ⟨o12, rfl, hf⟩ := hf9
      have hf9 := q_cv_s hf; clear hf; obtain ⟨M13, hM13, hf⟩ := hf9
      refine qc_Vv (st := []) hx hb hml hown hts hK (qX_ok _ _ _ _) hs (c_Node_insert o12 q1 (some o8) (tr11 _ rfl) tq1 (q_ts (tr1 _ rfl)) M _ hM13) ⟨(callB_of 2 hts (q_good tw_48) rfl rfl rfl (hts _ tw_37) (hts _ tw_49) (by decide +kernel) ⟨by decide, by decide⟩), (hts _ tw_50), (hts _ tw_51)⟩ (q_in (tr11 _ rfl) (by decide)) (en_7 (tr11 _ rfl)) rfl rfl rfl (Nat.le_of_ble_eq_true rfl) d_Tree_putAtPlace_26 ?_
      refine qj_goto (tgt := 52) hx hb d_Tree_putAtPlace_29 (by decide) ?_
      exact hret _ _ _ d_Tree_putAtPlace_52 (Option.some.inj hf)
theorem d_OpenStack_push_0 : decode prog_7_method_2_code 0 = .ok (.aload_n 0, 1) := by decide +kernel
theorem d_OpenStack_push_1 : decode prog_7_method_2_code 1 = .ok (.getfield 17, 3) := by decide +kernel
theorem d_OpenStack_push_4 : decode prog_7_method_2_code 4 = .ok (.bipush 24, 2) := by decide +kernel
theorem d_OpenStack_push_6 : decode prog_7_method_2_code 6 = .ok (.if_icmp .ge 28, 3) := by decide +kernel
theorem d_OpenStack_push_9 : decode prog_7_method_2_code 9 = .ok (.aload_n 0, 1) := by decide +kernel
theorem d_OpenStack_push_10 : decode prog_7_method_2_code 10 = .ok (.getfield 11, 3) := by decide +kernel
theorem d_OpenStack_push_13 : decode prog_7_method_2_code 13 = .ok (.aload_n 0, 1) := by decide +kernel
theorem d_OpenStack_push_14 : decode prog_7_method_2_code 14 = .ok (.getfield 17, 3) := by decide +kernel
theorem d_OpenStack_push_17 : decode prog_7_method_2_code 17 = .ok (.aload_n 1, 1) := by decide +kernel
theorem d_OpenStack_push_18 : decode prog_7_method_2_code 18 = .ok (.aastore, 1) := by decide +kernel
theorem d_OpenStack_push_19 : decode prog_7_method_2_code 19 = .ok (.aload_n 0, 1) := by decide +kernel
theorem d_OpenStack_push_20 : decode prog_7_method_2_code 20 = .ok (.dup, 1) := by decide +kernel
theorem d_OpenStack_push_21 : decode prog_7_method_2_code 21 = .ok (.getfield 17, 3) := by decide +kernel
theorem d_OpenStack_push_24 : decode prog_7_method_2_code 24 = .ok (.iconst 1, 1) := by decide +kernel
theorem d_OpenStack_push_25 : decode prog_7_method_2_code 25 = .ok (.iadd, 1) := by decide +kernel
theorem d_OpenStack_push_26 : decode prog_7_method_2_code 26 = .ok (.putfield 17, 3) := by decide +kernel
theorem d_OpenStack_push_29 : decode prog_7_method_2_code 29 = .ok (.aload_n 1, 1) := by decide +kernel
theorem d_OpenStack_push_30 : decode prog_7_method_2_code 30 = .ok (.iconst 1, 1) := by decide +kernel
theorem d_OpenStack_push_31 : decode prog_7_method_2_code 31 = .ok (.putfield 21, 3) := by decide +kernel
theorem d_OpenStack_push_34 : decode prog_7_method_2_code 34 = .ok (.return_, 1) := by decide +kernel
def f_OpenStack_push (q1 : Nat) (M : qM) : Option qM := if 24 ≤ (M.1 5 1) then (some M) else (q_ix (M.1 5 1) 24 <| q_lt (qsR M 6 (M.1 5 1).toNatClampNeg (some q1)) fun M3 => q_lt (qsI M3 5 1 ((M3.1 5 1) + 1)) fun M4 => q_lt (qsI M4 q1 3 1) fun M5 => some M5)
abbrev rm_OpenStack_push : Room := { frames := 0, cells := 0, slots := 0, locals := 0 }
set_option maxRecDepth 100000 in
set_option maxHeartbeats 4000000 in
theorem c_OpenStack_push {l : Launch} {D : va_G} {dA : Nat → ClassId} {b : Nat} {adK adV : Nat → Nat} (q1 : Nat) (tq1 : tcX q1 = 7) (M : qM) (out : qM) (hf : f_OpenStack_push q1 M = some out) : CTv l y_OpenStack_push w_OpenStack_push rm_OpenStack_push D (tysX dA) (enX dA b) 367 b (qX adK adV 367 b) [qr (some 5), qr (some q1)] M out := by
  refine qm_v (cc := prog_7_method_2_code) (nL := 2) (by decide) rfl (Nat.le_of_ble_eq_true rfl) ?_
  intro p e s m args below meth c Q hx hb hts0 hown hml hK hs hret
  have hts : ∀ w ∈ lw_g, w.before args s = true := fun w h => hts0 w (List.mem_cons_of_mem _ h)
  show QJ p l e rm_OpenStack_push s m args below meth c (qA 367 b) b 2 0 0 Q (qWd D (enX dA b) 367 b) M 0 [(0, qr (some 5)), (1, qr (some q1))] []
  unfold f_OpenStack_push at hf
  refine qj_aload_n hx hb d_OpenStack_push_0 rfl 0 rfl ?_
  refine qj_get hx hb hts hin_4 hown hK (q_in (rfl : tcX 5 = 5) (by decide)) (en_5 (rfl : tcX 5 = 5)) rfl 1 (by decide) (hts _ tw_9) (fun _ h => h) (qi (M.1 5 1)) rfl d_OpenStack_push_1 ?_
  refine qj_bipush (v := 24) hx hb d_OpenStack_push_4 (by decide) ?_
  refine qj_icmp_ge (tgt := 34) hx hb d_OpenStack_push_6 (by decide) (fun hc1 => ?_) (fun hc1 => ?_)
  · replace hf := q_if_t hc1 hf
    exact hret _ _ _ d_OpenStack_push_34 (Option.some.inj hf)
  · replace hf := q_if_f hc1 hf
    refine qj_aload_n hx hb d_OpenStack_push_9 rfl 0 rfl ?_
    refine qj_get hx hb hts hin_4 hown hK (q_in (rfl : tcX 5 = 5) (by decide)) (en_5 (rfl : tcX 5 = 5)) rfl 0 (by decide) (hts _ tw_10) (fun _ h => h) (qr (some 6)) rfl d_OpenStack_push_10 ?_
    refine qj_aload_n hx hb d_OpenStack_push_13 rfl 0 rfl ?_
    refine qj_get hx hb hts hin_4 hown hK (q_in (rfl : tcX 5 = 5) (by decide)) (en_5 (rfl : tcX 5 = 5)) rfl 1 (by decide) (hts _ tw_9) (fun _ h => h) (qi (M.1 5 1)) rfl d_OpenStack_push_14 ?_
    refine qj_aload_n hx hb d_OpenStack_push_17 rfl 1 rfl ?_
    have hf9 := q_ix_s hf; clear hf; obtain ⟨hi2, hf⟩ := hf9
    have hf9 := q_lt_s hf; clear hf; obtain ⟨M3, eM3, hf⟩ := hf9
    refine qj_aast (t0 := 3) (ci := 3) hx hb hK (q_in (rfl : tcX 6 = 6) (by decide)) (en_6 (rfl : tcX 6 = 6)) rfl rfl (fun q hq => ⟨q_in ((q_ts tq1) q hq) (by decide), _, en_7 ((q_ts tq1) q hq)⟩) hi2 (fun o h => ((q_ts tq1) o h).trans (by rw [(rfl : tcX 6 = 6)] <;> rfl)) eM3 d_OpenStack_push_18 ?_
    refine qj_aload_n hx hb d_OpenStack_push_19 rfl 0 rfl ?_
    refine qj_dup hx hb d_OpenStack_push_20 ?_
    refine qj_get hx hb hts hin_4 hown hK (q_in (rfl : tcX 5 = 5) (by decide)) (en_5 (rfl : tcX 5 = 5)) rfl 1 (by decide) (hts _ tw_9) (fun _ h => h) (qi (M3.1 5 1)) rfl d_OpenStack_push_21 ?_
    refine qj_iconst (v := 1) hx hb d_OpenStack_push_24 (by decide) ?_
    refine qj_iadd hx hb d_OpenStack_push_25 ?_
    have hf9 := q_lt_s hf; clear hf; obtain ⟨M4, eM4, hf⟩ := hf9
    refine qj_puti (ty := .int) hx hb hts hin_4 ty_4 tyok_4 nm_4 hown hK (q_in (rfl : tcX 5 = 5) (by decide)) (en_5 (rfl : tcX 5 = 5)) rfl 1 (by decide) (hts _ tw_9) (fun _ h => h) rfl (by decide +kernel) rfl rfl (Nat.le_of_ble_eq_true rfl) (sp_5_1 (rfl : tcX 5 = 5)) eM4 d_OpenStack_push_26 ?_
    refine qj_aload_n hx hb d_OpenStack_push_29 rfl 1 rfl ?_
    refine qj_iconst (v := 1) hx hb d_OpenStack_push_30 (by decide) ?_
    have hf9 := q_lt_s hf; clear hf; obtain ⟨M5, eM5, hf⟩ := hf9
    refine qj_puti (ty := .boolean) hx hb hts hin_3 ty_3 tyok_3 nm_3 hown hK (q_in tq1 (by decide)) (en_7 tq1) rfl 3 (by decide) (hts _ tw_53) (fun _ h => h) rfl (by decide +kernel) rfl rfl (Nat.le_of_ble_eq_true rfl) (sp_7_3 tq1) eM5 d_OpenStack_push_31 ?_
    exact hret _ _ _ d_OpenStack_push_34 (Option.some.inj hf)
theorem d_Tree_renew_0 : decode prog_11_method_14_code 0 = .ok (.aload_n 0, 1) := by decide +kernel
theorem d_Tree_renew_1 : decode prog_11_method_14_code 1 = .ok (.invokevirtual 114, 3) := by decide +kernel
theorem d_Tree_renew_4 : decode prog_11_method_14_code 4 = .ok (.astore_n 1, 1) := by decide +kernel
theorem d_Tree_renew_5 : decode prog_11_method_14_code 5 = .ok (.aload_n 1, 1) := by decide +kernel
theorem d_Tree_renew_6 : decode prog_11_method_14_code 6 = .ok (.invokevirtual 209, 3) := by decide +kernel
theorem d_Tree_renew_9 : decode prog_11_method_14_code 9 = .ok (.istore_n 2, 1) := by decide +kernel
theorem d_Tree_renew_10 : decode prog_11_method_14_code 10 = .ok (.iload_n 2, 1) := by decide +kernel
theorem d_Tree_renew_11 : decode prog_11_method_14_code 11 = .ok (.aload_n 1, 1) := by decide +kernel
theorem d_Tree_renew_12 : decode prog_11_method_14_code 12 = .ok (.getfield 213, 3) := by decide +kernel
theorem d_Tree_renew_15 : decode prog_11_method_14_code 15 = .ok (.if_icmp .ge 64, 3) := by decide +kernel
theorem d_Tree_renew_18 : decode prog_11_method_14_code 18 = .ok (.aload_n 0, 1) := by decide +kernel
theorem d_Tree_renew_19 : decode prog_11_method_14_code 19 = .ok (.aload_n 1, 1) := by decide +kernel
theorem d_Tree_renew_20 : decode prog_11_method_14_code 20 = .ok (.getfield 214, 3) := by decide +kernel
theorem d_Tree_renew_23 : decode prog_11_method_14_code 23 = .ok (.iload_n 2, 1) := by decide +kernel
theorem d_Tree_renew_24 : decode prog_11_method_14_code 24 = .ok (.aaload, 1) := by decide +kernel
theorem d_Tree_renew_25 : decode prog_11_method_14_code 25 = .ok (.getfield 177, 3) := by decide +kernel
theorem d_Tree_renew_28 : decode prog_11_method_14_code 28 = .ok (.aload_n 1, 1) := by decide +kernel
theorem d_Tree_renew_29 : decode prog_11_method_14_code 29 = .ok (.getfield 214, 3) := by decide +kernel
theorem d_Tree_renew_32 : decode prog_11_method_14_code 32 = .ok (.iload_n 2, 1) := by decide +kernel
theorem d_Tree_renew_33 : decode prog_11_method_14_code 33 = .ok (.aaload, 1) := by decide +kernel
theorem d_Tree_renew_34 : decode prog_11_method_14_code 34 = .ok (.getfield 180, 3) := by decide +kernel
theorem d_Tree_renew_37 : decode prog_11_method_14_code 37 = .ok (.invokevirtual 183, 3) := by decide +kernel
theorem d_Tree_renew_40 : decode prog_11_method_14_code 40 = .ok (.astore_n 3, 1) := by decide +kernel
theorem d_Tree_renew_41 : decode prog_11_method_14_code 41 = .ok (.aload_n 3, 1) := by decide +kernel
theorem d_Tree_renew_42 : decode prog_11_method_14_code 42 = .ok (.ifnonnull 4, 3) := by decide +kernel
theorem d_Tree_renew_45 : decode prog_11_method_14_code 45 = .ok (.return_, 1) := by decide +kernel
theorem d_Tree_renew_46 : decode prog_11_method_14_code 46 = .ok (.aload_n 0, 1) := by decide +kernel
theorem d_Tree_renew_47 : decode prog_11_method_14_code 47 = .ok (.aload_n 3, 1) := by decide +kernel
theorem d_Tree_renew_48 : decode prog_11_method_14_code 48 = .ok (.aload_n 0, 1) := by decide +kernel
theorem d_Tree_renew_49 : decode prog_11_method_14_code 49 = .ok (.getfield 29, 3) := by decide +kernel
theorem d_Tree_renew_52 : decode prog_11_method_14_code 52 = .ok (.getfield 54, 3) := by decide +kernel
theorem d_Tree_renew_55 : decode prog_11_method_14_code 55 = .ok (.invokevirtual 173, 3) := by decide +kernel
theorem d_Tree_renew_58 : decode prog_11_method_14_code 58 = .ok (.aload_n 0, 1) := by decide +kernel
theorem d_Tree_renew_59 : decode prog_11_method_14_code 59 = .ok (.getfield 29, 3) := by decide +kernel
theorem d_Tree_renew_62 : decode prog_11_method_14_code 62 = .ok (.aload_n 3, 1) := by decide +kernel
theorem d_Tree_renew_63 : decode prog_11_method_14_code 63 = .ok (.invokevirtual 57, 3) := by decide +kernel
theorem d_Tree_renew_66 : decode prog_11_method_14_code 66 = .ok (.aload_n 1, 1) := by decide +kernel
theorem d_Tree_renew_67 : decode prog_11_method_14_code 67 = .ok (.getfield 214, 3) := by decide +kernel
theorem d_Tree_renew_70 : decode prog_11_method_14_code 70 = .ok (.iload_n 2, 1) := by decide +kernel
theorem d_Tree_renew_71 : decode prog_11_method_14_code 71 = .ok (.aload_n 3, 1) := by decide +kernel
theorem d_Tree_renew_72 : decode prog_11_method_14_code 72 = .ok (.aastore, 1) := by decide +kernel
theorem d_Tree_renew_73 : decode prog_11_method_14_code 73 = .ok (.iinc 2 1, 3) := by decide +kernel
theorem d_Tree_renew_76 : decode prog_11_method_14_code 76 = .ok (.goto (-66), 3) := by decide +kernel
theorem d_Tree_renew_79 : decode prog_11_method_14_code 79 = .ok (.return_, 1) := by decide +kernel
def f_Tree_renew_10 (o2 : Nat) : Nat → (qM → Option qM) → Int32 → qM → Option qM
  | 0, _, _, _ => none
  | n + 1, K6, x4, M5 => if (M5.1 o2 1) ≤ x4 then (K6 M5) else (q_ix x4 4 <| q_lt (M5.2 (o2 + 1) x4.toNatClampNeg) fun r9 => q_nn r9 fun o10 => q_ix x4 4 <| q_lt (M5.2 (o2 + 1) x4.toNatClampNeg) fun r12 => q_nn r12 fun o13 => q_cl (f_Tree_make (M5.1 o10 0) (M5.1 o13 1) M5) fun r14 M15 => q_on r14 (some M15) fun o16 => (q_cv (f_Tree_putAtPlace o16 (M15.1 5 1) M15) fun M17 => q_cv (f_OpenStack_push o16 M17) fun M18 => q_ix x4 4 <| q_lt (qsR M18 (o2 + 1) x4.toNatClampNeg (some o16)) fun M20 => f_Tree_renew_10 o2 n K6 (x4 + 1) M20))
def f_Tree_renew  (M : qM) : Option qM := q_bp (f_Tree_theList M) fun r1 => q_nn r1 fun o2 => q_bp (f_FormattingList_behindLastOpen o2 M) fun x3 => f_Tree_renew_10 o2 1000 (fun (M22 : qM) => some M22) x3 M
abbrev rm_Tree_renew : Room := { frames := 2, cells := 0, slots := 0, locals := 45 }
set_option maxRecDepth 100000 in
set_option maxHeartbeats 4000000 in
theorem c_Tree_renew {l : Launch} {D : va_G} {dA : Nat → ClassId} {b : Nat} {adK adV : Nat → Nat}   (M : qM) (out : qM) (hf : f_Tree_renew M = some out) : CTv l y_Tree_renew w_Tree_renew rm_Tree_renew D (tysX dA) (enX dA b) 367 b (qX adK adV 367 b) [qr (some 1)] M out := by
  refine qm_v (cc := prog_11_method_14_code) (nL := 4) (by decide) rfl (Nat.le_of_ble_eq_true rfl) ?_
  intro p e s m args below meth c Q hx hb hts0 hown hml hK hs hret
  have hts : ∀ w ∈ lw_g, w.before args s = true := fun w h => hts0 w (List.mem_cons_of_mem _ h)
  show QJ p l e rm_Tree_renew s m args below meth c (qA 367 b) b 4 0 0 Q (qWd D (enX dA b) 367 b) M 0 [(0, qr (some 1))] []
  unfold f_Tree_renew at hf
  refine qj_aload_n hx hb d_Tree_renew_0 rfl 0 rfl ?_
  have hf9 := q_bp_s hf; clear hf; obtain ⟨r1, hr1, hf⟩ := hf9
  refine qc_Vr (st := []) hx hb hml hown hts hK (qX_ok _ _ _ _) hs (c_Tree_theList  M _ hr1) ⟨(callB_of 0 hts (q_good tw_55) rfl rfl rfl (hts _ tw_54) (hts _ tw_56) (by decide +kernel) ⟨by decide, by decide⟩), (hts _ tw_57), (hts _ tw_58)⟩ (q_in (rfl : tcX 1 = 1) (by decide)) (en_1 (rfl : tcX 1 = 1)) rfl rfl rfl (Nat.le_of_ble_eq_true rfl) d_Tree_renew_1 (fun tr1 => ?_)
  refine qj_astore_n hx hb d_Tree_renew_4 rfl (by decide) rfl ?_
  refine qj_aload_n hx hb d_Tree_renew_5 rfl 0 rfl ?_
  have hf9 := q_nn_s hf; clear hf; obtain ⟨o2, rfl, hf⟩ := hf9
  have hf9 := q_bp_s hf; clear hf; obtain ⟨x3, hx3, hf⟩ := hf9
  refine qc_Vi (st := []) hx hb hml hown hts hK (qX_ok _ _ _ _) hs (c_FormattingList_behindLastOpen o2 (tr1 _ rfl) M _ hx3) ⟨(callB_of 0 hts (q_good tw_60) rfl rfl rfl (hts _ tw_59) (hts _ tw_61) (by decide +kernel) ⟨by decide, by decide⟩), (hts _ tw_62), (hts _ tw_63)⟩ (q_in (tr1 _ rfl) (by decide)) (en_8 (tr1 _ rfl)) rfl rfl rfl (Nat.le_of_ble_eq_true rfl) d_Tree_renew_6 ?_
  refine qj_istore_n hx hb d_Tree_renew_9 rfl (by decide) rfl ?_
  have hL10 : ∀ (n : Nat) (K6 : qM → Option qM), (∀ (M22 : qM), K6 M22 = some out → QJ p l e rm_Tree_renew s m args below meth c (qA 367 b) b 4 0 0 Q (qWd D (enX dA b) 367 b) M22 79 [] []) → ∀ (x4 : Int32) (M5 : qM), f_Tree_renew_10 o2 n K6 x4 M5 = some out → QJ p l e rm_Tree_renew s m args below meth c (qA 367 b) b 4 0 0 Q (qWd D (enX dA b) 367 b) M5 10 [(0, qr (some 1)), (1, qr (some o2)), (2, qi x4)] [] := by
    clear hf
    intro n
    induction n with
    | zero =>
      intro K6 hK6 x4 M5 hf
      exact absurd hf (by simp [f_Tree_renew_10])
    | succ n ih10 =>
      intro K6 hK6 x4 M5 hf
      rw [f_Tree_renew_10] at hf
      have ih10 := ih10 K6 hK6
      refine qj_iload_n hx hb d_Tree_renew_10 rfl 2 rfl ?_
      refine qj_aload_n hx hb d_Tree_renew_11 rfl 1 rfl ?_
      refine qj_get hx hb hts hin_1 hown hK (q_in (tr1 _ rfl) (by decide)) (en_8 (tr1 _ rfl)) rfl 1 (by decide) (hts _ tw_64) (fun _ h => h) (qi (M5.1 o2 1)) rfl d_Tree_renew_12 ?_
      refine qj_icmp_ge (tgt := 79) hx hb d_Tree_renew_15 (by decide) (fun hc7 => ?_) (fun hc7 => ?_)
      · replace hf := q_if_t hc7 hf
        refine qj_sub [] rfl ?_
        exact hK6 M5 hf
      · replace hf := q_if_f hc7 hf
        refine qj_aload_n hx hb d_Tree_renew_18 rfl 0 rfl ?_
        refine qj_aload_n hx hb d_Tree_renew_19 rfl 1 rfl ?_
        refine qj_get hx hb hts hin_1 hown hK (q_in (tr1 _ rfl) (by decide)) (en_8 (tr1 _ rfl)) rfl 0 (by decide) (hts _ tw_65) (fun _ h => h) (qr (some (o2 + 1))) rfl d_Tree_renew_20 ?_
        refine qj_iload_n hx hb d_Tree_renew_23 rfl 2 rfl ?_
        have hf9 := q_ix_s hf; clear hf; obtain ⟨hi8, hf⟩ := hf9
        have hf9 := q_lt_s hf; clear hf; obtain ⟨r9, er9, hf⟩ := hf9
        refine qj_w fun w => ?_
        have tr9 : ∀ o, r9 = some o → tcX o = 7 := fun o h => (w _ _ o (er9.symm.trans h)).trans (by rw [(tc_8_1 (tr1 _ rfl))] <;> rfl)
        refine qj_aald (t0 := 3) (f := M5.2 (o2 + 1)) hx hb hK (q_in (tc_8_1 (tr1 _ rfl)) (by decide)) (en_9 (tc_8_1 (tr1 _ rfl)) _ _) rfl hi8 d_Tree_renew_24 ?_
        rw [← er9]
        have hf9 := q_nn_s hf; clear hf; obtain ⟨o10, rfl, hf⟩ := hf9
        refine qj_get hx hb hts hin_3 hown hK (q_in (tr9 _ rfl) (by decide)) (en_7 (tr9 _ rfl)) rfl 0 (by decide) (hts _ tw_66) (fun _ h => h) (qi (M5.1 o10 0)) rfl d_Tree_renew_25 ?_
        refine qj_aload_n hx hb d_Tree_renew_28 rfl 1 rfl ?_
        refine qj_get hx hb hts hin_1 hown hK (q_in (tr1 _ rfl) (by decide)) (en_8 (tr1 _ rfl)) rfl 0 (by decide) (hts _ tw_65) (fun _ h => h) (qr (some (o2 + 1))) rfl d_Tree_renew_29 ?_
        refine qj_iload_n hx hb d_Tree_renew_32 rfl 2 rfl ?_
        have hf9 := q_ix_s hf; clear hf; obtain ⟨hi11, hf⟩ := hf9
        have hf9 := q_lt_s hf; clear hf; obtain ⟨r12, er12, hf⟩ := hf9
        refine qj_w fun w => ?_
        have tr12 : ∀ o, r12 = some o → tcX o = 7 := fun o h => (w _ _ o (er12.symm.trans h)).trans (by rw [(tc_8_1 (tr1 _ rfl))] <;> rfl)
        refine qj_aald (t0 := 3) (f := M5.2 (o2 + 1)) hx hb hK (q_in (tc_8_1 (tr1 _ rfl)) (by decide)) (en_9 (tc_8_1 (tr1 _ rfl)) _ _) rfl hi11 d_Tree_renew_33 ?_
        rw [← er12]
        have hf9 := q_nn_s hf; clear hf; obtain ⟨o13, rfl, hf⟩ := hf9
        refine qj_get hx hb hts hin_3 hown hK (q_in (tr12 _ rfl) (by decide)) (en_7 (tr12 _ rfl)) rfl 1 (by decide) (hts _ tw_67) (fun _ h => h) (qi (M5.1 o13 1)) rfl d_Tree_renew_34 ?_
        have hf9 := q_cl_s hf; clear hf; obtain ⟨r14, M15, hr14, hf⟩ := hf9
        refine qc_Vr (st := []) hx hb hml hown hts hK (qX_ok _ _ _ _) hs (c_Tree_make (M5.1 o10 0) (M5.1 o13 1) M5 _ hr14) ⟨(callB_of 2 hts (q_good tw_68) rfl rfl rfl (hts _ tw_54) (hts _ tw_69) (by decide +kernel) ⟨by decide, by decide⟩), (hts _ tw_70), (hts _ tw_71)⟩ (q_in (rfl : tcX 1 = 1) (by decide)) (en_1 (rfl : tcX 1 = 1)) rfl rfl rfl (Nat.le_of_ble_eq_true rfl) d_Tree_renew_37 (fun tr14 => ?_)
        refine qj_astore_n hx hb d_Tree_renew_40 rfl (by decide) rfl ?_
        refine qj_aload_n hx hb d_Tree_renew_41 rfl 0 rfl ?_
        refine qj_ifnonnull (tgt := 46) hx hb d_Tree_renew_42 (by decide) (fun o16 hn21 => ?_) (fun hn21 => ?_)
        · subst hn21
          replace hf := q_on_s hf
          refine qj_aload_n hx hb d_Tree_renew_46 rfl 1 rfl ?_
          refine qj_aload_n hx hb d_Tree_renew_47 rfl 0 rfl ?_
          refine qj_aload_n hx hb d_Tree_renew_48 rfl 1 rfl ?_
          refine qj_get hx hb hts hin_5 hown hK (q_in (rfl : tcX 1 = 1) (by decide)) (en_1 (rfl : tcX 1 = 1)) rfl 3 (by decide) (hts _ tw_12) (fun _ h => h) (qr (some 5)) rfl d_Tree_renew_49 ?_
          refine qj_get hx hb hts hin_4 hown hK (q_in (rfl : tcX 5 = 5) (by decide)) (en_5 (rfl : tcX 5 = 5)) rfl 1 (by decide) (hts _ tw_72) (fun _ h => h) (qi (M15.1 5 1)) rfl d_Tree_renew_52 ?_
          have hf9 := q_cv_s hf; clear hf; obtain ⟨M17, hM17, hf⟩ := hf9
          refine qc_Vv (st := []) hx hb hml hown hts hK (qX_ok _ _ _ _) hs (c_Tree_putAtPlace o16 (M15.1 5 1) (tr14 _ rfl) M15 _ hM17) ⟨(callB_of 2 hts (q_good tw_73) rfl rfl rfl (hts _ tw_54) (hts _ tw_74) (by decide +kernel) ⟨by decide, by decide⟩), (hts _ tw_75), (hts _ tw_76)⟩ (q_in (rfl : tcX 1 = 1) (by decide)) (en_1 (rfl : tcX 1 = 1)) rfl rfl rfl (Nat.le_of_ble_eq_true rfl) d_Tree_renew_55 ?_
          refine qj_aload_n hx hb d_Tree_renew_58 rfl 1 rfl ?_
          refine qj_get hx hb hts hin_5 hown hK (q_in (rfl : tcX 1 = 1) (by decide)) (en_1 (rfl : tcX 1 = 1)) rfl 3 (by decide) (hts _ tw_12) (fun _ h => h) (qr (some 5)) rfl d_Tree_renew_59 ?_
          refine qj_aload_n hx hb d_Tree_renew_62 rfl 0 rfl ?_
          have hf9 := q_cv_s hf; clear hf; obtain ⟨M18, hM18, hf⟩ := hf9
          refine qc_Vv (st := []) hx hb hml hown hts hK (qX_ok _ _ _ _) hs (c_OpenStack_push o16 (tr14 _ rfl) M17 _ hM18) ⟨(callB_of 1 hts (q_good tw_77) rfl rfl rfl (hts _ tw_13) (hts _ tw_78) (by decide +kernel) ⟨by decide, by decide⟩), (hts _ tw_79), (hts _ tw_80)⟩ (q_in (rfl : tcX 5 = 5) (by decide)) (en_5 (rfl : tcX 5 = 5)) rfl rfl rfl (Nat.le_of_ble_eq_true rfl) d_Tree_renew_63 ?_
          refine qj_aload_n hx hb d_Tree_renew_66 rfl 2 rfl ?_
          refine qj_get hx hb hts hin_1 hown hK (q_in (tr1 _ rfl) (by decide)) (en_8 (tr1 _ rfl)) rfl 0 (by decide) (hts _ tw_65) (fun _ h => h) (qr (some (o2 + 1))) rfl d_Tree_renew_67 ?_
          refine qj_iload_n hx hb d_Tree_renew_70 rfl 3 rfl ?_
          refine qj_aload_n hx hb d_Tree_renew_71 rfl 0 rfl ?_
          have hf9 := q_ix_s hf; clear hf; obtain ⟨hi19, hf⟩ := hf9
          have hf9 := q_lt_s hf; clear hf; obtain ⟨M20, eM20, hf⟩ := hf9
          refine qj_aast (t0 := 3) (ci := 3) hx hb hK (q_in (tc_8_1 (tr1 _ rfl)) (by decide)) (en_9 (tc_8_1 (tr1 _ rfl))) rfl rfl (fun q hq => ⟨q_in ((q_ts (tr14 _ rfl)) q hq) (by decide), _, en_7 ((q_ts (tr14 _ rfl)) q hq)⟩) hi19 (fun o h => ((q_ts (tr14 _ rfl)) o h).trans (by rw [(tc_8_1 (tr1 _ rfl))] <;> rfl)) eM20 d_Tree_renew_72 ?_
          refine qj_iinc (j := 3) (v := x4 + 1) hx hb d_Tree_renew_73 rfl rfl (by decide) rfl ?_
          refine qj_goto (tgt := 10) hx hb d_Tree_renew_76 (by decide) ?_
          refine qj_sub [2, 3, 0] rfl ?_
          exact ih10 (x4 + 1) M20 hf
        · subst hn21
          replace hf := q_on_n hf
          exact hret _ _ _ d_Tree_renew_45 (Option.some.inj hf)
  refine qj_sub [2, 1, 0] rfl ?_
  refine hL10 _ _ (fun M22 hf9 => ?_) x3 M hf
  clear hf; have hf := hf9; clear hf9
  exact hret _ _ _ d_Tree_renew_79 (Option.some.inj hf)
theorem d_OpenStack_top_0 : decode prog_7_method_3_code 0 = .ok (.aload_n 0, 1) := by decide +kernel
theorem d_OpenStack_top_1 : decode prog_7_method_3_code 1 = .ok (.getfield 11, 3) := by decide +kernel
theorem d_OpenStack_top_4 : decode prog_7_method_3_code 4 = .ok (.aload_n 0, 1) := by decide +kernel
theorem d_OpenStack_top_5 : decode prog_7_method_3_code 5 = .ok (.getfield 17, 3) := by decide +kernel
theorem d_OpenStack_top_8 : decode prog_7_method_3_code 8 = .ok (.iconst 1, 1) := by decide +kernel
theorem d_OpenStack_top_9 : decode prog_7_method_3_code 9 = .ok (.isub, 1) := by decide +kernel
theorem d_OpenStack_top_10 : decode prog_7_method_3_code 10 = .ok (.aaload, 1) := by decide +kernel
theorem d_OpenStack_top_11 : decode prog_7_method_3_code 11 = .ok (.areturn, 1) := by decide +kernel
def f_OpenStack_top  (M : qM) : Option (Option Nat) := q_ix ((M.1 5 1) - 1) 24 <| q_lt (M.2 6 ((M.1 5 1) - 1).toNatClampNeg) fun r2 => some r2
abbrev rm_OpenStack_top : Room := { frames := 0, cells := 0, slots := 0, locals := 0 }
set_option maxRecDepth 100000 in
set_option maxHeartbeats 4000000 in
theorem c_OpenStack_top {l : Launch} {D : va_G} {dA : Nat → ClassId} {b : Nat} {adK adV : Nat → Nat}   (M : qM) (out : Option Nat) (hf : f_OpenStack_top M = some out) : CTr l y_OpenStack_top w_OpenStack_top rm_OpenStack_top D (tysX dA) (enX dA b) 367 b (qX adK adV 367 b) 7 [qr (some 5)] M (out, M) := by
  refine qm_r (tt := 7) (cc := prog_7_method_3_code) (nL := 1) (by decide) rfl (Or.inl ⟨_, rfl⟩) (Nat.le_of_ble_eq_true rfl) ?_
  intro p e s m args below meth c Q hx hb hts0 hown hml hK hs hret
  have hts : ∀ w ∈ lw_g, w.before args s = true := fun w h => hts0 w (List.mem_cons_of_mem _ h)
  show QJ p l e rm_OpenStack_top s m args below meth c (qA 367 b) b 1 0 0 Q (qWd D (enX dA b) 367 b) M 0 [(0, qr (some 5))] []
  unfold f_OpenStack_top at hf
  refine qj_aload_n hx hb d_OpenStack_top_0 rfl 0 rfl ?_
  refine qj_get hx hb hts hin_4 hown hK (q_in (rfl : tcX 5 = 5) (by decide)) (en_5 (rfl : tcX 5 = 5)) rfl 0 (by decide) (hts _ tw_10) (fun _ h => h) (qr (some 6)) rfl d_OpenStack_top_1 ?_
  refine qj_aload_n hx hb d_OpenStack_top_4 rfl 0 rfl ?_
  refine qj_get hx hb hts hin_4 hown hK (q_in (rfl : tcX 5 = 5) (by decide)) (en_5 (rfl : tcX 5 = 5)) rfl 1 (by decide) (hts _ tw_9) (fun _ h => h) (qi (M.1 5 1)) rfl d_OpenStack_top_5 ?_
  refine qj_iconst (v := 1) hx hb d_OpenStack_top_8 (by decide) ?_
  refine qj_isub hx hb d_OpenStack_top_9 ?_
  have hf9 := q_ix_s hf; clear hf; obtain ⟨hi1, hf⟩ := hf9
  have hf9 := q_lt_s hf; clear hf; obtain ⟨r2, er2, hf⟩ := hf9
  refine qj_w fun w => ?_
  have tr2 : ∀ o, r2 = some o → tcX o = 7 := fun o h => (w _ _ o (er2.symm.trans h)).trans (by rw [(rfl : tcX 6 = 6)] <;> rfl)
  refine qj_aald (t0 := 3) (f := M.2 6) hx hb hK (q_in (rfl : tcX 6 = 6) (by decide)) (en_6 (rfl : tcX 6 = 6) _ _) rfl hi1 d_OpenStack_top_10 ?_
  rw [← er2]
  exact hret _ _ _ _ tr2 d_OpenStack_top_11 (congrArg (fun z => (z, M)) (Option.some.inj hf))
theorem d_Tree_nodeBeforePlace_0 : decode prog_11_method_15_code 0 = .ok (.aload_n 0, 1) := by decide +kernel
theorem d_Tree_nodeBeforePlace_1 : decode prog_11_method_15_code 1 = .ok (.getfield 29, 3) := by decide +kernel
theorem d_Tree_nodeBeforePlace_4 : decode prog_11_method_15_code 4 = .ok (.aload_n 0, 1) := by decide +kernel
theorem d_Tree_nodeBeforePlace_5 : decode prog_11_method_15_code 5 = .ok (.getfield 29, 3) := by decide +kernel
theorem d_Tree_nodeBeforePlace_8 : decode prog_11_method_15_code 8 = .ok (.getfield 54, 3) := by decide +kernel
theorem d_Tree_nodeBeforePlace_11 : decode prog_11_method_15_code 11 = .ok (.invokevirtual 192, 3) := by decide +kernel
theorem d_Tree_nodeBeforePlace_14 : decode prog_11_method_15_code 14 = .ok (.astore_n 1, 1) := by decide +kernel
theorem d_Tree_nodeBeforePlace_15 : decode prog_11_method_15_code 15 = .ok (.aload_n 1, 1) := by decide +kernel
theorem d_Tree_nodeBeforePlace_16 : decode prog_11_method_15_code 16 = .ok (.ifnonnull 16, 3) := by decide +kernel
theorem d_Tree_nodeBeforePlace_19 : decode prog_11_method_15_code 19 = .ok (.aload_n 0, 1) := by decide +kernel
theorem d_Tree_nodeBeforePlace_20 : decode prog_11_method_15_code 20 = .ok (.getfield 29, 3) := by decide +kernel
theorem d_Tree_nodeBeforePlace_23 : decode prog_11_method_15_code 23 = .ok (.invokevirtual 217, 3) := by decide +kernel
theorem d_Tree_nodeBeforePlace_26 : decode prog_11_method_15_code 26 = .ok (.getfield 220, 3) := by decide +kernel
theorem d_Tree_nodeBeforePlace_29 : decode prog_11_method_15_code 29 = .ok (.goto 7, 3) := by decide +kernel
theorem d_Tree_nodeBeforePlace_32 : decode prog_11_method_15_code 32 = .ok (.aload_n 1, 1) := by decide +kernel
theorem d_Tree_nodeBeforePlace_33 : decode prog_11_method_15_code 33 = .ok (.getfield 223, 3) := by decide +kernel
theorem d_Tree_nodeBeforePlace_36 : decode prog_11_method_15_code 36 = .ok (.areturn, 1) := by decide +kernel
def f_Tree_nodeBeforePlace  (M : qM) : Option (Option Nat) := q_bp (f_OpenStack_tableUnderTop (M.1 5 1) M) fun r1 => q_on r1 (q_bp (f_OpenStack_top M) fun r3 => q_nn r3 fun o4 => q_lt (M.2 o4 6) fun r5 => some r5) fun o2 => (q_lt (M.2 o2 7) fun r6 => some r6)
abbrev rm_Tree_nodeBeforePlace : Room := { frames := 1, cells := 0, slots := 0, locals := 22 }
set_option maxRecDepth 100000 in
set_option maxHeartbeats 4000000 in
theorem c_Tree_nodeBeforePlace {l : Launch} {D : va_G} {dA : Nat → ClassId} {b : Nat} {adK adV : Nat → Nat}   (M : qM) (out : Option Nat) (hf : f_Tree_nodeBeforePlace M = some out) : CTr l y_Tree_nodeBeforePlace w_Tree_nodeBeforePlace rm_Tree_nodeBeforePlace D (tysX dA) (enX dA b) 367 b (qX adK adV 367 b) 7 [qr (some 1)] M (out, M) := by
  refine qm_r (tt := 7) (cc := prog_11_method_15_code) (nL := 2) (by decide) rfl (Or.inl ⟨_, rfl⟩) (Nat.le_of_ble_eq_true rfl) ?_
  intro p e s m args below meth c Q hx hb hts0 hown hml hK hs hret
  have hts : ∀ w ∈ lw_g, w.before args s = true := fun w h => hts0 w (List.mem_cons_of_mem _ h)
  show QJ p l e rm_Tree_nodeBeforePlace s m args below meth c (qA 367 b) b 2 0 0 Q (qWd D (enX dA b) 367 b) M 0 [(0, qr (some 1))] []
  unfold f_Tree_nodeBeforePlace at hf
  refine qj_aload_n hx hb d_Tree_nodeBeforePlace_0 rfl 0 rfl ?_
  refine qj_get hx hb hts hin_5 hown hK (q_in (rfl : tcX 1 = 1) (by decide)) (en_1 (rfl : tcX 1 = 1)) rfl 3 (by decide) (hts _ tw_12) (fun _ h => h) (qr (some 5)) rfl d_Tree_nodeBeforePlace_1 ?_
  refine qj_aload_n hx hb d_Tree_nodeBeforePlace_4 rfl 0 rfl ?_
  refine qj_get hx hb hts hin_5 hown hK (q_in (rfl : tcX 1 = 1) (by decide)) (en_1 (rfl : tcX 1 = 1)) rfl 3 (by decide) (hts _ tw_12) (fun _ h => h) (qr (some 5)) rfl d_Tree_nodeBeforePlace_5 ?_
  refine qj_get hx hb hts hin_4 hown hK (q_in (rfl : tcX 5 = 5) (by decide)) (en_5 (rfl : tcX 5 = 5)) rfl 1 (by decide) (hts _ tw_72) (fun _ h => h) (qi (M.1 5 1)) rfl d_Tree_nodeBeforePlace_8 ?_
  have hf9 := q_bp_s hf; clear hf; obtain ⟨r1, hr1, hf⟩ := hf9
  refine qc_Vr (st := []) hx hb hml hown hts hK (qX_ok _ _ _ _) hs (c_OpenStack_tableUnderTop (M.1 5 1) M _ hr1) ⟨(callB_of 1 hts (q_good tw_43) rfl rfl rfl (hts _ tw_13) (hts _ tw_44) (by decide +kernel) ⟨by decide, by decide⟩), (hts _ tw_45), (hts _ tw_46)⟩ (q_in (rfl : tcX 5 = 5) (by decide)) (en_5 (rfl : tcX 5 = 5)) rfl rfl rfl (Nat.le_of_ble_eq_true rfl) d_Tree_nodeBeforePlace_11 (fun tr1 => ?_)
  refine qj_astore_n hx hb d_Tree_nodeBeforePlace_14 rfl (by decide) rfl ?_
  refine qj_aload_n hx hb d_Tree_nodeBeforePlace_15 rfl 0 rfl ?_
  refine qj_ifnonnull (tgt := 32) hx hb d_Tree_nodeBeforePlace_16 (by decide) (fun o2 hn7 => ?_) (fun hn7 => ?_)
  · subst hn7
    replace hf := q_on_s hf
    refine qj_aload_n hx hb d_Tree_nodeBeforePlace_32 rfl 0 rfl ?_
    have hf9 := q_lt_s hf; clear hf; obtain ⟨r6, er6, hf⟩ := hf9
    refine qj_w fun w => ?_
    have tr6 : ∀ o, r6 = some o → tcX o = 7 := fun o h => (w _ _ o (er6.symm.trans h)).trans (by rw [(tr1 _ rfl)] <;> rfl)
    refine qj_get hx hb hts hin_3 hown hK (q_in (tr1 _ rfl) (by decide)) (en_7 (tr1 _ rfl)) rfl 7 (by decide) (hts _ tw_86) (fun _ h => h) (qr r6) (by rw [er6]; rfl) d_Tree_nodeBeforePlace_33 ?_
    exact hret _ _ _ _ tr6 d_Tree_nodeBeforePlace_36 (congrArg (fun z => (z, M)) (Option.some.inj hf))
  · subst hn7
    replace hf := q_on_n hf
    refine qj_aload_n hx hb d_Tree_nodeBeforePlace_19 rfl 1 rfl ?_
    refine qj_get hx hb hts hin_5 hown hK (q_in (rfl : tcX 1 = 1) (by decide)) (en_1 (rfl : tcX 1 = 1)) rfl 3 (by decide) (hts _ tw_12) (fun _ h => h) (qr (some 5)) rfl d_Tree_nodeBeforePlace_20 ?_
    have hf9 := q_bp_s hf; clear hf; obtain ⟨r3, hr3, hf⟩ := hf9
    refine qc_Vr (st := []) hx hb hml hown hts hK (qX_ok _ _ _ _) hs (c_OpenStack_top  M _ hr3) ⟨(callB_of 0 hts (q_good tw_81) rfl rfl rfl (hts _ tw_13) (hts _ tw_82) (by decide +kernel) ⟨by decide, by decide⟩), (hts _ tw_83), (hts _ tw_84)⟩ (q_in (rfl : tcX 5 = 5) (by decide)) (en_5 (rfl : tcX 5 = 5)) rfl rfl rfl (Nat.le_of_ble_eq_true rfl) d_Tree_nodeBeforePlace_23 (fun tr3 => ?_)
    have hf9 := q_nn_s hf; clear hf; obtain ⟨o4, rfl, hf⟩ := hf9
    have hf9 := q_lt_s hf; clear hf; obtain ⟨r5, er5, hf⟩ := hf9
    refine qj_w fun w => ?_
    have tr5 : ∀ o, r5 = some o → tcX o = 7 := fun o h => (w _ _ o (er5.symm.trans h)).trans (by rw [(tr3 _ rfl)] <;> rfl)
    refine qj_get hx hb hts hin_3 hown hK (q_in (tr3 _ rfl) (by decide)) (en_7 (tr3 _ rfl)) rfl 6 (by decide) (hts _ tw_85) (fun _ h => h) (qr r5) (by rw [er5]; rfl) d_Tree_nodeBeforePlace_26 ?_
    refine qj_goto (tgt := 36) hx hb d_Tree_nodeBeforePlace_29 (by decide) ?_
    exact hret _ _ _ _ tr5 d_Tree_nodeBeforePlace_36 (congrArg (fun z => (z, M)) (Option.some.inj hf))
theorem d_Tree_putNew_0 : decode prog_11_method_16_code 0 = .ok (.aload_n 0, 1) := by decide +kernel
theorem d_Tree_putNew_1 : decode prog_11_method_16_code 1 = .ok (.iload_n 1, 1) := by decide +kernel
theorem d_Tree_putNew_2 : decode prog_11_method_16_code 2 = .ok (.iload_n 2, 1) := by decide +kernel
theorem d_Tree_putNew_3 : decode prog_11_method_16_code 3 = .ok (.invokevirtual 183, 3) := by decide +kernel
theorem d_Tree_putNew_6 : decode prog_11_method_16_code 6 = .ok (.astore_n 3, 1) := by decide +kernel
theorem d_Tree_putNew_7 : decode prog_11_method_16_code 7 = .ok (.aload_n 3, 1) := by decide +kernel
theorem d_Tree_putNew_8 : decode prog_11_method_16_code 8 = .ok (.ifnull 15, 3) := by decide +kernel
theorem d_Tree_putNew_11 : decode prog_11_method_16_code 11 = .ok (.aload_n 0, 1) := by decide +kernel
theorem d_Tree_putNew_12 : decode prog_11_method_16_code 12 = .ok (.aload_n 3, 1) := by decide +kernel
theorem d_Tree_putNew_13 : decode prog_11_method_16_code 13 = .ok (.aload_n 0, 1) := by decide +kernel
theorem d_Tree_putNew_14 : decode prog_11_method_16_code 14 = .ok (.getfield 29, 3) := by decide +kernel
theorem d_Tree_putNew_17 : decode prog_11_method_16_code 17 = .ok (.getfield 54, 3) := by decide +kernel
theorem d_Tree_putNew_20 : decode prog_11_method_16_code 20 = .ok (.invokevirtual 173, 3) := by decide +kernel
theorem d_Tree_putNew_23 : decode prog_11_method_16_code 23 = .ok (.aload_n 3, 1) := by decide +kernel
theorem d_Tree_putNew_24 : decode prog_11_method_16_code 24 = .ok (.areturn, 1) := by decide +kernel
def f_Tree_putNew (a1 : Int32) (a2 : Int32) (M : qM) : Option (Option Nat × qM) := q_cl (f_Tree_make a1 a2 M) fun r1 M2 => q_on r1 (some (none, M2)) fun o3 => (q_cv (f_Tree_putAtPlace o3 (M2.1 5 1) M2) fun M4 => some ((some o3), M4))
abbrev rm_Tree_putNew : Room := { frames := 2, cells := 0, slots := 0, locals := 45 }
set_option maxRecDepth 100000 in
set_option maxHeartbeats 4000000 in
theorem c_Tree_putNew {l : Launch} {D : va_G} {dA : Nat → ClassId} {b : Nat} {adK adV : Nat → Nat} (a1 : Int32) (a2 : Int32)  (M : qM) (out : Option Nat × qM) (hf : f_Tree_putNew a1 a2 M = some out) : CTr l y_Tree_putNew w_Tree_putNew rm_Tree_putNew D (tysX dA) (enX dA b) 367 b (qX adK adV 367 b) 7 [qr (some 1), qi a1, qi a2] M out := by
  refine qm_r (tt := 7) (cc := prog_11_method_16_code) (nL := 4) (by decide) rfl (Or.inl ⟨_, rfl⟩) (Nat.le_of_ble_eq_true rfl) ?_
  intro p e s m args below meth c Q hx hb hts0 hown hml hK hs hret
  have hts : ∀ w ∈ lw_g, w.before args s = true := fun w h => hts0 w (List.mem_cons_of_mem _ h)
  show QJ p l e rm_Tree_putNew s m args below meth c (qA 367 b) b 4 0 0 Q (qWd D (enX dA b) 367 b) M 0 [(0, qr (some 1)), (1, qi a1), (2, qi a2)] []
  unfold f_Tree_putNew at hf
  refine qj_aload_n hx hb d_Tree_putNew_0 rfl 0 rfl ?_
  refine qj_iload_n hx hb d_Tree_putNew_1 rfl 1 rfl ?_
  refine qj_iload_n hx hb d_Tree_putNew_2 rfl 2 rfl ?_
  have hf9 := q_cl_s hf; clear hf; obtain ⟨r1, M2, hr1, hf⟩ := hf9
  refine qc_Vr (st := []) hx hb hml hown hts hK (qX_ok _ _ _ _) hs (c_Tree_make a1 a2 M _ hr1) ⟨(callB_of 2 hts (q_good tw_68) rfl rfl rfl (hts _ tw_54) (hts _ tw_69) (by decide +kernel) ⟨by decide, by decide⟩), (hts _ tw_70), (hts _ tw_71)⟩ (q_in (rfl : tcX 1 = 1) (by decide)) (en_1 (rfl : tcX 1 = 1)) rfl rfl rfl (Nat.le_of_ble_eq_true rfl) d_Tree_putNew_3 (fun tr1 => ?_)
  refine qj_astore_n hx hb d_Tree_putNew_6 rfl (by decide) rfl ?_
  refine qj_aload_n hx hb d_Tree_putNew_7 rfl 0 rfl ?_
  refine qj_ifnull (tgt := 23) hx hb d_Tree_putNew_8 (by decide) (fun hn5 => ?_) (fun o3 hn5 => ?_)
  · subst hn5
    replace hf := q_on_n hf
    refine qj_aload_n hx hb d_Tree_putNew_23 rfl 0 rfl ?_
    exact hret _ _ _ _ q_tn d_Tree_putNew_24 (Option.some.inj hf)
  · subst hn5
    replace hf := q_on_s hf
    refine qj_aload_n hx hb d_Tree_putNew_11 rfl 1 rfl ?_
    refine qj_aload_n hx hb d_Tree_putNew_12 rfl 0 rfl ?_
    refine qj_aload_n hx hb d_Tree_putNew_13 rfl 1 rfl ?_
    refine qj_get hx hb hts hin_5 hown hK (q_in (rfl : tcX 1 = 1) (by decide)) (en_1 (rfl : tcX 1 = 1)) rfl 3 (by decide) (hts _ tw_12) (fun _ h => h) (qr (some 5)) rfl d_Tree_putNew_14 ?_
    refine qj_get hx hb hts hin_4 hown hK (q_in (rfl : tcX 5 = 5) (by decide)) (en_5 (rfl : tcX 5 = 5)) rfl 1 (by decide) (hts _ tw_72) (fun _ h => h) (qi (M2.1 5 1)) rfl d_Tree_putNew_17 ?_
    have hf9 := q_cv_s hf; clear hf; obtain ⟨M4, hM4, hf⟩ := hf9
    refine qc_Vv (st := []) hx hb hml hown hts hK (qX_ok _ _ _ _) hs (c_Tree_putAtPlace o3 (M2.1 5 1) (tr1 _ rfl) M2 _ hM4) ⟨(callB_of 2 hts (q_good tw_73) rfl rfl rfl (hts _ tw_54) (hts _ tw_74) (by decide +kernel) ⟨by decide, by decide⟩), (hts _ tw_75), (hts _ tw_76)⟩ (q_in (rfl : tcX 1 = 1) (by decide)) (en_1 (rfl : tcX 1 = 1)) rfl rfl rfl (Nat.le_of_ble_eq_true rfl) d_Tree_putNew_20 ?_
    refine qj_aload_n hx hb d_Tree_putNew_23 rfl 0 rfl ?_
    exact hret _ _ _ _ (q_ts (tr1 _ rfl)) d_Tree_putNew_24 (Option.some.inj hf)
theorem d_Node_addLetter_0 : decode prog_6_method_7_code 0 = .ok (.aload_n 0, 1) := by decide +kernel
theorem d_Node_addLetter_1 : decode prog_6_method_7_code 1 = .ok (.getfield 60, 3) := by decide +kernel
theorem d_Node_addLetter_4 : decode prog_6_method_7_code 4 = .ok (.ifnonnull 11, 3) := by decide +kernel
theorem d_Node_addLetter_7 : decode prog_6_method_7_code 7 = .ok (.aload_n 0, 1) := by decide +kernel
theorem d_Node_addLetter_8 : decode prog_6_method_7_code 8 = .ok (.aload_n 1, 1) := by decide +kernel
theorem d_Node_addLetter_9 : decode prog_6_method_7_code 9 = .ok (.putfield 56, 3) := by decide +kernel
theorem d_Node_addLetter_12 : decode prog_6_method_7_code 12 = .ok (.goto 11, 3) := by decide +kernel
theorem d_Node_addLetter_15 : decode prog_6_method_7_code 15 = .ok (.aload_n 0, 1) := by decide +kernel
theorem d_Node_addLetter_16 : decode prog_6_method_7_code 16 = .ok (.getfield 60, 3) := by decide +kernel
theorem d_Node_addLetter_19 : decode prog_6_method_7_code 19 = .ok (.aload_n 1, 1) := by decide +kernel
theorem d_Node_addLetter_20 : decode prog_6_method_7_code 20 = .ok (.putfield 66, 3) := by decide +kernel
theorem d_Node_addLetter_23 : decode prog_6_method_7_code 23 = .ok (.aload_n 0, 1) := by decide +kernel
theorem d_Node_addLetter_24 : decode prog_6_method_7_code 24 = .ok (.aload_n 1, 1) := by decide +kernel
theorem d_Node_addLetter_25 : decode prog_6_method_7_code 25 = .ok (.putfield 60, 3) := by decide +kernel
theorem d_Node_addLetter_28 : decode prog_6_method_7_code 28 = .ok (.return_, 1) := by decide +kernel
def f_Node_addLetter (q0 : Nat) (q1 : Nat) (M : qM) : Option qM := q_lt (M.2 q0 10) fun r1 => q_lt (fun (M2 : qM) => q_lt (qsR M2 q0 10 (some q1)) fun M3 => some M3) fun (j4 : qM → Option qM) => q_on r1 (q_lt (qsR M q0 9 (some q1)) fun M6 => j4 M6) fun o5 => (q_lt (M.2 q0 10) fun r7 => q_nn r7 fun o8 => q_lt (qsR M o8 1 (some q1)) fun M9 => j4 M9)
abbrev rm_Node_addLetter : Room := { frames := 0, cells := 0, slots := 0, locals := 0 }
set_option maxRecDepth 100000 in
set_option maxHeartbeats 4000000 in
theorem c_Node_addLetter {l : Launch} {D : va_G} {dA : Nat → ClassId} {b : Nat} {adK adV : Nat → Nat} (q0 : Nat) (q1 : Nat) (tq0 : tcX q0 = 7) (tq1 : tcX q1 = 12) (M : qM) (out : qM) (hf : f_Node_addLetter q0 q1 M = some out) : CTv l y_Node_addLetter w_Node_addLetter rm_Node_addLetter D (tysX dA) (enX dA b) 367 b (qX adK adV 367 b) [qr (some q0), qr (some q1)] M out := by
  refine qm_v (cc := prog_6_method_7_code) (nL := 2) (by decide) rfl (Nat.le_of_ble_eq_true rfl) ?_
  intro p e s m args below meth c Q hx hb hts0 hown hml hK hs hret
  have hts : ∀ w ∈ lw_g, w.before args s = true := fun w h => hts0 w (List.mem_cons_of_mem _ h)
  show QJ p l e rm_Node_addLetter s m args below meth c (qA 367 b) b 2 0 0 Q (qWd D (enX dA b) 367 b) M 0 [(0, qr (some q0)), (1, qr (some q1))] []
  unfold f_Node_addLetter at hf
  refine qj_aload_n hx hb d_Node_addLetter_0 rfl 0 rfl ?_
  have hf9 := q_lt_s hf; clear hf; obtain ⟨r1, er1, hf⟩ := hf9
  refine qj_w fun w => ?_
  have tr1 : ∀ o, r1 = some o → tcX o = 12 := fun o h => (w _ _ o (er1.symm.trans h)).trans (by rw [tq0] <;> rfl)
  refine qj_get hx hb hts hin_3 hown hK (q_in tq0 (by decide)) (en_7 tq0) rfl 10 (by decide) (hts _ tw_32) (fun _ h => h) (qr r1) (by rw [er1]; rfl) d_Node_addLetter_1 ?_
  have hf9 := q_lt_s hf; clear hf; obtain ⟨j4, ej4, hf⟩ := hf9
  have hj4 : ∀ (M2 : qM), j4 M2 = some out → QJ p l e rm_Node_addLetter s m args below meth c (qA 367 b) b 2 0 0 Q (qWd D (enX dA b) 367 b) M2 23 [(0, qr (some q0)), (1, qr (some q1))] [] := by
    clear hf
    intro M2 hf
    rw [ej4] at hf
    refine qj_aload_n hx hb d_Node_addLetter_23 rfl 0 rfl ?_
    refine qj_aload_n hx hb d_Node_addLetter_24 rfl 1 rfl ?_
    have hf9 := q_lt_s hf; clear hf; obtain ⟨M3, eM3, hf⟩ := hf9
    refine qj_putr (Cr := "PlainPage$Letter") hx hb hts hin_3 ty_3 tyok_3 nm_3 hown hK (q_in tq0 (by decide)) (en_7 tq0) rfl 10 (by decide) (hts _ tw_32) (fun _ h => h) rfl (by decide +kernel) (Nat.le_of_ble_eq_true rfl) (sp_7_10 tq0) (fun o h => ((q_ts tq1) o h).trans (by rw [tq0] <;> rfl)) eM3 d_Node_addLetter_25 ?_
    exact hret _ _ _ d_Node_addLetter_28 (Option.some.inj hf)
  refine qj_ifnonnull (tgt := 15) hx hb d_Node_addLetter_4 (by decide) (fun o5 hn10 => ?_) (fun hn10 => ?_)
  · subst hn10
    replace hf := q_on_s hf
    refine qj_aload_n hx hb d_Node_addLetter_15 rfl 0 rfl ?_
    have hf9 := q_lt_s hf; clear hf; obtain ⟨r7, er7, hf⟩ := hf9
    refine qj_w fun w => ?_
    have tr7 : ∀ o, r7 = some o → tcX o = 12 := fun o h => (w _ _ o (er7.symm.trans h)).trans (by rw [tq0] <;> rfl)
    refine qj_get hx hb hts hin_3 hown hK (q_in tq0 (by decide)) (en_7 tq0) rfl 10 (by decide) (hts _ tw_32) (fun _ h => h) (qr r7) (by rw [er7]; rfl) d_Node_addLetter_16 ?_
    refine qj_aload_n hx hb d_Node_addLetter_19 rfl 1 rfl ?_
    have hf9 := q_nn_s hf; clear hf; obtain ⟨o8, rfl, hf⟩ := hf9
    have hf9 := q_lt_s hf; clear hf; obtain ⟨M9, eM9, hf⟩ := hf9
    refine qj_putr (Cr := "PlainPage$Letter") hx hb hts hin_2 ty_2 tyok_2 nm_2 hown hK (q_in (tr7 _ rfl) (by decide)) (en_12 (tr7 _ rfl)) rfl 1 (by decide) (hts _ tw_87) (fun _ h => h) rfl (by decide +kernel) (Nat.le_of_ble_eq_true rfl) (sp_12_1 (tr7 _ rfl)) (fun o h => ((q_ts tq1) o h).trans (by rw [(tr7 _ rfl)] <;> rfl)) eM9 d_Node_addLetter_20 ?_
    exact hj4 M9 hf
  · subst hn10
    replace hf := q_on_n hf
    refine qj_aload_n hx hb d_Node_addLetter_7 rfl 0 rfl ?_
    refine qj_aload_n hx hb d_Node_addLetter_8 rfl 1 rfl ?_
    have hf9 := q_lt_s hf; clear hf; obtain ⟨M6, eM6, hf⟩ := hf9
    refine qj_putr (Cr := "PlainPage$Letter") hx hb hts hin_3 ty_3 tyok_3 nm_3 hown hK (q_in tq0 (by decide)) (en_7 tq0) rfl 9 (by decide) (hts _ tw_31) (fun _ h => h) rfl (by decide +kernel) (Nat.le_of_ble_eq_true rfl) (sp_7_9 tq0) (fun o h => ((q_ts tq1) o h).trans (by rw [tq0] <;> rfl)) eM6 d_Node_addLetter_9 ?_
    refine qj_goto (tgt := 23) hx hb d_Node_addLetter_12 (by decide) ?_
    exact hj4 M6 hf
theorem d_Tree_character_0 : decode prog_11_method_12_code 0 = .ok (.iload_n 1, 1) := by decide +kernel
theorem d_Tree_character_1 : decode prog_11_method_12_code 1 = .ok (.bipush 32, 2) := by decide +kernel
theorem d_Tree_character_3 : decode prog_11_method_12_code 3 = .ok (.if_icmp .ne 21, 3) := by decide +kernel
theorem d_Tree_character_6 : decode prog_11_method_12_code 6 = .ok (.aload_n 0, 1) := by decide +kernel
theorem d_Tree_character_7 : decode prog_11_method_12_code 7 = .ok (.getfield 29, 3) := by decide +kernel
theorem d_Tree_character_10 : decode prog_11_method_12_code 10 = .ok (.aload_n 0, 1) := by decide +kernel
theorem d_Tree_character_11 : decode prog_11_method_12_code 11 = .ok (.getfield 29, 3) := by decide +kernel
theorem d_Tree_character_14 : decode prog_11_method_12_code 14 = .ok (.getfield 54, 3) := by decide +kernel
theorem d_Tree_character_17 : decode prog_11_method_12_code 17 = .ok (.invokevirtual 192, 3) := by decide +kernel
theorem d_Tree_character_20 : decode prog_11_method_12_code 20 = .ok (.ifnull 4, 3) := by decide +kernel
theorem d_Tree_character_23 : decode prog_11_method_12_code 23 = .ok (.return_, 1) := by decide +kernel
theorem d_Tree_character_24 : decode prog_11_method_12_code 24 = .ok (.aload_n 0, 1) := by decide +kernel
theorem d_Tree_character_25 : decode prog_11_method_12_code 25 = .ok (.invokevirtual 101, 3) := by decide +kernel
theorem d_Tree_character_28 : decode prog_11_method_12_code 28 = .ok (.aload_n 0, 1) := by decide +kernel
theorem d_Tree_character_29 : decode prog_11_method_12_code 29 = .ok (.invokevirtual 195, 3) := by decide +kernel
theorem d_Tree_character_32 : decode prog_11_method_12_code 32 = .ok (.astore_n 2, 1) := by decide +kernel
theorem d_Tree_character_33 : decode prog_11_method_12_code 33 = .ok (.aload_n 2, 1) := by decide +kernel
theorem d_Tree_character_34 : decode prog_11_method_12_code 34 = .ok (.ifnull 11, 3) := by decide +kernel
theorem d_Tree_character_37 : decode prog_11_method_12_code 37 = .ok (.aload_n 2, 1) := by decide +kernel
theorem d_Tree_character_38 : decode prog_11_method_12_code 38 = .ok (.getfield 177, 3) := by decide +kernel
theorem d_Tree_character_41 : decode prog_11_method_12_code 41 = .ok (.iconst 1, 1) := by decide +kernel
theorem d_Tree_character_42 : decode prog_11_method_12_code 42 = .ok (.if_icmp .eq 10, 3) := by decide +kernel
theorem d_Tree_character_45 : decode prog_11_method_12_code 45 = .ok (.aload_n 0, 1) := by decide +kernel
theorem d_Tree_character_46 : decode prog_11_method_12_code 46 = .ok (.iconst 1, 1) := by decide +kernel
theorem d_Tree_character_47 : decode prog_11_method_12_code 47 = .ok (.iconst 0, 1) := by decide +kernel
theorem d_Tree_character_48 : decode prog_11_method_12_code 48 = .ok (.invokevirtual 106, 3) := by decide +kernel
theorem d_Tree_character_51 : decode prog_11_method_12_code 51 = .ok (.astore_n 2, 1) := by decide +kernel
theorem d_Tree_character_52 : decode prog_11_method_12_code 52 = .ok (.aload_n 2, 1) := by decide +kernel
theorem d_Tree_character_53 : decode prog_11_method_12_code 53 = .ok (.ifnull 13, 3) := by decide +kernel
theorem d_Tree_character_56 : decode prog_11_method_12_code 56 = .ok (.aload_n 0, 1) := by decide +kernel
theorem d_Tree_character_57 : decode prog_11_method_12_code 57 = .ok (.getfield 43, 3) := by decide +kernel
theorem d_Tree_character_60 : decode prog_11_method_12_code 60 = .ok (.sipush 160, 3) := by decide +kernel
theorem d_Tree_character_63 : decode prog_11_method_12_code 63 = .ok (.if_icmp .lt 4, 3) := by decide +kernel
theorem d_Tree_character_66 : decode prog_11_method_12_code 66 = .ok (.return_, 1) := by decide +kernel
theorem d_Tree_character_67 : decode prog_11_method_12_code 67 = .ok (.aload_n 0, 1) := by decide +kernel
theorem d_Tree_character_68 : decode prog_11_method_12_code 68 = .ok (.getfield 22, 3) := by decide +kernel
theorem d_Tree_character_71 : decode prog_11_method_12_code 71 = .ok (.aload_n 0, 1) := by decide +kernel
theorem d_Tree_character_72 : decode prog_11_method_12_code 72 = .ok (.getfield 43, 3) := by decide +kernel
theorem d_Tree_character_75 : decode prog_11_method_12_code 75 = .ok (.aaload, 1) := by decide +kernel
theorem d_Tree_character_76 : decode prog_11_method_12_code 76 = .ok (.astore_n 3, 1) := by decide +kernel
theorem d_Tree_character_77 : decode prog_11_method_12_code 77 = .ok (.aload_n 0, 1) := by decide +kernel
theorem d_Tree_character_78 : decode prog_11_method_12_code 78 = .ok (.dup, 1) := by decide +kernel
theorem d_Tree_character_79 : decode prog_11_method_12_code 79 = .ok (.getfield 43, 3) := by decide +kernel
theorem d_Tree_character_82 : decode prog_11_method_12_code 82 = .ok (.iconst 1, 1) := by decide +kernel
theorem d_Tree_character_83 : decode prog_11_method_12_code 83 = .ok (.iadd, 1) := by decide +kernel
theorem d_Tree_character_84 : decode prog_11_method_12_code 84 = .ok (.putfield 43, 3) := by decide +kernel
theorem d_Tree_character_87 : decode prog_11_method_12_code 87 = .ok (.aload_n 3, 1) := by decide +kernel
theorem d_Tree_character_88 : decode prog_11_method_12_code 88 = .ok (.iload_n 1, 1) := by decide +kernel
theorem d_Tree_character_89 : decode prog_11_method_12_code 89 = .ok (.putfield 198, 3) := by decide +kernel
theorem d_Tree_character_92 : decode prog_11_method_12_code 92 = .ok (.aload_n 3, 1) := by decide +kernel
theorem d_Tree_character_93 : decode prog_11_method_12_code 93 = .ok (.aconst_null, 1) := by decide +kernel
theorem d_Tree_character_94 : decode prog_11_method_12_code 94 = .ok (.putfield 78, 3) := by decide +kernel
theorem d_Tree_character_97 : decode prog_11_method_12_code 97 = .ok (.aload_n 2, 1) := by decide +kernel
theorem d_Tree_character_98 : decode prog_11_method_12_code 98 = .ok (.aload_n 3, 1) := by decide +kernel
theorem d_Tree_character_99 : decode prog_11_method_12_code 99 = .ok (.invokevirtual 201, 3) := by decide +kernel
theorem d_Tree_character_102 : decode prog_11_method_12_code 102 = .ok (.return_, 1) := by decide +kernel
def f_Tree_character (a1 : Int32) (M : qM) : Option qM := q_lt (q_cv (f_Tree_renew M) fun M1 => q_bp (f_Tree_nodeBeforePlace M1) fun r2 => q_lt (fun (r3 : Option Nat) (M4 : qM) => q_on r3 (some M4) fun o5 => (if (M4.1 1 6) < 160 then (q_ix (M4.1 1 6) 160 <| q_lt (127 + (M4.1 1 6).toNatClampNeg) fun o8 => q_lt (qsI M4 1 6 ((M4.1 1 6) + 1)) fun M9 => q_lt (qsI M9 o8 0 a1) fun M10 => q_lt (qsR M10 o8 1 none) fun M11 => q_cv (f_Node_addLetter o5 o8 M11) fun M12 => some M12) else (some M4))) fun (j14 : Option Nat → qM → Option qM) => q_lt (q_cl (f_Tree_putNew 1 0 M1) fun r15 M16 => j14 r15 M16) fun (j17 : Option qM) => q_on r2 (j17) fun o18 => (if (M1.1 o18 0) = 1 then (j14 (some o18) M1) else (j17))) fun (j21 : Option qM) => if a1 = 32 then (q_bp (f_OpenStack_tableUnderTop (M.1 5 1) M) fun r23 => q_on r23 (j21) fun o24 => (some M)) else (j21)
abbrev rm_Tree_character : Room := { frames := 3, cells := 0, slots := 0, locals := 68 }
set_option maxRecDepth 100000 in
set_option maxHeartbeats 4000000 in
theorem c_Tree_character {l : Launch} {D : va_G} {dA : Nat → ClassId} {b : Nat} {adK adV : Nat → Nat} (a1 : Int32)  (M : qM) (out : qM) (hf : f_Tree_character a1 M = some out) : CTv l y_Tree_character w_Tree_character rm_Tree_character D (tysX dA) (enX dA b) 367 b (qX adK adV 367 b) [qr (some 1), qi a1] M out := by
  refine qm_v (cc := prog_11_method_12_code) (nL := 4) (by decide) rfl (Nat.le_of_ble_eq_true rfl) ?_
  intro p e s m args below meth c Q hx hb hts0 hown hml hK hs hret
  have hts : ∀ w ∈ lw_g, w.before args s = true := fun w h => hts0 w (List.mem_cons_of_mem _ h)
  show QJ p l e rm_Tree_character s m args below meth c (qA 367 b) b 4 0 0 Q (qWd D (enX dA b) 367 b) M 0 [(0, qr (some 1)), (1, qi a1)] []
  unfold f_Tree_character at hf
  refine qj_iload_n hx hb d_Tree_character_0 rfl 1 rfl ?_
  refine qj_bipush (v := 32) hx hb d_Tree_character_1 (by decide) ?_
  have hf9 := q_lt_s hf; clear hf; obtain ⟨j21, ej21, hf⟩ := hf9
  have hj21 : j21 = some out → QJ p l e rm_Tree_character s m args below meth c (qA 367 b) b 4 0 0 Q (qWd D (enX dA b) 367 b) M 24 [(0, qr (some 1)), (1, qi a1)] [] := by
    clear hf
    intro hf
    rw [ej21] at hf
    refine qj_aload_n hx hb d_Tree_character_24 rfl 0 rfl ?_
    have hf9 := q_cv_s hf; clear hf; obtain ⟨M1, hM1, hf⟩ := hf9
    refine qc_Vv (st := []) hx hb hml hown hts hK (qX_ok _ _ _ _) hs (c_Tree_renew  M _ hM1) ⟨(callB_of 0 hts (q_good tw_88) rfl rfl rfl (hts _ tw_54) (hts _ tw_89) (by decide +kernel) ⟨by decide, by decide⟩), (hts _ tw_90), (hts _ tw_91)⟩ (q_in (rfl : tcX 1 = 1) (by decide)) (en_1 (rfl : tcX 1 = 1)) rfl rfl rfl (Nat.le_of_ble_eq_true rfl) d_Tree_character_25 ?_
    refine qj_aload_n hx hb d_Tree_character_28 rfl 0 rfl ?_
    have hf9 := q_bp_s hf; clear hf; obtain ⟨r2, hr2, hf⟩ := hf9
    refine qc_Vr (st := []) hx hb hml hown hts hK (qX_ok _ _ _ _) hs (c_Tree_nodeBeforePlace  M1 _ hr2) ⟨(callB_of 0 hts (q_good tw_92) rfl rfl rfl (hts _ tw_54) (hts _ tw_93) (by decide +kernel) ⟨by decide, by decide⟩), (hts _ tw_94), (hts _ tw_95)⟩ (q_in (rfl : tcX 1 = 1) (by decide)) (en_1 (rfl : tcX 1 = 1)) rfl rfl rfl (Nat.le_of_ble_eq_true rfl) d_Tree_character_29 (fun tr2 => ?_)
    refine qj_astore_n hx hb d_Tree_character_32 rfl (by decide) rfl ?_
    refine qj_aload_n hx hb d_Tree_character_33 rfl 0 rfl ?_
    have hf9 := q_lt_s hf; clear hf; obtain ⟨j14, ej14, hf⟩ := hf9
    have hj14 : ∀ (r3 : Option Nat) (M4 : qM), (∀ o, r3 = some o → tcX o = 7) → j14 r3 M4 = some out → QJ p l e rm_Tree_character s m args below meth c (qA 367 b) b 4 0 0 Q (qWd D (enX dA b) 367 b) M4 52 [(0, qr (some 1)), (1, qi a1), (2, qr r3)] [] := by
      clear hf
      intro r3 M4 tr3 hf
      rw [ej14] at hf
      refine qj_aload_n hx hb d_Tree_character_52 rfl 2 rfl ?_
      refine qj_ifnull (tgt := 66) hx hb d_Tree_character_53 (by decide) (fun hn13 => ?_) (fun o5 hn13 => ?_)
      · subst hn13
        replace hf := q_on_n hf
        exact hret _ _ _ d_Tree_character_66 (Option.some.inj hf)
      · subst hn13
        replace hf := q_on_s hf
        refine qj_aload_n hx hb d_Tree_character_56 rfl 0 rfl ?_
        refine qj_get hx hb hts hin_5 hown hK (q_in (rfl : tcX 1 = 1) (by decide)) (en_1 (rfl : tcX 1 = 1)) rfl 6 (by decide) (hts _ tw_96) (fun _ h => h) (qi (M4.1 1 6)) rfl d_Tree_character_57 ?_
        refine qj_sipush (v := 160) hx hb d_Tree_character_60 (by decide) ?_
        refine qj_icmp_lt (tgt := 67) hx hb d_Tree_character_63 (by decide) (fun hc6 => ?_) (fun hc6 => ?_)
        · replace hf := q_if_t hc6 hf
          refine qj_aload_n hx hb d_Tree_character_67 rfl 0 rfl ?_
          refine qj_get hx hb hts hin_5 hown hK (q_in (rfl : tcX 1 = 1) (by decide)) (en_1 (rfl : tcX 1 = 1)) rfl 2 (by decide) (hts _ tw_97) (fun _ h => h) (qr (some 4)) rfl d_Tree_character_68 ?_
          refine qj_aload_n hx hb d_Tree_character_71 rfl 0 rfl ?_
          refine qj_get hx hb hts hin_5 hown hK (q_in (rfl : tcX 1 = 1) (by decide)) (en_1 (rfl : tcX 1 = 1)) rfl 6 (by decide) (hts _ tw_96) (fun _ h => h) (qi (M4.1 1 6)) rfl d_Tree_character_72 ?_
          have hf9 := q_ix_s hf; clear hf; obtain ⟨hi7, hf⟩ := hf9
          have hf9 := q_lt_s hf; clear hf; obtain ⟨o8, eo8, hf⟩ := hf9
          have to8 : tcX o8 = 12 := by rw [eo8]; exact tc_e4 hi7
          refine qj_aald (t0 := 4) (f := fun j => some (127 + j)) hx hb hK (q_in (rfl : tcX 4 = 4) (by decide)) (en_4 (rfl : tcX 4 = 4) _ _) rfl hi7 d_Tree_character_75 ?_
          rw [← eo8]
          refine qj_astore_n hx hb d_Tree_character_76 rfl (by decide) rfl ?_
          refine qj_aload_n hx hb d_Tree_character_77 rfl 1 rfl ?_
          refine qj_dup hx hb d_Tree_character_78 ?_
          refine qj_get hx hb hts hin_5 hown hK (q_in (rfl : tcX 1 = 1) (by decide)) (en_1 (rfl : tcX 1 = 1)) rfl 6 (by decide) (hts _ tw_96) (fun _ h => h) (qi (M4.1 1 6)) rfl d_Tree_character_79 ?_
          refine qj_iconst (v := 1) hx hb d_Tree_character_82 (by decide) ?_
          refine qj_iadd hx hb d_Tree_character_83 ?_
          have hf9 := q_lt_s hf; clear hf; obtain ⟨M9, eM9, hf⟩ := hf9
          refine qj_puti (ty := .int) hx hb hts hin_5 ty_5 tyok_5 nm_5 hown hK (q_in (rfl : tcX 1 = 1) (by decide)) (en_1 (rfl : tcX 1 = 1)) rfl 6 (by decide) (hts _ tw_96) (fun _ h => h) rfl (by decide +kernel) rfl rfl (Nat.le_of_ble_eq_true rfl) (sp_1_6 (rfl : tcX 1 = 1)) eM9 d_Tree_character_84 ?_
          refine qj_aload_n hx hb d_Tree_character_87 rfl 0 rfl ?_
          refine qj_iload_n hx hb d_Tree_character_88 rfl 2 rfl ?_
          have hf9 := q_lt_s hf; clear hf; obtain ⟨M10, eM10, hf⟩ := hf9
          refine qj_puti (ty := .int) hx hb hts hin_2 ty_2 tyok_2 nm_2 hown hK (q_in to8 (by decide)) (en_12 to8) rfl 0 (by decide) (hts _ tw_98) (fun _ h => h) rfl (by decide +kernel) rfl rfl (Nat.le_of_ble_eq_true rfl) (sp_12_0 to8) eM10 d_Tree_character_89 ?_
          refine qj_aload_n hx hb d_Tree_character_92 rfl 0 rfl ?_
          refine qj_null hx hb d_Tree_character_93 ?_
          have hf9 := q_lt_s hf; clear hf; obtain ⟨M11, eM11, hf⟩ := hf9
          refine qj_putr (Cr := "PlainPage$Letter") hx hb hts hin_2 ty_2 tyok_2 nm_2 hown hK (q_in to8 (by decide)) (en_12 to8) rfl 1 (by decide) (hts _ tw_99) (fun _ h => h) rfl (by decide +kernel) (Nat.le_of_ble_eq_true rfl) (sp_12_1 to8) (fun o h => (q_tn o h).trans (by rw [to8] <;> rfl)) eM11 d_Tree_character_94 ?_
          refine qj_aload_n hx hb d_Tree_character_97 rfl 3 rfl ?_
          refine qj_aload_n hx hb d_Tree_character_98 rfl 0 rfl ?_
          have hf9 := q_cv_s hf; clear hf; obtain ⟨M12, hM12, hf⟩ := hf9
          refine qc_Vv (st := []) hx hb hml hown hts hK (qX_ok _ _ _ _) hs (c_Node_addLetter o5 o8 (tr3 _ rfl) to8 M11 _ hM12) ⟨(callB_of 1 hts (q_good tw_100) rfl rfl rfl (hts _ tw_37) (hts _ tw_101) (by decide +kernel) ⟨by decide, by decide⟩), (hts _ tw_102), (hts _ tw_103)⟩ (q_in (tr3 _ rfl) (by decide)) (en_7 (tr3 _ rfl)) rfl rfl rfl (Nat.le_of_ble_eq_true rfl) d_Tree_character_99 ?_
          exact hret _ _ _ d_Tree_character_102 (Option.some.inj hf)
        · replace hf := q_if_f hc6 hf
          exact hret _ _ _ d_Tree_character_66 (Option.some.inj hf)
    have hf9 := q_lt_s hf; clear hf; obtain ⟨j17, ej17, hf⟩ := hf9
    have hj17 : j17 = some out → QJ p l e rm_Tree_character s m args below meth c (qA 367 b) b 4 0 0 Q (qWd D (enX dA b) 367 b) M1 45 [(0, qr (some 1)), (1, qi a1)] [] := by
      clear hf
      intro hf
      rw [ej17] at hf
      refine qj_aload_n hx hb d_Tree_character_45 rfl 0 rfl ?_
      refine qj_iconst (v := 1) hx hb d_Tree_character_46 (by decide) ?_
      refine qj_iconst (v := 0) hx hb d_Tree_character_47 (by decide) ?_
      have hf9 := q_cl_s hf; clear hf; obtain ⟨r15, M16, hr15, hf⟩ := hf9
      refine qc_Vr (st := []) hx hb hml hown hts hK (qX_ok _ _ _ _) hs (c_Tree_putNew 1 0 M1 _ hr15) ⟨(callB_of 2 hts (q_good tw_104) rfl rfl rfl (hts _ tw_54) (hts _ tw_105) (by decide +kernel) ⟨by decide, by decide⟩), (hts _ tw_106), (hts _ tw_107)⟩ (q_in (rfl : tcX 1 = 1) (by decide)) (en_1 (rfl : tcX 1 = 1)) rfl rfl rfl (Nat.le_of_ble_eq_true rfl) d_Tree_character_48 (fun tr15 => ?_)
      refine qj_astore_n hx hb d_Tree_character_51 rfl (by decide) rfl ?_
      refine qj_sub [1, 2, 0] rfl ?_
      exact hj14 r15 M16 tr15 hf
    refine qj_ifnull (tgt := 45) hx hb d_Tree_character_34 (by decide) (fun hn20 => ?_) (fun o18 hn20 => ?_)
    · subst hn20
      replace hf := q_on_n hf
      refine qj_sub [1, 2] rfl ?_
      exact hj17  hf
    · subst hn20
      replace hf := q_on_s hf
      refine qj_aload_n hx hb d_Tree_character_37 rfl 0 rfl ?_
      refine qj_get hx hb hts hin_3 hown hK (q_in (tr2 _ rfl) (by decide)) (en_7 (tr2 _ rfl)) rfl 0 (by decide) (hts _ tw_66) (fun _ h => h) (qi (M1.1 o18 0)) rfl d_Tree_character_38 ?_
      refine qj_iconst (v := 1) hx hb d_Tree_character_41 (by decide) ?_
      refine qj_icmp_eq (tgt := 52) hx hb d_Tree_character_42 (by decide) (fun hc19 => ?_) (fun hc19 => ?_)
      · replace hf := q_if_t hc19 hf
        refine qj_sub [1, 2, 0] rfl ?_
        exact hj14 (some o18) M1 (q_ts (tr2 _ rfl)) hf
      · replace hf := q_if_f hc19 hf
        refine qj_sub [1, 2] rfl ?_
        exact hj17  hf
  refine qj_icmp_ne (tgt := 24) hx hb d_Tree_character_3 (by decide) (fun hc22 => ?_) (fun hc22 => ?_)
  · replace hf := q_if_f hc22 hf
    exact hj21  hf
  · replace hf := q_if_t hc22 hf
    refine qj_aload_n hx hb d_Tree_character_6 rfl 0 rfl ?_
    refine qj_get hx hb hts hin_5 hown hK (q_in (rfl : tcX 1 = 1) (by decide)) (en_1 (rfl : tcX 1 = 1)) rfl 3 (by decide) (hts _ tw_12) (fun _ h => h) (qr (some 5)) rfl d_Tree_character_7 ?_
    refine qj_aload_n hx hb d_Tree_character_10 rfl 0 rfl ?_
    refine qj_get hx hb hts hin_5 hown hK (q_in (rfl : tcX 1 = 1) (by decide)) (en_1 (rfl : tcX 1 = 1)) rfl 3 (by decide) (hts _ tw_12) (fun _ h => h) (qr (some 5)) rfl d_Tree_character_11 ?_
    refine qj_get hx hb hts hin_4 hown hK (q_in (rfl : tcX 5 = 5) (by decide)) (en_5 (rfl : tcX 5 = 5)) rfl 1 (by decide) (hts _ tw_72) (fun _ h => h) (qi (M.1 5 1)) rfl d_Tree_character_14 ?_
    have hf9 := q_bp_s hf; clear hf; obtain ⟨r23, hr23, hf⟩ := hf9
    refine qc_Vr (st := []) hx hb hml hown hts hK (qX_ok _ _ _ _) hs (c_OpenStack_tableUnderTop (M.1 5 1) M _ hr23) ⟨(callB_of 1 hts (q_good tw_43) rfl rfl rfl (hts _ tw_13) (hts _ tw_44) (by decide +kernel) ⟨by decide, by decide⟩), (hts _ tw_45), (hts _ tw_46)⟩ (q_in (rfl : tcX 5 = 5) (by decide)) (en_5 (rfl : tcX 5 = 5)) rfl rfl rfl (Nat.le_of_ble_eq_true rfl) d_Tree_character_17 (fun tr23 => ?_)
    refine qj_ifnull (tgt := 24) hx hb d_Tree_character_20 (by decide) (fun hn25 => ?_) (fun o24 hn25 => ?_)
    · subst hn25
      replace hf := q_on_n hf
      exact hj21  hf
    · subst hn25
      replace hf := q_on_s hf
      exact hret _ _ _ d_Tree_character_23 (Option.some.inj hf)
theorem d_Typist_giveUpHeld_0 : decode prog_12_method_5_code 0 = .ok (.aload_n 1, 1) := by decide +kernel
theorem d_Typist_giveUpHeld_1 : decode prog_12_method_5_code 1 = .ok (.aload_n 0, 1) := by decide +kernel
theorem d_Typist_giveUpHeld_2 : decode prog_12_method_5_code 2 = .ok (.getfield 9, 3) := by decide +kernel
theorem d_Typist_giveUpHeld_5 : decode prog_12_method_5_code 5 = .ok (.iconst 3, 1) := by decide +kernel
theorem d_Typist_giveUpHeld_6 : decode prog_12_method_5_code 6 = .ok (.if_icmp .ne 8, 3) := by decide +kernel
theorem d_Typist_giveUpHeld_9 : decode prog_12_method_5_code 9 = .ok (.bipush 60, 2) := by decide +kernel
theorem d_Typist_giveUpHeld_11 : decode prog_12_method_5_code 11 = .ok (.goto 5, 3) := by decide +kernel
theorem d_Typist_giveUpHeld_14 : decode prog_12_method_5_code 14 = .ok (.bipush 38, 2) := by decide +kernel
theorem d_Typist_giveUpHeld_16 : decode prog_12_method_5_code 16 = .ok (.invokevirtual 32, 3) := by decide +kernel
theorem d_Typist_giveUpHeld_19 : decode prog_12_method_5_code 19 = .ok (.aload_n 0, 1) := by decide +kernel
theorem d_Typist_giveUpHeld_20 : decode prog_12_method_5_code 20 = .ok (.getfield 9, 3) := by decide +kernel
theorem d_Typist_giveUpHeld_23 : decode prog_12_method_5_code 23 = .ok (.iconst 2, 1) := by decide +kernel
theorem d_Typist_giveUpHeld_24 : decode prog_12_method_5_code 24 = .ok (.if_icmp .ne 11, 3) := by decide +kernel
theorem d_Typist_giveUpHeld_27 : decode prog_12_method_5_code 27 = .ok (.aload_n 1, 1) := by decide +kernel
theorem d_Typist_giveUpHeld_28 : decode prog_12_method_5_code 28 = .ok (.aload_n 0, 1) := by decide +kernel
theorem d_Typist_giveUpHeld_29 : decode prog_12_method_5_code 29 = .ok (.getfield 25, 3) := by decide +kernel
theorem d_Typist_giveUpHeld_32 : decode prog_12_method_5_code 32 = .ok (.invokevirtual 32, 3) := by decide +kernel
theorem d_Typist_giveUpHeld_35 : decode prog_12_method_5_code 35 = .ok (.aload_n 0, 1) := by decide +kernel
theorem d_Typist_giveUpHeld_36 : decode prog_12_method_5_code 36 = .ok (.iconst 0, 1) := by decide +kernel
theorem d_Typist_giveUpHeld_37 : decode prog_12_method_5_code 37 = .ok (.putfield 9, 3) := by decide +kernel
theorem d_Typist_giveUpHeld_40 : decode prog_12_method_5_code 40 = .ok (.return_, 1) := by decide +kernel
def f_Typist_giveUpHeld  (M : qM) : Option qM := q_lt (fun (x1 : Int32) => q_cv (f_Tree_character x1 M) fun M2 => q_lt (fun (M3 : qM) => q_lt (qsI M3 287 0 0) fun M4 => some M4) fun (j5 : qM → Option qM) => if (M2.1 287 0) = 2 then (q_cv (f_Tree_character (M2.1 287 1) M2) fun M7 => j5 M7) else (j5 M2)) fun (j8 : Int32 → Option qM) => if (M.1 287 0) = 3 then (j8 60) else (j8 38)
abbrev rm_Typist_giveUpHeld : Room := { frames := 4, cells := 0, slots := 0, locals := 91 }
set_option maxRecDepth 100000 in
set_option maxHeartbeats 4000000 in
theorem c_Typist_giveUpHeld {l : Launch} {D : va_G} {dA : Nat → ClassId} {b : Nat} {adK adV : Nat → Nat}   (M : qM) (out : qM) (hf : f_Typist_giveUpHeld M = some out) : CTv l y_Typist_giveUpHeld w_Typist_giveUpHeld rm_Typist_giveUpHeld D (tysX dA) (enX dA b) 367 b (qX adK adV 367 b) [qr (some 287), qr (some 1)] M out := by
  refine qm_v (cc := prog_12_method_5_code) (nL := 2) (by decide) rfl (Nat.le_of_ble_eq_true rfl) ?_
  intro p e s m args below meth c Q hx hb hts0 hown hml hK hs hret
  have hts : ∀ w ∈ lw_g, w.before args s = true := fun w h => hts0 w (List.mem_cons_of_mem _ h)
  show QJ p l e rm_Typist_giveUpHeld s m args below meth c (qA 367 b) b 2 0 0 Q (qWd D (enX dA b) 367 b) M 0 [(0, qr (some 287)), (1, qr (some 1))] []
  unfold f_Typist_giveUpHeld at hf
  refine qj_aload_n hx hb d_Typist_giveUpHeld_0 rfl 1 rfl ?_
  refine qj_aload_n hx hb d_Typist_giveUpHeld_1 rfl 0 rfl ?_
  refine qj_get hx hb hts hin_6 hown hK (q_in (rfl : tcX 287 = 13) (by decide)) (en_13 (rfl : tcX 287 = 13)) rfl 0 (by decide) (hts _ tw_3) (fun _ h => h) (qi (M.1 287 0)) rfl d_Typist_giveUpHeld_2 ?_
  refine qj_iconst (v := 3) hx hb d_Typist_giveUpHeld_5 (by decide) ?_
  have hf9 := q_lt_s hf; clear hf; obtain ⟨j8, ej8, hf⟩ := hf9
  have hj8 : ∀ (x1 : Int32), j8 x1 = some out → QJ p l e rm_Typist_giveUpHeld s m args below meth c (qA 367 b) b 2 0 0 Q (qWd D (enX dA b) 367 b) M 16 [(0, qr (some 287)), (1, qr (some 1))] [qi x1, qr (some 1)] := by
    clear hf
    intro x1 hf
    rw [ej8] at hf
    have hf9 := q_cv_s hf; clear hf; obtain ⟨M2, hM2, hf⟩ := hf9
    refine qc_Vv (st := []) hx hb hml hown hts hK (qX_ok _ _ _ _) hs (c_Tree_character x1 M _ hM2) ⟨(callB_of 1 hts (q_good tw_108) rfl rfl rfl (hts _ tw_54) (hts _ tw_109) (by decide +kernel) ⟨by decide, by decide⟩), (hts _ tw_110), (hts _ tw_111)⟩ (q_in (rfl : tcX 1 = 1) (by decide)) (en_1 (rfl : tcX 1 = 1)) rfl rfl rfl (Nat.le_of_ble_eq_true rfl) d_Typist_giveUpHeld_16 ?_
    refine qj_aload_n hx hb d_Typist_giveUpHeld_19 rfl 0 rfl ?_
    refine qj_get hx hb hts hin_6 hown hK (q_in (rfl : tcX 287 = 13) (by decide)) (en_13 (rfl : tcX 287 = 13)) rfl 0 (by decide) (hts _ tw_3) (fun _ h => h) (qi (M2.1 287 0)) rfl d_Typist_giveUpHeld_20 ?_
    refine qj_iconst (v := 2) hx hb d_Typist_giveUpHeld_23 (by decide) ?_
    have hf9 := q_lt_s hf; clear hf; obtain ⟨j5, ej5, hf⟩ := hf9
    have hj5 : ∀ (M3 : qM), j5 M3 = some out → QJ p l e rm_Typist_giveUpHeld s m args below meth c (qA 367 b) b 2 0 0 Q (qWd D (enX dA b) 367 b) M3 35 [(0, qr (some 287))] [] := by
      clear hf
      intro M3 hf
      rw [ej5] at hf
      refine qj_aload_n hx hb d_Typist_giveUpHeld_35 rfl 0 rfl ?_
      refine qj_iconst (v := 0) hx hb d_Typist_giveUpHeld_36 (by decide) ?_
      have hf9 := q_lt_s hf; clear hf; obtain ⟨M4, eM4, hf⟩ := hf9
      refine qj_puti (ty := .int) hx hb hts hin_6 ty_6 tyok_6 nm_6 hown hK (q_in (rfl : tcX 287 = 13) (by decide)) (en_13 (rfl : tcX 287 = 13)) rfl 0 (by decide) (hts _ tw_3) (fun _ h => h) rfl (by decide +kernel) rfl rfl (Nat.le_of_ble_eq_true rfl) (sp_13_0 (rfl : tcX 287 = 13)) eM4 d_Typist_giveUpHeld_37 ?_
      exact hret _ _ _ d_Typist_giveUpHeld_40 (Option.some.inj hf)
    refine qj_icmp_ne (tgt := 35) hx hb d_Typist_giveUpHeld_24 (by decide) (fun hc6 => ?_) (fun hc6 => ?_)
    · replace hf := q_if_f hc6 hf
      refine qj_sub [0] rfl ?_
      exact hj5 M2 hf
    · replace hf := q_if_t hc6 hf
      refine qj_aload_n hx hb d_Typist_giveUpHeld_27 rfl 1 rfl ?_
      refine qj_aload_n hx hb d_Typist_giveUpHeld_28 rfl 0 rfl ?_
      refine qj_get hx hb hts hin_6 hown hK (q_in (rfl : tcX 287 = 13) (by decide)) (en_13 (rfl : tcX 287 = 13)) rfl 1 (by decide) (hts _ tw_112) (fun _ h => h) (qi (M2.1 287 1)) rfl d_Typist_giveUpHeld_29 ?_
      have hf9 := q_cv_s hf; clear hf; obtain ⟨M7, hM7, hf⟩ := hf9
      refine qc_Vv (st := []) hx hb hml hown hts hK (qX_ok _ _ _ _) hs (c_Tree_character (M2.1 287 1) M2 _ hM7) ⟨(callB_of 1 hts (q_good tw_108) rfl rfl rfl (hts _ tw_54) (hts _ tw_109) (by decide +kernel) ⟨by decide, by decide⟩), (hts _ tw_110), (hts _ tw_111)⟩ (q_in (rfl : tcX 1 = 1) (by decide)) (en_1 (rfl : tcX 1 = 1)) rfl rfl rfl (Nat.le_of_ble_eq_true rfl) d_Typist_giveUpHeld_32 ?_
      refine qj_sub [0] rfl ?_
      exact hj5 M7 hf
  refine qj_icmp_ne (tgt := 14) hx hb d_Typist_giveUpHeld_6 (by decide) (fun hc9 => ?_) (fun hc9 => ?_)
  · replace hf := q_if_f hc9 hf
    refine qj_bipush (v := 38) hx hb d_Typist_giveUpHeld_14 (by decide) ?_
    exact hj8 38 hf
  · replace hf := q_if_t hc9 hf
    refine qj_bipush (v := 60) hx hb d_Typist_giveUpHeld_9 (by decide) ?_
    refine qj_goto (tgt := 16) hx hb d_Typist_giveUpHeld_11 (by decide) ?_
    exact hj8 60 hf
