theorem d_Typist_typeInText_0 : decode prog_12_method_6_code 0 = .ok (.iload_n 1, 1) := by decide +kernel
theorem d_Typist_typeInText_1 : decode prog_12_method_6_code 1 = .ok (.bipush 60, 2) := by decide +kernel
theorem d_Typist_typeInText_3 : decode prog_12_method_6_code 3 = .ok (.if_icmp .ne 11, 3) := by decide +kernel
theorem d_Typist_typeInText_6 : decode prog_12_method_6_code 6 = .ok (.aload_n 0, 1) := by decide +kernel
theorem d_Typist_typeInText_7 : decode prog_12_method_6_code 7 = .ok (.iconst 3, 1) := by decide +kernel
theorem d_Typist_typeInText_8 : decode prog_12_method_6_code 8 = .ok (.putfield 9, 3) := by decide +kernel
theorem d_Typist_typeInText_11 : decode prog_12_method_6_code 11 = .ok (.goto 22, 3) := by decide +kernel
theorem d_Typist_typeInText_14 : decode prog_12_method_6_code 14 = .ok (.iload_n 1, 1) := by decide +kernel
theorem d_Typist_typeInText_15 : decode prog_12_method_6_code 15 = .ok (.bipush 38, 2) := by decide +kernel
theorem d_Typist_typeInText_17 : decode prog_12_method_6_code 17 = .ok (.if_icmp .ne 11, 3) := by decide +kernel
theorem d_Typist_typeInText_20 : decode prog_12_method_6_code 20 = .ok (.aload_n 0, 1) := by decide +kernel
theorem d_Typist_typeInText_21 : decode prog_12_method_6_code 21 = .ok (.iconst 1, 1) := by decide +kernel
theorem d_Typist_typeInText_22 : decode prog_12_method_6_code 22 = .ok (.putfield 9, 3) := by decide +kernel
theorem d_Typist_typeInText_25 : decode prog_12_method_6_code 25 = .ok (.goto 8, 3) := by decide +kernel
theorem d_Typist_typeInText_28 : decode prog_12_method_6_code 28 = .ok (.aload_n 2, 1) := by decide +kernel
theorem d_Typist_typeInText_29 : decode prog_12_method_6_code 29 = .ok (.iload_n 1, 1) := by decide +kernel
theorem d_Typist_typeInText_30 : decode prog_12_method_6_code 30 = .ok (.invokevirtual 32, 3) := by decide +kernel
theorem d_Typist_typeInText_33 : decode prog_12_method_6_code 33 = .ok (.return_, 1) := by decide +kernel
def f_Typist_typeInText (a1 : Int32) (M : qM) : Option qM := if a1 = 60 then (q_lt (qsI M 287 0 3) fun M5 => some M5) else (if a1 = 38 then (q_lt (qsI M 287 0 1) fun M4 => some M4) else (q_cv (f_Tree_character a1 M) fun M3 => some M3))
abbrev rm_Typist_typeInText : Room := { frames := 4, cells := 0, slots := 0, locals := 91 }
set_option maxRecDepth 100000 in
set_option maxHeartbeats 4000000 in
theorem c_Typist_typeInText {l : Launch} {D : va_G} {dA : Nat → ClassId} {b : Nat} {adK adV : Nat → Nat} (a1 : Int32)  (M : qM) (out : qM) (hf : f_Typist_typeInText a1 M = some out) : CTv l y_Typist_typeInText w_Typist_typeInText rm_Typist_typeInText D (tysX dA) (enX dA b) 367 b (qX adK adV 367 b) [qr (some 287), qi a1, qr (some 1)] M out := by
  refine qm_v (cc := prog_12_method_6_code) (nL := 3) (by decide) rfl (Nat.le_of_ble_eq_true rfl) ?_
  intro p e s m args below meth c Q hx hb hts0 hown hml hK hs hret
  have hts : ∀ w ∈ lw_g, w.before args s = true := fun w h => hts0 w (List.mem_cons_of_mem _ h)
  show QJ p l e rm_Typist_typeInText s m args below meth c (qA 367 b) b 3 0 0 Q (qWd D (enX dA b) 367 b) M 0 [(0, qr (some 287)), (1, qi a1), (2, qr (some 1))] []
  unfold f_Typist_typeInText at hf
  refine qj_iload_n hx hb d_Typist_typeInText_0 rfl 1 rfl ?_
  refine qj_bipush (v := 60) hx hb d_Typist_typeInText_1 (by decide) ?_
  refine qj_icmp_ne (tgt := 14) hx hb d_Typist_typeInText_3 (by decide) (fun hc1 => ?_) (fun hc1 => ?_)
  · replace hf := q_if_f hc1 hf
    refine qj_iload_n hx hb d_Typist_typeInText_14 rfl 1 rfl ?_
    refine qj_bipush (v := 38) hx hb d_Typist_typeInText_15 (by decide) ?_
    refine qj_icmp_ne (tgt := 28) hx hb d_Typist_typeInText_17 (by decide) (fun hc2 => ?_) (fun hc2 => ?_)
    · replace hf := q_if_f hc2 hf
      refine qj_aload_n hx hb d_Typist_typeInText_28 rfl 2 rfl ?_
      refine qj_iload_n hx hb d_Typist_typeInText_29 rfl 1 rfl ?_
      have hf9 := q_cv_s hf; clear hf; obtain ⟨M3, hM3, hf⟩ := hf9
      refine qc_Vv (st := []) hx hb hml hown hts hK (qX_ok _ _ _ _) hs (c_Tree_character a1 M _ hM3) ⟨(callB_of 1 hts (q_good tw_108) rfl rfl rfl (hts _ tw_54) (hts _ tw_109) (by decide +kernel) ⟨by decide, by decide⟩), (hts _ tw_110), (hts _ tw_111)⟩ (q_in (rfl : tcX 1 = 1) (by decide)) (en_1 (rfl : tcX 1 = 1)) rfl rfl rfl (Nat.le_of_ble_eq_true rfl) d_Typist_typeInText_30 ?_
      exact hret _ _ _ d_Typist_typeInText_33 (Option.some.inj hf)
    · replace hf := q_if_t hc2 hf
      refine qj_aload_n hx hb d_Typist_typeInText_20 rfl 0 rfl ?_
      refine qj_iconst (v := 1) hx hb d_Typist_typeInText_21 (by decide) ?_
      have hf9 := q_lt_s hf; clear hf; obtain ⟨M4, eM4, hf⟩ := hf9
      refine qj_puti (ty := .int) hx hb hts hin_6 ty_6 tyok_6 nm_6 hown hK (q_in (rfl : tcX 287 = 13) (by decide)) (en_13 (rfl : tcX 287 = 13)) rfl 0 (by decide) (hts _ tw_3) (fun _ h => h) rfl (by decide +kernel) rfl rfl (Nat.le_of_ble_eq_true rfl) (sp_13_0 (rfl : tcX 287 = 13)) eM4 d_Typist_typeInText_22 ?_
      refine qj_goto (tgt := 33) hx hb d_Typist_typeInText_25 (by decide) ?_
      exact hret _ _ _ d_Typist_typeInText_33 (Option.some.inj hf)
  · replace hf := q_if_t hc1 hf
    refine qj_aload_n hx hb d_Typist_typeInText_6 rfl 0 rfl ?_
    refine qj_iconst (v := 3) hx hb d_Typist_typeInText_7 (by decide) ?_
    have hf9 := q_lt_s hf; clear hf; obtain ⟨M5, eM5, hf⟩ := hf9
    refine qj_puti (ty := .int) hx hb hts hin_6 ty_6 tyok_6 nm_6 hown hK (q_in (rfl : tcX 287 = 13) (by decide)) (en_13 (rfl : tcX 287 = 13)) rfl 0 (by decide) (hts _ tw_3) (fun _ h => h) rfl (by decide +kernel) rfl rfl (Nat.le_of_ble_eq_true rfl) (sp_13_0 (rfl : tcX 287 = 13)) eM5 d_Typist_typeInText_8 ?_
    refine qj_goto (tgt := 33) hx hb d_Typist_typeInText_11 (by decide) ?_
    exact hret _ _ _ d_Typist_typeInText_33 (Option.some.inj hf)
theorem d_Typist_meaningOf_0 : decode prog_12_method_10_code 0 = .ok (.iload_n 0, 1) := by decide +kernel
theorem d_Typist_meaningOf_1 : decode prog_12_method_10_code 1 = .ok (.lookupswitch 33 #[(103, 30), (108, 27)], 27) := by decide +kernel
theorem d_Typist_meaningOf_28 : decode prog_12_method_10_code 28 = .ok (.bipush 60, 2) := by decide +kernel
theorem d_Typist_meaningOf_30 : decode prog_12_method_10_code 30 = .ok (.ireturn, 1) := by decide +kernel
theorem d_Typist_meaningOf_31 : decode prog_12_method_10_code 31 = .ok (.bipush 62, 2) := by decide +kernel
theorem d_Typist_meaningOf_33 : decode prog_12_method_10_code 33 = .ok (.ireturn, 1) := by decide +kernel
theorem d_Typist_meaningOf_34 : decode prog_12_method_10_code 34 = .ok (.bipush 38, 2) := by decide +kernel
theorem d_Typist_meaningOf_36 : decode prog_12_method_10_code 36 = .ok (.ireturn, 1) := by decide +kernel
def f_Typist_meaningOf (a0 : Int32) (M : qM) : Option Int32 := if a0 = 103 then (some 62) else if a0 = 108 then (some 60) else (some 38)
abbrev rm_Typist_meaningOf : Room := { frames := 0, cells := 0, slots := 0, locals := 0 }
set_option maxRecDepth 100000 in
set_option maxHeartbeats 4000000 in
theorem c_Typist_meaningOf {l : Launch} {D : va_G} {dA : Nat → ClassId} {b : Nat} {adK adV : Nat → Nat} (a0 : Int32)  (M : qM) (out : Int32) (hf : f_Typist_meaningOf a0 M = some out) : CTi l y_Typist_meaningOf w_Typist_meaningOf rm_Typist_meaningOf D (tysX dA) (enX dA b) 367 b (qX adK adV 367 b) [qi a0] M (out, M) := by
  refine qm_i (cc := prog_12_method_10_code) (nL := 1) (by decide) rfl (Nat.le_of_ble_eq_true rfl) ?_
  intro p e s m args below meth c Q hx hb hts0 hown hml hK hs hret
  have hts : ∀ w ∈ lw_g, w.before args s = true := fun w h => hts0 w (List.mem_cons_of_mem _ h)
  show QJ p l e rm_Typist_meaningOf s m args below meth c (qA 367 b) b 1 0 0 Q (qWd D (enX dA b) 367 b) M 0 [(0, qi a0)] []
  unfold f_Typist_meaningOf at hf
  refine qj_iload_n hx hb d_Typist_meaningOf_0 rfl 0 rfl ?_
  by_cases hk1 : a0 = 103
  · replace hf := q_if_t hk1 hf
    refine qj_lookup (off := 30) (tgt := 31) hx hb d_Typist_meaningOf_1 (by decide) (by rw [hk1] <;> rfl) (by decide) ?_
    refine qj_bipush (v := 62) hx hb d_Typist_meaningOf_31 (by decide) ?_
    exact hret _ _ _ _ d_Typist_meaningOf_33 (congrArg (fun z => (z, M)) (Option.some.inj hf))
  replace hf := q_if_f hk1 hf
  by_cases hk2 : a0 = 108
  · replace hf := q_if_t hk2 hf
    refine qj_lookup (off := 27) (tgt := 28) hx hb d_Typist_meaningOf_1 (by decide) (by rw [hk2] <;> rfl) (by decide) ?_
    refine qj_bipush (v := 60) hx hb d_Typist_meaningOf_28 (by decide) ?_
    exact hret _ _ _ _ d_Typist_meaningOf_30 (congrArg (fun z => (z, M)) (Option.some.inj hf))
  replace hf := q_if_f hk2 hf
  refine qj_lookup (off := 33) (tgt := 34) hx hb d_Typist_meaningOf_1 (by decide) (by show Op.lookupswitch.offset [(103, 30), (108, 27)] 33 _ = 33; rw [lv_osw (a := 103) hk1 (by decide), lv_osw (a := 108) hk2 (by decide)] <;> rfl) (by decide) ?_
  refine qj_bipush (v := 38) hx hb d_Typist_meaningOf_34 (by decide) ?_
  exact hret _ _ _ _ d_Typist_meaningOf_36 (congrArg (fun z => (z, M)) (Option.some.inj hf))
theorem d_Typist_typeAfterLess_0 : decode prog_12_method_7_code 0 = .ok (.iload_n 1, 1) := by decide +kernel
theorem d_Typist_typeAfterLess_1 : decode prog_12_method_7_code 1 = .ok (.bipush 47, 2) := by decide +kernel
theorem d_Typist_typeAfterLess_3 : decode prog_12_method_7_code 3 = .ok (.if_icmp .ne 11, 3) := by decide +kernel
theorem d_Typist_typeAfterLess_6 : decode prog_12_method_7_code 6 = .ok (.aload_n 0, 1) := by decide +kernel
theorem d_Typist_typeAfterLess_7 : decode prog_12_method_7_code 7 = .ok (.iconst 4, 1) := by decide +kernel
theorem d_Typist_typeAfterLess_8 : decode prog_12_method_7_code 8 = .ok (.putfield 9, 3) := by decide +kernel
theorem d_Typist_typeAfterLess_11 : decode prog_12_method_7_code 11 = .ok (.goto 33, 3) := by decide +kernel
theorem d_Typist_typeAfterLess_14 : decode prog_12_method_7_code 14 = .ok (.iload_n 1, 1) := by decide +kernel
theorem d_Typist_typeAfterLess_15 : decode prog_12_method_7_code 15 = .ok (.bipush 33, 2) := by decide +kernel
theorem d_Typist_typeAfterLess_17 : decode prog_12_method_7_code 17 = .ok (.if_icmp .ne 12, 3) := by decide +kernel
theorem d_Typist_typeAfterLess_20 : decode prog_12_method_7_code 20 = .ok (.aload_n 0, 1) := by decide +kernel
theorem d_Typist_typeAfterLess_21 : decode prog_12_method_7_code 21 = .ok (.bipush 7, 2) := by decide +kernel
theorem d_Typist_typeAfterLess_23 : decode prog_12_method_7_code 23 = .ok (.putfield 9, 3) := by decide +kernel
theorem d_Typist_typeAfterLess_26 : decode prog_12_method_7_code 26 = .ok (.goto 18, 3) := by decide +kernel
theorem d_Typist_typeAfterLess_29 : decode prog_12_method_7_code 29 = .ok (.aload_n 0, 1) := by decide +kernel
theorem d_Typist_typeAfterLess_30 : decode prog_12_method_7_code 30 = .ok (.iload_n 1, 1) := by decide +kernel
theorem d_Typist_typeAfterLess_31 : decode prog_12_method_7_code 31 = .ok (.putfield 60, 3) := by decide +kernel
theorem d_Typist_typeAfterLess_34 : decode prog_12_method_7_code 34 = .ok (.aload_n 0, 1) := by decide +kernel
theorem d_Typist_typeAfterLess_35 : decode prog_12_method_7_code 35 = .ok (.iconst 0, 1) := by decide +kernel
theorem d_Typist_typeAfterLess_36 : decode prog_12_method_7_code 36 = .ok (.putfield 63, 3) := by decide +kernel
theorem d_Typist_typeAfterLess_39 : decode prog_12_method_7_code 39 = .ok (.aload_n 0, 1) := by decide +kernel
theorem d_Typist_typeAfterLess_40 : decode prog_12_method_7_code 40 = .ok (.iconst 5, 1) := by decide +kernel
theorem d_Typist_typeAfterLess_41 : decode prog_12_method_7_code 41 = .ok (.putfield 9, 3) := by decide +kernel
theorem d_Typist_typeAfterLess_44 : decode prog_12_method_7_code 44 = .ok (.return_, 1) := by decide +kernel
def f_Typist_typeAfterLess (a1 : Int32) (M : qM) : Option qM := if a1 = 47 then (q_lt (qsI M 287 0 4) fun M7 => some M7) else (if a1 = 33 then (q_lt (qsI M 287 0 7) fun M6 => some M6) else (q_lt (qsI M 287 2 a1) fun M3 => q_lt (qsI M3 287 3 0) fun M4 => q_lt (qsI M4 287 0 5) fun M5 => some M5))
abbrev rm_Typist_typeAfterLess : Room := { frames := 0, cells := 0, slots := 0, locals := 0 }
set_option maxRecDepth 100000 in
set_option maxHeartbeats 4000000 in
theorem c_Typist_typeAfterLess {l : Launch} {D : va_G} {dA : Nat → ClassId} {b : Nat} {adK adV : Nat → Nat} (a1 : Int32)  (M : qM) (out : qM) (hf : f_Typist_typeAfterLess a1 M = some out) : CTv l y_Typist_typeAfterLess w_Typist_typeAfterLess rm_Typist_typeAfterLess D (tysX dA) (enX dA b) 367 b (qX adK adV 367 b) [qr (some 287), qi a1] M out := by
  refine qm_v (cc := prog_12_method_7_code) (nL := 2) (by decide) rfl (Nat.le_of_ble_eq_true rfl) ?_
  intro p e s m args below meth c Q hx hb hts0 hown hml hK hs hret
  have hts : ∀ w ∈ lw_g, w.before args s = true := fun w h => hts0 w (List.mem_cons_of_mem _ h)
  show QJ p l e rm_Typist_typeAfterLess s m args below meth c (qA 367 b) b 2 0 0 Q (qWd D (enX dA b) 367 b) M 0 [(0, qr (some 287)), (1, qi a1)] []
  unfold f_Typist_typeAfterLess at hf
  refine qj_iload_n hx hb d_Typist_typeAfterLess_0 rfl 1 rfl ?_
  refine qj_bipush (v := 47) hx hb d_Typist_typeAfterLess_1 (by decide) ?_
  refine qj_icmp_ne (tgt := 14) hx hb d_Typist_typeAfterLess_3 (by decide) (fun hc1 => ?_) (fun hc1 => ?_)
  · replace hf := q_if_f hc1 hf
    refine qj_iload_n hx hb d_Typist_typeAfterLess_14 rfl 1 rfl ?_
    refine qj_bipush (v := 33) hx hb d_Typist_typeAfterLess_15 (by decide) ?_
    refine qj_icmp_ne (tgt := 29) hx hb d_Typist_typeAfterLess_17 (by decide) (fun hc2 => ?_) (fun hc2 => ?_)
    · replace hf := q_if_f hc2 hf
      refine qj_aload_n hx hb d_Typist_typeAfterLess_29 rfl 0 rfl ?_
      refine qj_iload_n hx hb d_Typist_typeAfterLess_30 rfl 1 rfl ?_
      have hf9 := q_lt_s hf; clear hf; obtain ⟨M3, eM3, hf⟩ := hf9
      refine qj_puti (ty := .int) hx hb hts hin_6 ty_6 tyok_6 nm_6 hown hK (q_in (rfl : tcX 287 = 13) (by decide)) (en_13 (rfl : tcX 287 = 13)) rfl 2 (by decide) (hts _ tw_113) (fun _ h => h) rfl (by decide +kernel) rfl rfl (Nat.le_of_ble_eq_true rfl) (sp_13_2 (rfl : tcX 287 = 13)) eM3 d_Typist_typeAfterLess_31 ?_
      refine qj_aload_n hx hb d_Typist_typeAfterLess_34 rfl 0 rfl ?_
      refine qj_iconst (v := 0) hx hb d_Typist_typeAfterLess_35 (by decide) ?_
      have hf9 := q_lt_s hf; clear hf; obtain ⟨M4, eM4, hf⟩ := hf9
      refine qj_puti (ty := .int) hx hb hts hin_6 ty_6 tyok_6 nm_6 hown hK (q_in (rfl : tcX 287 = 13) (by decide)) (en_13 (rfl : tcX 287 = 13)) rfl 3 (by decide) (hts _ tw_114) (fun _ h => h) rfl (by decide +kernel) rfl rfl (Nat.le_of_ble_eq_true rfl) (sp_13_3 (rfl : tcX 287 = 13)) eM4 d_Typist_typeAfterLess_36 ?_
      refine qj_aload_n hx hb d_Typist_typeAfterLess_39 rfl 0 rfl ?_
      refine qj_iconst (v := 5) hx hb d_Typist_typeAfterLess_40 (by decide) ?_
      have hf9 := q_lt_s hf; clear hf; obtain ⟨M5, eM5, hf⟩ := hf9
      refine qj_puti (ty := .int) hx hb hts hin_6 ty_6 tyok_6 nm_6 hown hK (q_in (rfl : tcX 287 = 13) (by decide)) (en_13 (rfl : tcX 287 = 13)) rfl 0 (by decide) (hts _ tw_3) (fun _ h => h) rfl (by decide +kernel) rfl rfl (Nat.le_of_ble_eq_true rfl) (sp_13_0 (rfl : tcX 287 = 13)) eM5 d_Typist_typeAfterLess_41 ?_
      exact hret _ _ _ d_Typist_typeAfterLess_44 (Option.some.inj hf)
    · replace hf := q_if_t hc2 hf
      refine qj_aload_n hx hb d_Typist_typeAfterLess_20 rfl 0 rfl ?_
      refine qj_bipush (v := 7) hx hb d_Typist_typeAfterLess_21 (by decide) ?_
      have hf9 := q_lt_s hf; clear hf; obtain ⟨M6, eM6, hf⟩ := hf9
      refine qj_puti (ty := .int) hx hb hts hin_6 ty_6 tyok_6 nm_6 hown hK (q_in (rfl : tcX 287 = 13) (by decide)) (en_13 (rfl : tcX 287 = 13)) rfl 0 (by decide) (hts _ tw_3) (fun _ h => h) rfl (by decide +kernel) rfl rfl (Nat.le_of_ble_eq_true rfl) (sp_13_0 (rfl : tcX 287 = 13)) eM6 d_Typist_typeAfterLess_23 ?_
      refine qj_goto (tgt := 44) hx hb d_Typist_typeAfterLess_26 (by decide) ?_
      exact hret _ _ _ d_Typist_typeAfterLess_44 (Option.some.inj hf)
  · replace hf := q_if_t hc1 hf
    refine qj_aload_n hx hb d_Typist_typeAfterLess_6 rfl 0 rfl ?_
    refine qj_iconst (v := 4) hx hb d_Typist_typeAfterLess_7 (by decide) ?_
    have hf9 := q_lt_s hf; clear hf; obtain ⟨M7, eM7, hf⟩ := hf9
    refine qj_puti (ty := .int) hx hb hts hin_6 ty_6 tyok_6 nm_6 hown hK (q_in (rfl : tcX 287 = 13) (by decide)) (en_13 (rfl : tcX 287 = 13)) rfl 0 (by decide) (hts _ tw_3) (fun _ h => h) rfl (by decide +kernel) rfl rfl (Nat.le_of_ble_eq_true rfl) (sp_13_0 (rfl : tcX 287 = 13)) eM7 d_Typist_typeAfterLess_8 ?_
    refine qj_goto (tgt := 44) hx hb d_Typist_typeAfterLess_11 (by decide) ?_
    exact hret _ _ _ d_Typist_typeAfterLess_44 (Option.some.inj hf)
theorem d_Typist_typeAfterLessSlash_0 : decode prog_12_method_8_code 0 = .ok (.iload_n 1, 1) := by decide +kernel
theorem d_Typist_typeAfterLessSlash_1 : decode prog_12_method_8_code 1 = .ok (.invokestatic 56, 3) := by decide +kernel
theorem d_Typist_typeAfterLessSlash_4 : decode prog_12_method_8_code 4 = .ok (.ifCond .eq 17, 3) := by decide +kernel
theorem d_Typist_typeAfterLessSlash_7 : decode prog_12_method_8_code 7 = .ok (.aload_n 0, 1) := by decide +kernel
theorem d_Typist_typeAfterLessSlash_8 : decode prog_12_method_8_code 8 = .ok (.iload_n 1, 1) := by decide +kernel
theorem d_Typist_typeAfterLessSlash_9 : decode prog_12_method_8_code 9 = .ok (.putfield 60, 3) := by decide +kernel
theorem d_Typist_typeAfterLessSlash_12 : decode prog_12_method_8_code 12 = .ok (.aload_n 0, 1) := by decide +kernel
theorem d_Typist_typeAfterLessSlash_13 : decode prog_12_method_8_code 13 = .ok (.bipush 6, 2) := by decide +kernel
theorem d_Typist_typeAfterLessSlash_15 : decode prog_12_method_8_code 15 = .ok (.putfield 9, 3) := by decide +kernel
theorem d_Typist_typeAfterLessSlash_18 : decode prog_12_method_8_code 18 = .ok (.goto 19, 3) := by decide +kernel
theorem d_Typist_typeAfterLessSlash_21 : decode prog_12_method_8_code 21 = .ok (.aload_n 0, 1) := by decide +kernel
theorem d_Typist_typeAfterLessSlash_22 : decode prog_12_method_8_code 22 = .ok (.iload_n 1, 1) := by decide +kernel
theorem d_Typist_typeAfterLessSlash_23 : decode prog_12_method_8_code 23 = .ok (.bipush 62, 2) := by decide +kernel
theorem d_Typist_typeAfterLessSlash_25 : decode prog_12_method_8_code 25 = .ok (.if_icmp .ne 7, 3) := by decide +kernel
theorem d_Typist_typeAfterLessSlash_28 : decode prog_12_method_8_code 28 = .ok (.iconst 0, 1) := by decide +kernel
theorem d_Typist_typeAfterLessSlash_29 : decode prog_12_method_8_code 29 = .ok (.goto 5, 3) := by decide +kernel
theorem d_Typist_typeAfterLessSlash_32 : decode prog_12_method_8_code 32 = .ok (.bipush 7, 2) := by decide +kernel
theorem d_Typist_typeAfterLessSlash_34 : decode prog_12_method_8_code 34 = .ok (.putfield 9, 3) := by decide +kernel
theorem d_Typist_typeAfterLessSlash_37 : decode prog_12_method_8_code 37 = .ok (.return_, 1) := by decide +kernel
def f_Typist_typeAfterLessSlash (a1 : Int32) (M : qM) : Option qM := q_bp (f_Pg_isSmall a1 M) fun x1 => if x1 = 0 then (q_lt (fun (x3 : Int32) => q_lt (qsI M 287 0 x3) fun M4 => some M4) fun (j5 : Int32 → Option qM) => if a1 = 62 then (j5 0) else (j5 7)) else (q_lt (qsI M 287 2 a1) fun M7 => q_lt (qsI M7 287 0 6) fun M8 => some M8)
abbrev rm_Typist_typeAfterLessSlash : Room := { frames := 1, cells := 0, slots := 0, locals := 20 }
set_option maxRecDepth 100000 in
set_option maxHeartbeats 4000000 in
theorem c_Typist_typeAfterLessSlash {l : Launch} {D : va_G} {dA : Nat → ClassId} {b : Nat} {adK adV : Nat → Nat} (a1 : Int32)  (M : qM) (out : qM) (hf : f_Typist_typeAfterLessSlash a1 M = some out) : CTv l y_Typist_typeAfterLessSlash w_Typist_typeAfterLessSlash rm_Typist_typeAfterLessSlash D (tysX dA) (enX dA b) 367 b (qX adK adV 367 b) [qr (some 287), qi a1] M out := by
  refine qm_v (cc := prog_12_method_8_code) (nL := 2) (by decide) rfl (Nat.le_of_ble_eq_true rfl) ?_
  intro p e s m args below meth c Q hx hb hts0 hown hml hK hs hret
  have hts : ∀ w ∈ lw_g, w.before args s = true := fun w h => hts0 w (List.mem_cons_of_mem _ h)
  show QJ p l e rm_Typist_typeAfterLessSlash s m args below meth c (qA 367 b) b 2 0 0 Q (qWd D (enX dA b) 367 b) M 0 [(0, qr (some 287)), (1, qi a1)] []
  unfold f_Typist_typeAfterLessSlash at hf
  refine qj_iload_n hx hb d_Typist_typeAfterLessSlash_0 rfl 1 rfl ?_
  have hf9 := q_bp_s hf; clear hf; obtain ⟨x1, hx1, hf⟩ := hf9
  refine qc_SNi (st := []) hx hb hml hown hts hK (qX_ok _ _ _ _) hs (c_Pg_isSmall a1 M _ hx1) ⟨(va_cnB 1 hts (q_good tw_7) rfl rfl rfl (hs.2.2.1 ("PlainPage$Typist", 56, y_Pg_isSmall, "PlainPage") (by decide +kernel)) (hts _ tw_4) (by decide +kernel) ⟨by decide, by decide⟩), (hts _ tw_8), trivial⟩ rfl rfl (Nat.le_of_ble_eq_true rfl) d_Typist_typeAfterLessSlash_1 ?_
  refine qj_if_eq (tgt := 21) hx hb d_Typist_typeAfterLessSlash_4 (by decide) (fun hc2 => ?_) (fun hc2 => ?_)
  · replace hf := q_if_t hc2 hf
    refine qj_aload_n hx hb d_Typist_typeAfterLessSlash_21 rfl 0 rfl ?_
    refine qj_iload_n hx hb d_Typist_typeAfterLessSlash_22 rfl 1 rfl ?_
    refine qj_bipush (v := 62) hx hb d_Typist_typeAfterLessSlash_23 (by decide) ?_
    have hf9 := q_lt_s hf; clear hf; obtain ⟨j5, ej5, hf⟩ := hf9
    have hj5 : ∀ (x3 : Int32), j5 x3 = some out → QJ p l e rm_Typist_typeAfterLessSlash s m args below meth c (qA 367 b) b 2 0 0 Q (qWd D (enX dA b) 367 b) M 34 [] [qi x3, qr (some 287)] := by
      clear hf
      intro x3 hf
      rw [ej5] at hf
      have hf9 := q_lt_s hf; clear hf; obtain ⟨M4, eM4, hf⟩ := hf9
      refine qj_puti (ty := .int) hx hb hts hin_6 ty_6 tyok_6 nm_6 hown hK (q_in (rfl : tcX 287 = 13) (by decide)) (en_13 (rfl : tcX 287 = 13)) rfl 0 (by decide) (hts _ tw_3) (fun _ h => h) rfl (by decide +kernel) rfl rfl (Nat.le_of_ble_eq_true rfl) (sp_13_0 (rfl : tcX 287 = 13)) eM4 d_Typist_typeAfterLessSlash_34 ?_
      exact hret _ _ _ d_Typist_typeAfterLessSlash_37 (Option.some.inj hf)
    refine qj_icmp_ne (tgt := 32) hx hb d_Typist_typeAfterLessSlash_25 (by decide) (fun hc6 => ?_) (fun hc6 => ?_)
    · replace hf := q_if_f hc6 hf
      refine qj_bipush (v := 7) hx hb d_Typist_typeAfterLessSlash_32 (by decide) ?_
      refine qj_sub [] rfl ?_
      exact hj5 7 hf
    · replace hf := q_if_t hc6 hf
      refine qj_iconst (v := 0) hx hb d_Typist_typeAfterLessSlash_28 (by decide) ?_
      refine qj_goto (tgt := 34) hx hb d_Typist_typeAfterLessSlash_29 (by decide) ?_
      refine qj_sub [] rfl ?_
      exact hj5 0 hf
  · replace hf := q_if_f hc2 hf
    refine qj_aload_n hx hb d_Typist_typeAfterLessSlash_7 rfl 0 rfl ?_
    refine qj_iload_n hx hb d_Typist_typeAfterLessSlash_8 rfl 1 rfl ?_
    have hf9 := q_lt_s hf; clear hf; obtain ⟨M7, eM7, hf⟩ := hf9
    refine qj_puti (ty := .int) hx hb hts hin_6 ty_6 tyok_6 nm_6 hown hK (q_in (rfl : tcX 287 = 13) (by decide)) (en_13 (rfl : tcX 287 = 13)) rfl 2 (by decide) (hts _ tw_113) (fun _ h => h) rfl (by decide +kernel) rfl rfl (Nat.le_of_ble_eq_true rfl) (sp_13_2 (rfl : tcX 287 = 13)) eM7 d_Typist_typeAfterLessSlash_9 ?_
    refine qj_aload_n hx hb d_Typist_typeAfterLessSlash_12 rfl 0 rfl ?_
    refine qj_bipush (v := 6) hx hb d_Typist_typeAfterLessSlash_13 (by decide) ?_
    have hf9 := q_lt_s hf; clear hf; obtain ⟨M8, eM8, hf⟩ := hf9
    refine qj_puti (ty := .int) hx hb hts hin_6 ty_6 tyok_6 nm_6 hown hK (q_in (rfl : tcX 287 = 13) (by decide)) (en_13 (rfl : tcX 287 = 13)) rfl 0 (by decide) (hts _ tw_3) (fun _ h => h) rfl (by decide +kernel) rfl rfl (Nat.le_of_ble_eq_true rfl) (sp_13_0 (rfl : tcX 287 = 13)) eM8 d_Typist_typeAfterLessSlash_15 ?_
    refine qj_goto (tgt := 37) hx hb d_Typist_typeAfterLessSlash_18 (by decide) ?_
    exact hret _ _ _ d_Typist_typeAfterLessSlash_37 (Option.some.inj hf)
theorem d_Pg_isCapital_0 : decode prog_1_method_23_code 0 = .ok (.iload_n 0, 1) := by decide +kernel
theorem d_Pg_isCapital_1 : decode prog_1_method_23_code 1 = .ok (.bipush 65, 2) := by decide +kernel
theorem d_Pg_isCapital_3 : decode prog_1_method_23_code 3 = .ok (.if_icmp .lt 13, 3) := by decide +kernel
theorem d_Pg_isCapital_6 : decode prog_1_method_23_code 6 = .ok (.iload_n 0, 1) := by decide +kernel
theorem d_Pg_isCapital_7 : decode prog_1_method_23_code 7 = .ok (.bipush 90, 2) := by decide +kernel
theorem d_Pg_isCapital_9 : decode prog_1_method_23_code 9 = .ok (.if_icmp .gt 7, 3) := by decide +kernel
theorem d_Pg_isCapital_12 : decode prog_1_method_23_code 12 = .ok (.iconst 1, 1) := by decide +kernel
theorem d_Pg_isCapital_13 : decode prog_1_method_23_code 13 = .ok (.goto 4, 3) := by decide +kernel
theorem d_Pg_isCapital_16 : decode prog_1_method_23_code 16 = .ok (.iconst 0, 1) := by decide +kernel
theorem d_Pg_isCapital_17 : decode prog_1_method_23_code 17 = .ok (.ireturn, 1) := by decide +kernel
def f_Pg_isCapital (a0 : Int32) (M : qM) : Option Int32 := if a0 < 65 then (some 0) else (if 90 < a0 then (some 0) else (some 1))
abbrev rm_Pg_isCapital : Room := { frames := 0, cells := 0, slots := 0, locals := 0 }
set_option maxRecDepth 100000 in
set_option maxHeartbeats 4000000 in
theorem c_Pg_isCapital {l : Launch} {D : va_G} {dA : Nat → ClassId} {b : Nat} {adK adV : Nat → Nat} (a0 : Int32)  (M : qM) (out : Int32) (hf : f_Pg_isCapital a0 M = some out) : CTi l y_Pg_isCapital w_Pg_isCapital rm_Pg_isCapital D (tysX dA) (enX dA b) 367 b (qX adK adV 367 b) [qi a0] M (out, M) := by
  refine qm_z (cc := prog_1_method_23_code) (nL := 1) (by decide) rfl (Nat.le_of_ble_eq_true rfl) ?_
  intro p e s m args below meth c Q hx hb hts0 hown hml hK hs hret
  have hts : ∀ w ∈ lw_g, w.before args s = true := fun w h => hts0 w (List.mem_cons_of_mem _ h)
  show QJ p l e rm_Pg_isCapital s m args below meth c (qA 367 b) b 1 0 0 Q (qWd D (enX dA b) 367 b) M 0 [(0, qi a0)] []
  unfold f_Pg_isCapital at hf
  refine qj_iload_n hx hb d_Pg_isCapital_0 rfl 0 rfl ?_
  refine qj_bipush (v := 65) hx hb d_Pg_isCapital_1 (by decide) ?_
  refine qj_icmp_lt (tgt := 16) hx hb d_Pg_isCapital_3 (by decide) (fun hc1 => ?_) (fun hc1 => ?_)
  · replace hf := q_if_t hc1 hf
    refine qj_iconst (v := 0) hx hb d_Pg_isCapital_16 (by decide) ?_
    exact hret _ _ _ _ (Or.inl rfl) d_Pg_isCapital_17 (congrArg (fun z => (z, M)) (Option.some.inj hf))
  · replace hf := q_if_f hc1 hf
    refine qj_iload_n hx hb d_Pg_isCapital_6 rfl 0 rfl ?_
    refine qj_bipush (v := 90) hx hb d_Pg_isCapital_7 (by decide) ?_
    refine qj_icmp_gt (tgt := 16) hx hb d_Pg_isCapital_9 (by decide) (fun hc2 => ?_) (fun hc2 => ?_)
    · replace hf := q_if_t hc2 hf
      refine qj_iconst (v := 0) hx hb d_Pg_isCapital_16 (by decide) ?_
      exact hret _ _ _ _ (Or.inl rfl) d_Pg_isCapital_17 (congrArg (fun z => (z, M)) (Option.some.inj hf))
    · replace hf := q_if_f hc2 hf
      refine qj_iconst (v := 1) hx hb d_Pg_isCapital_12 (by decide) ?_
      refine qj_goto (tgt := 17) hx hb d_Pg_isCapital_13 (by decide) ?_
      exact hret _ _ _ _ (Or.inr rfl) d_Pg_isCapital_17 (congrArg (fun z => (z, M)) (Option.some.inj hf))
theorem d_OpenStack_inReach_0 : decode prog_7_method_4_code 0 = .ok (.aload_n 0, 1) := by decide +kernel
theorem d_OpenStack_inReach_1 : decode prog_7_method_4_code 1 = .ok (.getfield 17, 3) := by decide +kernel
theorem d_OpenStack_inReach_4 : decode prog_7_method_4_code 4 = .ok (.iconst 1, 1) := by decide +kernel
theorem d_OpenStack_inReach_5 : decode prog_7_method_4_code 5 = .ok (.isub, 1) := by decide +kernel
theorem d_OpenStack_inReach_6 : decode prog_7_method_4_code 6 = .ok (.istore_n 3, 1) := by decide +kernel
theorem d_OpenStack_inReach_7 : decode prog_7_method_4_code 7 = .ok (.iload_n 3, 1) := by decide +kernel
theorem d_OpenStack_inReach_8 : decode prog_7_method_4_code 8 = .ok (.ifCond .lt 47, 3) := by decide +kernel
theorem d_OpenStack_inReach_11 : decode prog_7_method_4_code 11 = .ok (.aload_n 0, 1) := by decide +kernel
theorem d_OpenStack_inReach_12 : decode prog_7_method_4_code 12 = .ok (.getfield 11, 3) := by decide +kernel
theorem d_OpenStack_inReach_15 : decode prog_7_method_4_code 15 = .ok (.iload_n 3, 1) := by decide +kernel
theorem d_OpenStack_inReach_16 : decode prog_7_method_4_code 16 = .ok (.aaload, 1) := by decide +kernel
theorem d_OpenStack_inReach_17 : decode prog_7_method_4_code 17 = .ok (.getfield 25, 3) := by decide +kernel
theorem d_OpenStack_inReach_20 : decode prog_7_method_4_code 20 = .ok (.iload_n 1, 1) := by decide +kernel
theorem d_OpenStack_inReach_21 : decode prog_7_method_4_code 21 = .ok (.if_icmp .ne 10, 3) := by decide +kernel
theorem d_OpenStack_inReach_24 : decode prog_7_method_4_code 24 = .ok (.aload_n 0, 1) := by decide +kernel
theorem d_OpenStack_inReach_25 : decode prog_7_method_4_code 25 = .ok (.getfield 11, 3) := by decide +kernel
theorem d_OpenStack_inReach_28 : decode prog_7_method_4_code 28 = .ok (.iload_n 3, 1) := by decide +kernel
theorem d_OpenStack_inReach_29 : decode prog_7_method_4_code 29 = .ok (.aaload, 1) := by decide +kernel
theorem d_OpenStack_inReach_30 : decode prog_7_method_4_code 30 = .ok (.areturn, 1) := by decide +kernel
theorem d_OpenStack_inReach_31 : decode prog_7_method_4_code 31 = .ok (.aload_n 0, 1) := by decide +kernel
theorem d_OpenStack_inReach_32 : decode prog_7_method_4_code 32 = .ok (.getfield 11, 3) := by decide +kernel
theorem d_OpenStack_inReach_35 : decode prog_7_method_4_code 35 = .ok (.iload_n 3, 1) := by decide +kernel
theorem d_OpenStack_inReach_36 : decode prog_7_method_4_code 36 = .ok (.aaload, 1) := by decide +kernel
theorem d_OpenStack_inReach_37 : decode prog_7_method_4_code 37 = .ok (.getfield 25, 3) := by decide +kernel
theorem d_OpenStack_inReach_40 : decode prog_7_method_4_code 40 = .ok (.aload_n 2, 1) := by decide +kernel
theorem d_OpenStack_inReach_41 : decode prog_7_method_4_code 41 = .ok (.invokestatic 28, 3) := by decide +kernel
theorem d_OpenStack_inReach_44 : decode prog_7_method_4_code 44 = .ok (.ifCond .eq 5, 3) := by decide +kernel
theorem d_OpenStack_inReach_47 : decode prog_7_method_4_code 47 = .ok (.aconst_null, 1) := by decide +kernel
theorem d_OpenStack_inReach_48 : decode prog_7_method_4_code 48 = .ok (.areturn, 1) := by decide +kernel
theorem d_OpenStack_inReach_49 : decode prog_7_method_4_code 49 = .ok (.iinc 3 (-1), 3) := by decide +kernel
theorem d_OpenStack_inReach_52 : decode prog_7_method_4_code 52 = .ok (.goto (-45), 3) := by decide +kernel
theorem d_OpenStack_inReach_55 : decode prog_7_method_4_code 55 = .ok (.aconst_null, 1) := by decide +kernel
theorem d_OpenStack_inReach_56 : decode prog_7_method_4_code 56 = .ok (.areturn, 1) := by decide +kernel
def f_OpenStack_inReach_7 (M : qM) (a1 : Int32) (n2 : Nat) : Nat → (Option (Option Nat)) → Int32 → Option (Option Nat)
  | 0, _, _ => none
  | n + 1, K2, x1 => if x1 < 0 then (K2) else (q_ix x1 24 <| q_lt (M.2 6 x1.toNatClampNeg) fun r5 => q_nn r5 fun o6 => if (M.1 o6 0) = a1 then (q_ix x1 24 <| q_lt (M.2 6 x1.toNatClampNeg) fun r14 => some r14) else (q_ix x1 24 <| q_lt (M.2 6 x1.toNatClampNeg) fun r9 => q_nn r9 fun o10 => q_bp (f_Pg_isOneOf (M.1 o10 0) n2 M) fun x11 => if x11 = 0 then (f_OpenStack_inReach_7 M a1 n2 n K2 (x1 + (-1))) else (some none)))
def f_OpenStack_inReach (a1 : Int32) (n2 : Nat) (M : qM) : Option (Option Nat) := f_OpenStack_inReach_7 M a1 n2 1000 (some none) ((M.1 5 1) - 1)
abbrev rm_OpenStack_inReach : Room := { frames := 11, cells := 0, slots := 0, locals := 442 }
set_option maxRecDepth 100000 in
set_option maxHeartbeats 4000000 in
theorem c_OpenStack_inReach {l : Launch} {D : va_G} {dA : Nat → ClassId} {b : Nat} {adK adV : Nat → Nat} (a1 : Int32) (n2 : Nat)  (M : qM) (out : Option Nat) (hf : f_OpenStack_inReach a1 n2 M = some out) : CTr l y_OpenStack_inReach w_OpenStack_inReach rm_OpenStack_inReach D (tysX dA) (enX dA b) 367 b (qX adK adV 367 b) 7 [qr (some 5), qi a1, qa (adK n2)] M (out, M) := by
  refine qm_r (tt := 7) (cc := prog_7_method_4_code) (nL := 4) (by decide) rfl (Or.inl ⟨_, rfl⟩) (Nat.le_of_ble_eq_true rfl) ?_
  intro p e s m args below meth c Q hx hb hts0 hown hml hK hs hret
  have hts : ∀ w ∈ lw_g, w.before args s = true := fun w h => hts0 w (List.mem_cons_of_mem _ h)
  show QJ p l e rm_OpenStack_inReach s m args below meth c (qA 367 b) b 4 0 0 Q (qWd D (enX dA b) 367 b) M 0 [(0, qr (some 5)), (1, qi a1), (2, qa (adK n2))] []
  unfold f_OpenStack_inReach at hf
  refine qj_aload_n hx hb d_OpenStack_inReach_0 rfl 0 rfl ?_
  refine qj_get hx hb hts hin_4 hown hK (q_in (rfl : tcX 5 = 5) (by decide)) (en_5 (rfl : tcX 5 = 5)) rfl 1 (by decide) (hts _ tw_9) (fun _ h => h) (qi (M.1 5 1)) rfl d_OpenStack_inReach_1 ?_
  refine qj_iconst (v := 1) hx hb d_OpenStack_inReach_4 (by decide) ?_
  refine qj_isub hx hb d_OpenStack_inReach_5 ?_
  refine qj_istore_n hx hb d_OpenStack_inReach_6 rfl (by decide) rfl ?_
  have hL7 : ∀ (n : Nat) (K2 : Option (Option Nat)), (K2 = some out → QJ p l e rm_OpenStack_inReach s m args below meth c (qA 367 b) b 4 0 0 Q (qWd D (enX dA b) 367 b) M 55 [] []) → ∀ (x1 : Int32), f_OpenStack_inReach_7 M a1 n2 n K2 x1 = some out → QJ p l e rm_OpenStack_inReach s m args below meth c (qA 367 b) b 4 0 0 Q (qWd D (enX dA b) 367 b) M 7 [(0, qr (some 5)), (1, qi a1), (2, qa (adK n2)), (3, qi x1)] [] := by
    clear hf
    intro n
    induction n with
    | zero =>
      intro K2 hK2 x1 hf
      exact absurd hf (by simp [f_OpenStack_inReach_7])
    | succ n ih7 =>
      intro K2 hK2 x1 hf
      rw [f_OpenStack_inReach_7] at hf
      have ih7 := ih7 K2 hK2
      refine qj_iload_n hx hb d_OpenStack_inReach_7 rfl 3 rfl ?_
      refine qj_if_lt (tgt := 55) hx hb d_OpenStack_inReach_8 (by decide) (fun hc3 => ?_) (fun hc3 => ?_)
      · replace hf := q_if_t hc3 hf
        refine qj_sub [] rfl ?_
        exact hK2  hf
      · replace hf := q_if_f hc3 hf
        refine qj_aload_n hx hb d_OpenStack_inReach_11 rfl 0 rfl ?_
        refine qj_get hx hb hts hin_4 hown hK (q_in (rfl : tcX 5 = 5) (by decide)) (en_5 (rfl : tcX 5 = 5)) rfl 0 (by decide) (hts _ tw_10) (fun _ h => h) (qr (some 6)) rfl d_OpenStack_inReach_12 ?_
        refine qj_iload_n hx hb d_OpenStack_inReach_15 rfl 3 rfl ?_
        have hf9 := q_ix_s hf; clear hf; obtain ⟨hi4, hf⟩ := hf9
        have hf9 := q_lt_s hf; clear hf; obtain ⟨r5, er5, hf⟩ := hf9
        refine qj_w fun w => ?_
        have tr5 : ∀ o, r5 = some o → tcX o = 7 := fun o h => (w _ _ o (er5.symm.trans h)).trans (by rw [(rfl : tcX 6 = 6)] <;> rfl)
        refine qj_aald (t0 := 3) (f := M.2 6) hx hb hK (q_in (rfl : tcX 6 = 6) (by decide)) (en_6 (rfl : tcX 6 = 6) _ _) rfl hi4 d_OpenStack_inReach_16 ?_
        rw [← er5]
        have hf9 := q_nn_s hf; clear hf; obtain ⟨o6, rfl, hf⟩ := hf9
        refine qj_get hx hb hts hin_3 hown hK (q_in (tr5 _ rfl) (by decide)) (en_7 (tr5 _ rfl)) rfl 0 (by decide) (hts _ tw_11) (fun _ h => h) (qi (M.1 o6 0)) rfl d_OpenStack_inReach_17 ?_
        refine qj_iload_n hx hb d_OpenStack_inReach_20 rfl 1 rfl ?_
        refine qj_icmp_ne (tgt := 31) hx hb d_OpenStack_inReach_21 (by decide) (fun hc7 => ?_) (fun hc7 => ?_)
        · replace hf := q_if_f hc7 hf
          refine qj_aload_n hx hb d_OpenStack_inReach_31 rfl 0 rfl ?_
          refine qj_get hx hb hts hin_4 hown hK (q_in (rfl : tcX 5 = 5) (by decide)) (en_5 (rfl : tcX 5 = 5)) rfl 0 (by decide) (hts _ tw_10) (fun _ h => h) (qr (some 6)) rfl d_OpenStack_inReach_32 ?_
          refine qj_iload_n hx hb d_OpenStack_inReach_35 rfl 3 rfl ?_
          have hf9 := q_ix_s hf; clear hf; obtain ⟨hi8, hf⟩ := hf9
          have hf9 := q_lt_s hf; clear hf; obtain ⟨r9, er9, hf⟩ := hf9
          refine qj_w fun w => ?_
          have tr9 : ∀ o, r9 = some o → tcX o = 7 := fun o h => (w _ _ o (er9.symm.trans h)).trans (by rw [(rfl : tcX 6 = 6)] <;> rfl)
          refine qj_aald (t0 := 3) (f := M.2 6) hx hb hK (q_in (rfl : tcX 6 = 6) (by decide)) (en_6 (rfl : tcX 6 = 6) _ _) rfl hi8 d_OpenStack_inReach_36 ?_
          rw [← er9]
          have hf9 := q_nn_s hf; clear hf; obtain ⟨o10, rfl, hf⟩ := hf9
          refine qj_get hx hb hts hin_3 hown hK (q_in (tr9 _ rfl) (by decide)) (en_7 (tr9 _ rfl)) rfl 0 (by decide) (hts _ tw_11) (fun _ h => h) (qi (M.1 o10 0)) rfl d_OpenStack_inReach_37 ?_
          refine qj_aloadA_n hx hb d_OpenStack_inReach_40 rfl 2 rfl ?_
          have hf9 := q_bp_s hf; clear hf; obtain ⟨x11, hx11, hf⟩ := hf9
          refine qc_SNi (st := []) hx hb hml hown hts hK (qX_ok _ _ _ _) hs (c_Pg_isOneOf (M.1 o10 0) n2 M _ hx11) ⟨(va_cnB 2 hts (q_good tw_5) rfl rfl rfl (hs.2.2.1 ("PlainPage$OpenStack", 28, y_Pg_isOneOf, "PlainPage") (by decide +kernel)) (hts _ tw_4) (by decide +kernel) ⟨by decide, by decide⟩), (hts _ tw_6), trivial⟩ rfl rfl (Nat.le_of_ble_eq_true rfl) d_OpenStack_inReach_41 ?_
          refine qj_if_eq (tgt := 49) hx hb d_OpenStack_inReach_44 (by decide) (fun hc12 => ?_) (fun hc12 => ?_)
          · replace hf := q_if_t hc12 hf
            refine qj_iinc (j := 3) (v := x1 + (-1)) hx hb d_OpenStack_inReach_49 rfl rfl (by decide) rfl ?_
            refine qj_goto (tgt := 7) hx hb d_OpenStack_inReach_52 (by decide) ?_
            refine qj_sub [1, 2, 3, 0] rfl ?_
            exact ih7 (x1 + (-1)) hf
          · replace hf := q_if_f hc12 hf
            refine qj_null hx hb d_OpenStack_inReach_47 ?_
            exact hret _ _ _ _ q_tn d_OpenStack_inReach_48 (congrArg (fun z => (z, M)) (Option.some.inj hf))
        · replace hf := q_if_t hc7 hf
          refine qj_aload_n hx hb d_OpenStack_inReach_24 rfl 0 rfl ?_
          refine qj_get hx hb hts hin_4 hown hK (q_in (rfl : tcX 5 = 5) (by decide)) (en_5 (rfl : tcX 5 = 5)) rfl 0 (by decide) (hts _ tw_10) (fun _ h => h) (qr (some 6)) rfl d_OpenStack_inReach_25 ?_
          refine qj_iload_n hx hb d_OpenStack_inReach_28 rfl 3 rfl ?_
          have hf9 := q_ix_s hf; clear hf; obtain ⟨hi13, hf⟩ := hf9
          have hf9 := q_lt_s hf; clear hf; obtain ⟨r14, er14, hf⟩ := hf9
          refine qj_w fun w => ?_
          have tr14 : ∀ o, r14 = some o → tcX o = 7 := fun o h => (w _ _ o (er14.symm.trans h)).trans (by rw [(rfl : tcX 6 = 6)] <;> rfl)
          refine qj_aald (t0 := 3) (f := M.2 6) hx hb hK (q_in (rfl : tcX 6 = 6) (by decide)) (en_6 (rfl : tcX 6 = 6) _ _) rfl hi13 d_OpenStack_inReach_29 ?_
          rw [← er14]
          exact hret _ _ _ _ tr14 d_OpenStack_inReach_30 (congrArg (fun z => (z, M)) (Option.some.inj hf))
  refine qj_sub [1, 2, 3, 0] rfl ?_
  refine hL7 _ _ (fun hf9 => ?_) ((M.1 5 1) - 1) hf
  clear hf; have hf := hf9; clear hf9
  refine qj_null hx hb d_OpenStack_inReach_55 ?_
  exact hret _ _ _ _ q_tn d_OpenStack_inReach_56 (congrArg (fun z => (z, M)) (Option.some.inj hf))
theorem d_OpenStack_rowOfTable_0 : decode prog_7_method_6_code 0 = .ok (.aload_n 0, 1) := by decide +kernel
theorem d_OpenStack_rowOfTable_1 : decode prog_7_method_6_code 1 = .ok (.bipush 114, 2) := by decide +kernel
theorem d_OpenStack_rowOfTable_3 : decode prog_7_method_6_code 3 = .ok (.ldc 32, 2) := by decide +kernel
theorem d_OpenStack_rowOfTable_5 : decode prog_7_method_6_code 5 = .ok (.invokevirtual 34, 3) := by decide +kernel
theorem d_OpenStack_rowOfTable_8 : decode prog_7_method_6_code 8 = .ok (.areturn, 1) := by decide +kernel
def f_OpenStack_rowOfTable  (M : qM) : Option (Option Nat) := q_bp (f_OpenStack_inReach 114 2 M) fun r1 => some r1
abbrev rm_OpenStack_rowOfTable : Room := { frames := 12, cells := 0, slots := 0, locals := 465 }
set_option maxRecDepth 100000 in
set_option maxHeartbeats 4000000 in
theorem c_OpenStack_rowOfTable {l : Launch} {D : va_G} {dA : Nat → ClassId} {b : Nat} {adK adV : Nat → Nat}   (M : qM) (out : Option Nat) (hf : f_OpenStack_rowOfTable M = some out) : CTr l y_OpenStack_rowOfTable w_OpenStack_rowOfTable rm_OpenStack_rowOfTable D (tysX dA) (enX dA b) 367 b (qX adK adV 367 b) 7 [qr (some 5)] M (out, M) := by
  refine qm_r (tt := 7) (cc := prog_7_method_6_code) (nL := 1) (by decide) rfl (Or.inl ⟨_, rfl⟩) (Nat.le_of_ble_eq_true rfl) ?_
  intro p e s m args below meth c Q hx hb hts0 hown hml hK hs hret
  have hts : ∀ w ∈ lw_g, w.before args s = true := fun w h => hts0 w (List.mem_cons_of_mem _ h)
  show QJ p l e rm_OpenStack_rowOfTable s m args below meth c (qA 367 b) b 1 0 0 Q (qWd D (enX dA b) 367 b) M 0 [(0, qr (some 5))] []
  unfold f_OpenStack_rowOfTable at hf
  refine qj_aload_n hx hb d_OpenStack_rowOfTable_0 rfl 0 rfl ?_
  refine qj_bipush (v := 114) hx hb d_OpenStack_rowOfTable_1 (by decide) ?_
  refine qj_ldcS hx hb hown (hs.2.1 ("PlainPage$OpenStack", 32, "t", 2) (by decide +kernel)) d_OpenStack_rowOfTable_3 ?_
  have hf9 := q_bp_s hf; clear hf; obtain ⟨r1, hr1, hf⟩ := hf9
  refine qc_Vr (st := []) hx hb hml hown hts hK (qX_ok _ _ _ _) hs (c_OpenStack_inReach 114 2 M _ hr1) ⟨(callB_of 2 hts (q_good tw_115) rfl rfl rfl (hts _ tw_13) (hts _ tw_116) (by decide +kernel) ⟨by decide, by decide⟩), (hts _ tw_117), (hts _ tw_118)⟩ (q_in (rfl : tcX 5 = 5) (by decide)) (en_5 (rfl : tcX 5 = 5)) rfl rfl rfl (Nat.le_of_ble_eq_true rfl) d_OpenStack_rowOfTable_5 (fun tr1 => ?_)
  exact hret _ _ _ _ tr1 d_OpenStack_rowOfTable_8 (congrArg (fun z => (z, M)) (Option.some.inj hf))
theorem d_OpenStack_indexOf_0 : decode prog_7_method_8_code 0 = .ok (.iconst 0, 1) := by decide +kernel
theorem d_OpenStack_indexOf_1 : decode prog_7_method_8_code 1 = .ok (.istore_n 2, 1) := by decide +kernel
theorem d_OpenStack_indexOf_2 : decode prog_7_method_8_code 2 = .ok (.iload_n 2, 1) := by decide +kernel
theorem d_OpenStack_indexOf_3 : decode prog_7_method_8_code 3 = .ok (.aload_n 0, 1) := by decide +kernel
theorem d_OpenStack_indexOf_4 : decode prog_7_method_8_code 4 = .ok (.getfield 17, 3) := by decide +kernel
theorem d_OpenStack_indexOf_7 : decode prog_7_method_8_code 7 = .ok (.if_icmp .ge 21, 3) := by decide +kernel
theorem d_OpenStack_indexOf_10 : decode prog_7_method_8_code 10 = .ok (.aload_n 0, 1) := by decide +kernel
theorem d_OpenStack_indexOf_11 : decode prog_7_method_8_code 11 = .ok (.getfield 11, 3) := by decide +kernel
theorem d_OpenStack_indexOf_14 : decode prog_7_method_8_code 14 = .ok (.iload_n 2, 1) := by decide +kernel
theorem d_OpenStack_indexOf_15 : decode prog_7_method_8_code 15 = .ok (.aaload, 1) := by decide +kernel
theorem d_OpenStack_indexOf_16 : decode prog_7_method_8_code 16 = .ok (.aload_n 1, 1) := by decide +kernel
theorem d_OpenStack_indexOf_17 : decode prog_7_method_8_code 17 = .ok (.if_acmp .ne 5, 3) := by decide +kernel
theorem d_OpenStack_indexOf_20 : decode prog_7_method_8_code 20 = .ok (.iload_n 2, 1) := by decide +kernel
theorem d_OpenStack_indexOf_21 : decode prog_7_method_8_code 21 = .ok (.ireturn, 1) := by decide +kernel
theorem d_OpenStack_indexOf_22 : decode prog_7_method_8_code 22 = .ok (.iinc 2 1, 3) := by decide +kernel
theorem d_OpenStack_indexOf_25 : decode prog_7_method_8_code 25 = .ok (.goto (-23), 3) := by decide +kernel
theorem d_OpenStack_indexOf_28 : decode prog_7_method_8_code 28 = .ok (.aload_n 0, 1) := by decide +kernel
theorem d_OpenStack_indexOf_29 : decode prog_7_method_8_code 29 = .ok (.getfield 17, 3) := by decide +kernel
theorem d_OpenStack_indexOf_32 : decode prog_7_method_8_code 32 = .ok (.ireturn, 1) := by decide +kernel
def f_OpenStack_indexOf_2 (M : qM) (p1 : Option Nat) : Nat → (Option Int32) → Int32 → Option Int32
  | 0, _, _ => none
  | n + 1, K2, x1 => if (M.1 5 1) ≤ x1 then (K2) else (q_ix x1 24 <| q_lt (M.2 6 x1.toNatClampNeg) fun r5 => if r5 = p1 then (some x1) else (f_OpenStack_indexOf_2 M p1 n K2 (x1 + 1)))
def f_OpenStack_indexOf (p1 : Option Nat) (M : qM) : Option Int32 := f_OpenStack_indexOf_2 M p1 1000 (some (M.1 5 1)) 0
abbrev rm_OpenStack_indexOf : Room := { frames := 0, cells := 0, slots := 0, locals := 0 }
set_option maxRecDepth 100000 in
set_option maxHeartbeats 4000000 in
theorem c_OpenStack_indexOf {l : Launch} {D : va_G} {dA : Nat → ClassId} {b : Nat} {adK adV : Nat → Nat} (p1 : Option Nat) (tp1 : ∀ o, p1 = some o → tcX o = 7) (M : qM) (out : Int32) (hf : f_OpenStack_indexOf p1 M = some out) : CTi l y_OpenStack_indexOf w_OpenStack_indexOf rm_OpenStack_indexOf D (tysX dA) (enX dA b) 367 b (qX adK adV 367 b) [qr (some 5), qr p1] M (out, M) := by
  refine qm_i (cc := prog_7_method_8_code) (nL := 3) (by decide) rfl (Nat.le_of_ble_eq_true rfl) ?_
  intro p e s m args below meth c Q hx hb hts0 hown hml hK hs hret
  have hts : ∀ w ∈ lw_g, w.before args s = true := fun w h => hts0 w (List.mem_cons_of_mem _ h)
  show QJ p l e rm_OpenStack_indexOf s m args below meth c (qA 367 b) b 3 0 0 Q (qWd D (enX dA b) 367 b) M 0 [(0, qr (some 5)), (1, qr p1)] []
  unfold f_OpenStack_indexOf at hf
  refine qj_iconst (v := 0) hx hb d_OpenStack_indexOf_0 (by decide) ?_
  refine qj_istore_n hx hb d_OpenStack_indexOf_1 rfl (by decide) rfl ?_
  have hL2 : ∀ (n : Nat) (K2 : Option Int32), (K2 = some out → QJ p l e rm_OpenStack_indexOf s m args below meth c (qA 367 b) b 3 0 0 Q (qWd D (enX dA b) 367 b) M 28 [(0, qr (some 5))] []) → ∀ (x1 : Int32), f_OpenStack_indexOf_2 M p1 n K2 x1 = some out → QJ p l e rm_OpenStack_indexOf s m args below meth c (qA 367 b) b 3 0 0 Q (qWd D (enX dA b) 367 b) M 2 [(0, qr (some 5)), (1, qr p1), (2, qi x1)] [] := by
    clear hf
    intro n
    induction n with
    | zero =>
      intro K2 hK2 x1 hf
      exact absurd hf (by simp [f_OpenStack_indexOf_2])
    | succ n ih2 =>
      intro K2 hK2 x1 hf
      rw [f_OpenStack_indexOf_2] at hf
      have ih2 := ih2 K2 hK2
      refine qj_iload_n hx hb d_OpenStack_indexOf_2 rfl 2 rfl ?_
      refine qj_aload_n hx hb d_OpenStack_indexOf_3 rfl 0 rfl ?_
      refine qj_get hx hb hts hin_4 hown hK (q_in (rfl : tcX 5 = 5) (by decide)) (en_5 (rfl : tcX 5 = 5)) rfl 1 (by decide) (hts _ tw_9) (fun _ h => h) (qi (M.1 5 1)) rfl d_OpenStack_indexOf_4 ?_
      refine qj_icmp_ge (tgt := 28) hx hb d_OpenStack_indexOf_7 (by decide) (fun hc3 => ?_) (fun hc3 => ?_)
      · replace hf := q_if_t hc3 hf
        refine qj_sub [0] rfl ?_
        exact hK2  hf
      · replace hf := q_if_f hc3 hf
        refine qj_aload_n hx hb d_OpenStack_indexOf_10 rfl 0 rfl ?_
        refine qj_get hx hb hts hin_4 hown hK (q_in (rfl : tcX 5 = 5) (by decide)) (en_5 (rfl : tcX 5 = 5)) rfl 0 (by decide) (hts _ tw_10) (fun _ h => h) (qr (some 6)) rfl d_OpenStack_indexOf_11 ?_
        refine qj_iload_n hx hb d_OpenStack_indexOf_14 rfl 2 rfl ?_
        have hf9 := q_ix_s hf; clear hf; obtain ⟨hi4, hf⟩ := hf9
        have hf9 := q_lt_s hf; clear hf; obtain ⟨r5, er5, hf⟩ := hf9
        refine qj_w fun w => ?_
        have tr5 : ∀ o, r5 = some o → tcX o = 7 := fun o h => (w _ _ o (er5.symm.trans h)).trans (by rw [(rfl : tcX 6 = 6)] <;> rfl)
        refine qj_aald (t0 := 3) (f := M.2 6) hx hb hK (q_in (rfl : tcX 6 = 6) (by decide)) (en_6 (rfl : tcX 6 = 6) _ _) rfl hi4 d_OpenStack_indexOf_15 ?_
        rw [← er5]
        refine qj_aload_n hx hb d_OpenStack_indexOf_16 rfl 1 rfl ?_
        refine qj_acmp_ne (tgt := 22) hx hb d_OpenStack_indexOf_17 (by decide) (fun hc6 => ?_) (fun hc6 => ?_)
        · replace hf := q_if_f hc6 hf
          refine qj_iinc (j := 2) (v := x1 + 1) hx hb d_OpenStack_indexOf_22 rfl rfl (by decide) rfl ?_
          refine qj_goto (tgt := 2) hx hb d_OpenStack_indexOf_25 (by decide) ?_
          refine qj_sub [1, 2, 0] rfl ?_
          exact ih2 (x1 + 1) hf
        · replace hf := q_if_t hc6 hf
          refine qj_iload_n hx hb d_OpenStack_indexOf_20 rfl 2 rfl ?_
          exact hret _ _ _ _ d_OpenStack_indexOf_21 (congrArg (fun z => (z, M)) (Option.some.inj hf))
  refine qj_sub [1, 2, 0] rfl ?_
  refine hL2 _ _ (fun hf9 => ?_) 0 hf
  clear hf; have hf := hf9; clear hf9
  refine qj_aload_n hx hb d_OpenStack_indexOf_28 rfl 0 rfl ?_
  refine qj_get hx hb hts hin_4 hown hK (q_in (rfl : tcX 5 = 5) (by decide)) (en_5 (rfl : tcX 5 = 5)) rfl 1 (by decide) (hts _ tw_9) (fun _ h => h) (qi (M.1 5 1)) rfl d_OpenStack_indexOf_29 ?_
  exact hret _ _ _ _ d_OpenStack_indexOf_32 (congrArg (fun z => (z, M)) (Option.some.inj hf))
theorem d_OpenStack_takeOut_0 : decode prog_7_method_12_code 0 = .ok (.iload_n 1, 1) := by decide +kernel
theorem d_OpenStack_takeOut_1 : decode prog_7_method_12_code 1 = .ok (.iconst 1, 1) := by decide +kernel
theorem d_OpenStack_takeOut_2 : decode prog_7_method_12_code 2 = .ok (.if_icmp .lt 16, 3) := by decide +kernel
theorem d_OpenStack_takeOut_5 : decode prog_7_method_12_code 5 = .ok (.iload_n 1, 1) := by decide +kernel
theorem d_OpenStack_takeOut_6 : decode prog_7_method_12_code 6 = .ok (.iload_n 2, 1) := by decide +kernel
theorem d_OpenStack_takeOut_7 : decode prog_7_method_12_code 7 = .ok (.if_icmp .ge 11, 3) := by decide +kernel
theorem d_OpenStack_takeOut_10 : decode prog_7_method_12_code 10 = .ok (.iload_n 2, 1) := by decide +kernel
theorem d_OpenStack_takeOut_11 : decode prog_7_method_12_code 11 = .ok (.aload_n 0, 1) := by decide +kernel
theorem d_OpenStack_takeOut_12 : decode prog_7_method_12_code 12 = .ok (.getfield 17, 3) := by decide +kernel
theorem d_OpenStack_takeOut_15 : decode prog_7_method_12_code 15 = .ok (.if_icmp .le 4, 3) := by decide +kernel
theorem d_OpenStack_takeOut_18 : decode prog_7_method_12_code 18 = .ok (.return_, 1) := by decide +kernel
theorem d_OpenStack_takeOut_19 : decode prog_7_method_12_code 19 = .ok (.iload_n 1, 1) := by decide +kernel
theorem d_OpenStack_takeOut_20 : decode prog_7_method_12_code 20 = .ok (.istore_n 3, 1) := by decide +kernel
theorem d_OpenStack_takeOut_21 : decode prog_7_method_12_code 21 = .ok (.iload_n 3, 1) := by decide +kernel
theorem d_OpenStack_takeOut_22 : decode prog_7_method_12_code 22 = .ok (.iload_n 2, 1) := by decide +kernel
theorem d_OpenStack_takeOut_23 : decode prog_7_method_12_code 23 = .ok (.if_icmp .ge 19, 3) := by decide +kernel
theorem d_OpenStack_takeOut_26 : decode prog_7_method_12_code 26 = .ok (.aload_n 0, 1) := by decide +kernel
theorem d_OpenStack_takeOut_27 : decode prog_7_method_12_code 27 = .ok (.getfield 11, 3) := by decide +kernel
theorem d_OpenStack_takeOut_30 : decode prog_7_method_12_code 30 = .ok (.iload_n 3, 1) := by decide +kernel
theorem d_OpenStack_takeOut_31 : decode prog_7_method_12_code 31 = .ok (.aaload, 1) := by decide +kernel
theorem d_OpenStack_takeOut_32 : decode prog_7_method_12_code 32 = .ok (.iconst 0, 1) := by decide +kernel
theorem d_OpenStack_takeOut_33 : decode prog_7_method_12_code 33 = .ok (.putfield 21, 3) := by decide +kernel
theorem d_OpenStack_takeOut_36 : decode prog_7_method_12_code 36 = .ok (.iinc 3 1, 3) := by decide +kernel
theorem d_OpenStack_takeOut_39 : decode prog_7_method_12_code 39 = .ok (.goto (-18), 3) := by decide +kernel
theorem d_OpenStack_takeOut_42 : decode prog_7_method_12_code 42 = .ok (.iload_n 2, 1) := by decide +kernel
theorem d_OpenStack_takeOut_43 : decode prog_7_method_12_code 43 = .ok (.istore_n 3, 1) := by decide +kernel
theorem d_OpenStack_takeOut_44 : decode prog_7_method_12_code 44 = .ok (.iload_n 3, 1) := by decide +kernel
theorem d_OpenStack_takeOut_45 : decode prog_7_method_12_code 45 = .ok (.aload_n 0, 1) := by decide +kernel
theorem d_OpenStack_takeOut_46 : decode prog_7_method_12_code 46 = .ok (.getfield 17, 3) := by decide +kernel
theorem d_OpenStack_takeOut_49 : decode prog_7_method_12_code 49 = .ok (.if_icmp .ge 25, 3) := by decide +kernel
theorem d_OpenStack_takeOut_52 : decode prog_7_method_12_code 52 = .ok (.aload_n 0, 1) := by decide +kernel
theorem d_OpenStack_takeOut_53 : decode prog_7_method_12_code 53 = .ok (.getfield 11, 3) := by decide +kernel
theorem d_OpenStack_takeOut_56 : decode prog_7_method_12_code 56 = .ok (.iload_n 3, 1) := by decide +kernel
theorem d_OpenStack_takeOut_57 : decode prog_7_method_12_code 57 = .ok (.iload_n 2, 1) := by decide +kernel
theorem d_OpenStack_takeOut_58 : decode prog_7_method_12_code 58 = .ok (.isub, 1) := by decide +kernel
theorem d_OpenStack_takeOut_59 : decode prog_7_method_12_code 59 = .ok (.iload_n 1, 1) := by decide +kernel
theorem d_OpenStack_takeOut_60 : decode prog_7_method_12_code 60 = .ok (.iadd, 1) := by decide +kernel
theorem d_OpenStack_takeOut_61 : decode prog_7_method_12_code 61 = .ok (.aload_n 0, 1) := by decide +kernel
theorem d_OpenStack_takeOut_62 : decode prog_7_method_12_code 62 = .ok (.getfield 11, 3) := by decide +kernel
theorem d_OpenStack_takeOut_65 : decode prog_7_method_12_code 65 = .ok (.iload_n 3, 1) := by decide +kernel
theorem d_OpenStack_takeOut_66 : decode prog_7_method_12_code 66 = .ok (.aaload, 1) := by decide +kernel
theorem d_OpenStack_takeOut_67 : decode prog_7_method_12_code 67 = .ok (.aastore, 1) := by decide +kernel
theorem d_OpenStack_takeOut_68 : decode prog_7_method_12_code 68 = .ok (.iinc 3 1, 3) := by decide +kernel
theorem d_OpenStack_takeOut_71 : decode prog_7_method_12_code 71 = .ok (.goto (-27), 3) := by decide +kernel
theorem d_OpenStack_takeOut_74 : decode prog_7_method_12_code 74 = .ok (.aload_n 0, 1) := by decide +kernel
theorem d_OpenStack_takeOut_75 : decode prog_7_method_12_code 75 = .ok (.dup, 1) := by decide +kernel
theorem d_OpenStack_takeOut_76 : decode prog_7_method_12_code 76 = .ok (.getfield 17, 3) := by decide +kernel
theorem d_OpenStack_takeOut_79 : decode prog_7_method_12_code 79 = .ok (.iload_n 2, 1) := by decide +kernel
theorem d_OpenStack_takeOut_80 : decode prog_7_method_12_code 80 = .ok (.iload_n 1, 1) := by decide +kernel
theorem d_OpenStack_takeOut_81 : decode prog_7_method_12_code 81 = .ok (.isub, 1) := by decide +kernel
theorem d_OpenStack_takeOut_82 : decode prog_7_method_12_code 82 = .ok (.isub, 1) := by decide +kernel
theorem d_OpenStack_takeOut_83 : decode prog_7_method_12_code 83 = .ok (.putfield 17, 3) := by decide +kernel
theorem d_OpenStack_takeOut_86 : decode prog_7_method_12_code 86 = .ok (.return_, 1) := by decide +kernel
def f_OpenStack_takeOut_21 (a2 : Int32) : Nat → (qM → Option qM) → Int32 → qM → Option qM
  | 0, _, _, _ => none
  | n + 1, K6, x4, M5 => if a2 ≤ x4 then (K6 M5) else (q_ix x4 24 <| q_lt (M5.2 6 x4.toNatClampNeg) fun r9 => q_nn r9 fun o10 => q_lt (qsI M5 o10 3 0) fun M11 => f_OpenStack_takeOut_21 a2 n K6 (x4 + 1) M11)
def f_OpenStack_takeOut_44 (a2 : Int32) (a1 : Int32) : Nat → (qM → Option qM) → Int32 → qM → Option qM
  | 0, _, _, _ => none
  | n + 1, K15, x13, M14 => if (M14.1 5 1) ≤ x13 then (K15 M14) else (q_ix x13 24 <| q_lt (M14.2 6 x13.toNatClampNeg) fun r18 => q_ix ((x13 - a2) + a1) 24 <| q_lt (qsR M14 6 ((x13 - a2) + a1).toNatClampNeg r18) fun M20 => f_OpenStack_takeOut_44 a2 a1 n K15 (x13 + 1) M20)
def f_OpenStack_takeOut (a1 : Int32) (a2 : Int32) (M : qM) : Option qM := if a1 < 1 then (some M) else (if a2 ≤ a1 then (some M) else (if a2 ≤ (M.1 5 1) then (f_OpenStack_takeOut_21 a2 1000 (fun (M12 : qM) => f_OpenStack_takeOut_44 a2 a1 1000 (fun (M21 : qM) => q_lt (qsI M21 5 1 ((M21.1 5 1) - (a2 - a1))) fun M22 => some M22) a2 M12) a1 M) else (some M)))
abbrev rm_OpenStack_takeOut : Room := { frames := 0, cells := 0, slots := 0, locals := 0 }
set_option maxRecDepth 100000 in
set_option maxHeartbeats 4000000 in
theorem c_OpenStack_takeOut {l : Launch} {D : va_G} {dA : Nat → ClassId} {b : Nat} {adK adV : Nat → Nat} (a1 : Int32) (a2 : Int32)  (M : qM) (out : qM) (hf : f_OpenStack_takeOut a1 a2 M = some out) : CTv l y_OpenStack_takeOut w_OpenStack_takeOut rm_OpenStack_takeOut D (tysX dA) (enX dA b) 367 b (qX adK adV 367 b) [qr (some 5), qi a1, qi a2] M out := by
  refine qm_v (cc := prog_7_method_12_code) (nL := 4) (by decide) rfl (Nat.le_of_ble_eq_true rfl) ?_
  intro p e s m args below meth c Q hx hb hts0 hown hml hK hs hret
  have hts : ∀ w ∈ lw_g, w.before args s = true := fun w h => hts0 w (List.mem_cons_of_mem _ h)
  show QJ p l e rm_OpenStack_takeOut s m args below meth c (qA 367 b) b 4 0 0 Q (qWd D (enX dA b) 367 b) M 0 [(0, qr (some 5)), (1, qi a1), (2, qi a2)] []
  unfold f_OpenStack_takeOut at hf
  refine qj_iload_n hx hb d_OpenStack_takeOut_0 rfl 1 rfl ?_
  refine qj_iconst (v := 1) hx hb d_OpenStack_takeOut_1 (by decide) ?_
  refine qj_icmp_lt (tgt := 18) hx hb d_OpenStack_takeOut_2 (by decide) (fun hc1 => ?_) (fun hc1 => ?_)
  · replace hf := q_if_t hc1 hf
    exact hret _ _ _ d_OpenStack_takeOut_18 (Option.some.inj hf)
  · replace hf := q_if_f hc1 hf
    refine qj_iload_n hx hb d_OpenStack_takeOut_5 rfl 1 rfl ?_
    refine qj_iload_n hx hb d_OpenStack_takeOut_6 rfl 2 rfl ?_
    refine qj_icmp_ge (tgt := 18) hx hb d_OpenStack_takeOut_7 (by decide) (fun hc2 => ?_) (fun hc2 => ?_)
    · replace hf := q_if_t hc2 hf
      exact hret _ _ _ d_OpenStack_takeOut_18 (Option.some.inj hf)
    · replace hf := q_if_f hc2 hf
      refine qj_iload_n hx hb d_OpenStack_takeOut_10 rfl 2 rfl ?_
      refine qj_aload_n hx hb d_OpenStack_takeOut_11 rfl 0 rfl ?_
      refine qj_get hx hb hts hin_4 hown hK (q_in (rfl : tcX 5 = 5) (by decide)) (en_5 (rfl : tcX 5 = 5)) rfl 1 (by decide) (hts _ tw_9) (fun _ h => h) (qi (M.1 5 1)) rfl d_OpenStack_takeOut_12 ?_
      refine qj_icmp_le (tgt := 19) hx hb d_OpenStack_takeOut_15 (by decide) (fun hc3 => ?_) (fun hc3 => ?_)
      · replace hf := q_if_t hc3 hf
        refine qj_iload_n hx hb d_OpenStack_takeOut_19 rfl 1 rfl ?_
        refine qj_istore_n hx hb d_OpenStack_takeOut_20 rfl (by decide) rfl ?_
        have hL21 : ∀ (n : Nat) (K6 : qM → Option qM), (∀ (M12 : qM), K6 M12 = some out → QJ p l e rm_OpenStack_takeOut s m args below meth c (qA 367 b) b 4 0 0 Q (qWd D (enX dA b) 367 b) M12 42 [(0, qr (some 5)), (1, qi a1), (2, qi a2)] []) → ∀ (x4 : Int32) (M5 : qM), f_OpenStack_takeOut_21 a2 n K6 x4 M5 = some out → QJ p l e rm_OpenStack_takeOut s m args below meth c (qA 367 b) b 4 0 0 Q (qWd D (enX dA b) 367 b) M5 21 [(0, qr (some 5)), (1, qi a1), (2, qi a2), (3, qi x4)] [] := by
          clear hf
          intro n
          induction n with
          | zero =>
            intro K6 hK6 x4 M5 hf
            exact absurd hf (by simp [f_OpenStack_takeOut_21])
          | succ n ih21 =>
            intro K6 hK6 x4 M5 hf
            rw [f_OpenStack_takeOut_21] at hf
            have ih21 := ih21 K6 hK6
            refine qj_iload_n hx hb d_OpenStack_takeOut_21 rfl 3 rfl ?_
            refine qj_iload_n hx hb d_OpenStack_takeOut_22 rfl 2 rfl ?_
            refine qj_icmp_ge (tgt := 42) hx hb d_OpenStack_takeOut_23 (by decide) (fun hc7 => ?_) (fun hc7 => ?_)
            · replace hf := q_if_t hc7 hf
              refine qj_sub [0, 1, 2] rfl ?_
              exact hK6 M5 hf
            · replace hf := q_if_f hc7 hf
              refine qj_aload_n hx hb d_OpenStack_takeOut_26 rfl 0 rfl ?_
              refine qj_get hx hb hts hin_4 hown hK (q_in (rfl : tcX 5 = 5) (by decide)) (en_5 (rfl : tcX 5 = 5)) rfl 0 (by decide) (hts _ tw_10) (fun _ h => h) (qr (some 6)) rfl d_OpenStack_takeOut_27 ?_
              refine qj_iload_n hx hb d_OpenStack_takeOut_30 rfl 3 rfl ?_
              have hf9 := q_ix_s hf; clear hf; obtain ⟨hi8, hf⟩ := hf9
              have hf9 := q_lt_s hf; clear hf; obtain ⟨r9, er9, hf⟩ := hf9
              refine qj_w fun w => ?_
              have tr9 : ∀ o, r9 = some o → tcX o = 7 := fun o h => (w _ _ o (er9.symm.trans h)).trans (by rw [(rfl : tcX 6 = 6)] <;> rfl)
              refine qj_aald (t0 := 3) (f := M5.2 6) hx hb hK (q_in (rfl : tcX 6 = 6) (by decide)) (en_6 (rfl : tcX 6 = 6) _ _) rfl hi8 d_OpenStack_takeOut_31 ?_
              rw [← er9]
              refine qj_iconst (v := 0) hx hb d_OpenStack_takeOut_32 (by decide) ?_
              have hf9 := q_nn_s hf; clear hf; obtain ⟨o10, rfl, hf⟩ := hf9
              have hf9 := q_lt_s hf; clear hf; obtain ⟨M11, eM11, hf⟩ := hf9
              refine qj_puti (ty := .boolean) hx hb hts hin_3 ty_3 tyok_3 nm_3 hown hK (q_in (tr9 _ rfl) (by decide)) (en_7 (tr9 _ rfl)) rfl 3 (by decide) (hts _ tw_53) (fun _ h => h) rfl (by decide +kernel) rfl rfl (Nat.le_of_ble_eq_true rfl) (sp_7_3 (tr9 _ rfl)) eM11 d_OpenStack_takeOut_33 ?_
              refine qj_iinc (j := 3) (v := x4 + 1) hx hb d_OpenStack_takeOut_36 rfl rfl (by decide) rfl ?_
              refine qj_goto (tgt := 21) hx hb d_OpenStack_takeOut_39 (by decide) ?_
              refine qj_sub [1, 2, 3, 0] rfl ?_
              exact ih21 (x4 + 1) M11 hf
        refine qj_sub [1, 2, 3, 0] rfl ?_
        refine hL21 _ _ (fun M12 hf9 => ?_) a1 M hf
        clear hf; have hf := hf9; clear hf9
        refine qj_iload_n hx hb d_OpenStack_takeOut_42 rfl 2 rfl ?_
        refine qj_istore_n hx hb d_OpenStack_takeOut_43 rfl (by decide) rfl ?_
        have hL44 : ∀ (n : Nat) (K15 : qM → Option qM), (∀ (M21 : qM), K15 M21 = some out → QJ p l e rm_OpenStack_takeOut s m args below meth c (qA 367 b) b 4 0 0 Q (qWd D (enX dA b) 367 b) M21 74 [(0, qr (some 5)), (1, qi a1), (2, qi a2)] []) → ∀ (x13 : Int32) (M14 : qM), f_OpenStack_takeOut_44 a2 a1 n K15 x13 M14 = some out → QJ p l e rm_OpenStack_takeOut s m args below meth c (qA 367 b) b 4 0 0 Q (qWd D (enX dA b) 367 b) M14 44 [(0, qr (some 5)), (1, qi a1), (2, qi a2), (3, qi x13)] [] := by
          clear hf
          intro n
          induction n with
          | zero =>
            intro K15 hK15 x13 M14 hf
            exact absurd hf (by simp [f_OpenStack_takeOut_44])
          | succ n ih44 =>
            intro K15 hK15 x13 M14 hf
            rw [f_OpenStack_takeOut_44] at hf
            have ih44 := ih44 K15 hK15
            refine qj_iload_n hx hb d_OpenStack_takeOut_44 rfl 3 rfl ?_
            refine qj_aload_n hx hb d_OpenStack_takeOut_45 rfl 0 rfl ?_
            refine qj_get hx hb hts hin_4 hown hK (q_in (rfl : tcX 5 = 5) (by decide)) (en_5 (rfl : tcX 5 = 5)) rfl 1 (by decide) (hts _ tw_9) (fun _ h => h) (qi (M14.1 5 1)) rfl d_OpenStack_takeOut_46 ?_
            refine qj_icmp_ge (tgt := 74) hx hb d_OpenStack_takeOut_49 (by decide) (fun hc16 => ?_) (fun hc16 => ?_)
            · replace hf := q_if_t hc16 hf
              refine qj_sub [0, 1, 2] rfl ?_
              exact hK15 M14 hf
            · replace hf := q_if_f hc16 hf
              refine qj_aload_n hx hb d_OpenStack_takeOut_52 rfl 0 rfl ?_
              refine qj_get hx hb hts hin_4 hown hK (q_in (rfl : tcX 5 = 5) (by decide)) (en_5 (rfl : tcX 5 = 5)) rfl 0 (by decide) (hts _ tw_10) (fun _ h => h) (qr (some 6)) rfl d_OpenStack_takeOut_53 ?_
              refine qj_iload_n hx hb d_OpenStack_takeOut_56 rfl 3 rfl ?_
              refine qj_iload_n hx hb d_OpenStack_takeOut_57 rfl 2 rfl ?_
              refine qj_isub hx hb d_OpenStack_takeOut_58 ?_
              refine qj_iload_n hx hb d_OpenStack_takeOut_59 rfl 1 rfl ?_
              refine qj_iadd hx hb d_OpenStack_takeOut_60 ?_
              refine qj_aload_n hx hb d_OpenStack_takeOut_61 rfl 0 rfl ?_
              refine qj_get hx hb hts hin_4 hown hK (q_in (rfl : tcX 5 = 5) (by decide)) (en_5 (rfl : tcX 5 = 5)) rfl 0 (by decide) (hts _ tw_10) (fun _ h => h) (qr (some 6)) rfl d_OpenStack_takeOut_62 ?_
              refine qj_iload_n hx hb d_OpenStack_takeOut_65 rfl 3 rfl ?_
              have hf9 := q_ix_s hf; clear hf; obtain ⟨hi17, hf⟩ := hf9
              have hf9 := q_lt_s hf; clear hf; obtain ⟨r18, er18, hf⟩ := hf9
              refine qj_w fun w => ?_
              have tr18 : ∀ o, r18 = some o → tcX o = 7 := fun o h => (w _ _ o (er18.symm.trans h)).trans (by rw [(rfl : tcX 6 = 6)] <;> rfl)
              refine qj_aald (t0 := 3) (f := M14.2 6) hx hb hK (q_in (rfl : tcX 6 = 6) (by decide)) (en_6 (rfl : tcX 6 = 6) _ _) rfl hi17 d_OpenStack_takeOut_66 ?_
              rw [← er18]
              have hf9 := q_ix_s hf; clear hf; obtain ⟨hi19, hf⟩ := hf9
              have hf9 := q_lt_s hf; clear hf; obtain ⟨M20, eM20, hf⟩ := hf9
              refine qj_aast (t0 := 3) (ci := 3) hx hb hK (q_in (rfl : tcX 6 = 6) (by decide)) (en_6 (rfl : tcX 6 = 6)) rfl rfl (fun q hq => ⟨q_in (tr18 q hq) (by decide), _, en_7 (tr18 q hq)⟩) hi19 (fun o h => (tr18 o h).trans (by rw [(rfl : tcX 6 = 6)] <;> rfl)) eM20 d_OpenStack_takeOut_67 ?_
              refine qj_iinc (j := 3) (v := x13 + 1) hx hb d_OpenStack_takeOut_68 rfl rfl (by decide) rfl ?_
              refine qj_goto (tgt := 44) hx hb d_OpenStack_takeOut_71 (by decide) ?_
              refine qj_sub [1, 2, 3, 0] rfl ?_
              exact ih44 (x13 + 1) M20 hf
        refine qj_sub [1, 2, 3, 0] rfl ?_
        refine hL44 _ _ (fun M21 hf9 => ?_) a2 M12 hf
        clear hf; have hf := hf9; clear hf9
        refine qj_aload_n hx hb d_OpenStack_takeOut_74 rfl 0 rfl ?_
        refine qj_dup hx hb d_OpenStack_takeOut_75 ?_
        refine qj_get hx hb hts hin_4 hown hK (q_in (rfl : tcX 5 = 5) (by decide)) (en_5 (rfl : tcX 5 = 5)) rfl 1 (by decide) (hts _ tw_9) (fun _ h => h) (qi (M21.1 5 1)) rfl d_OpenStack_takeOut_76 ?_
        refine qj_iload_n hx hb d_OpenStack_takeOut_79 rfl 2 rfl ?_
        refine qj_iload_n hx hb d_OpenStack_takeOut_80 rfl 1 rfl ?_
        refine qj_isub hx hb d_OpenStack_takeOut_81 ?_
        refine qj_isub hx hb d_OpenStack_takeOut_82 ?_
        have hf9 := q_lt_s hf; clear hf; obtain ⟨M22, eM22, hf⟩ := hf9
        refine qj_puti (ty := .int) hx hb hts hin_4 ty_4 tyok_4 nm_4 hown hK (q_in (rfl : tcX 5 = 5) (by decide)) (en_5 (rfl : tcX 5 = 5)) rfl 1 (by decide) (hts _ tw_9) (fun _ h => h) rfl (by decide +kernel) rfl rfl (Nat.le_of_ble_eq_true rfl) (sp_5_1 (rfl : tcX 5 = 5)) eM22 d_OpenStack_takeOut_83 ?_
        exact hret _ _ _ d_OpenStack_takeOut_86 (Option.some.inj hf)
      · replace hf := q_if_f hc3 hf
        exact hret _ _ _ d_OpenStack_takeOut_18 (Option.some.inj hf)
theorem d_OpenStack_closeAbove_0 : decode prog_7_method_11_code 0 = .ok (.aload_n 0, 1) := by decide +kernel
theorem d_OpenStack_closeAbove_1 : decode prog_7_method_11_code 1 = .ok (.aload_n 0, 1) := by decide +kernel
theorem d_OpenStack_closeAbove_2 : decode prog_7_method_11_code 2 = .ok (.aload_n 1, 1) := by decide +kernel
theorem d_OpenStack_closeAbove_3 : decode prog_7_method_11_code 3 = .ok (.invokevirtual 38, 3) := by decide +kernel
theorem d_OpenStack_closeAbove_6 : decode prog_7_method_11_code 6 = .ok (.iconst 1, 1) := by decide +kernel
theorem d_OpenStack_closeAbove_7 : decode prog_7_method_11_code 7 = .ok (.iadd, 1) := by decide +kernel
theorem d_OpenStack_closeAbove_8 : decode prog_7_method_11_code 8 = .ok (.aload_n 0, 1) := by decide +kernel
theorem d_OpenStack_closeAbove_9 : decode prog_7_method_11_code 9 = .ok (.getfield 17, 3) := by decide +kernel
theorem d_OpenStack_closeAbove_12 : decode prog_7_method_11_code 12 = .ok (.invokevirtual 42, 3) := by decide +kernel
theorem d_OpenStack_closeAbove_15 : decode prog_7_method_11_code 15 = .ok (.return_, 1) := by decide +kernel
def f_OpenStack_closeAbove (p1 : Option Nat) (M : qM) : Option qM := q_bp (f_OpenStack_indexOf p1 M) fun x1 => q_cv (f_OpenStack_takeOut (x1 + 1) (M.1 5 1) M) fun M2 => some M2
abbrev rm_OpenStack_closeAbove : Room := { frames := 1, cells := 0, slots := 0, locals := 23 }
set_option maxRecDepth 100000 in
set_option maxHeartbeats 4000000 in
theorem c_OpenStack_closeAbove {l : Launch} {D : va_G} {dA : Nat → ClassId} {b : Nat} {adK adV : Nat → Nat} (p1 : Option Nat) (tp1 : ∀ o, p1 = some o → tcX o = 7) (M : qM) (out : qM) (hf : f_OpenStack_closeAbove p1 M = some out) : CTv l y_OpenStack_closeAbove w_OpenStack_closeAbove rm_OpenStack_closeAbove D (tysX dA) (enX dA b) 367 b (qX adK adV 367 b) [qr (some 5), qr p1] M out := by
  refine qm_v (cc := prog_7_method_11_code) (nL := 2) (by decide) rfl (Nat.le_of_ble_eq_true rfl) ?_
  intro p e s m args below meth c Q hx hb hts0 hown hml hK hs hret
  have hts : ∀ w ∈ lw_g, w.before args s = true := fun w h => hts0 w (List.mem_cons_of_mem _ h)
  show QJ p l e rm_OpenStack_closeAbove s m args below meth c (qA 367 b) b 2 0 0 Q (qWd D (enX dA b) 367 b) M 0 [(0, qr (some 5)), (1, qr p1)] []
  unfold f_OpenStack_closeAbove at hf
  refine qj_aload_n hx hb d_OpenStack_closeAbove_0 rfl 0 rfl ?_
  refine qj_aload_n hx hb d_OpenStack_closeAbove_1 rfl 0 rfl ?_
  refine qj_aload_n hx hb d_OpenStack_closeAbove_2 rfl 1 rfl ?_
  have hf9 := q_bp_s hf; clear hf; obtain ⟨x1, hx1, hf⟩ := hf9
  refine qc_Vi (st := [qr (some 5)]) hx hb hml hown hts hK (qX_ok _ _ _ _) hs (c_OpenStack_indexOf p1 tp1 M _ hx1) ⟨(callB_of 1 hts (q_good tw_119) rfl rfl rfl (hts _ tw_13) (hts _ tw_120) (by decide +kernel) ⟨by decide, by decide⟩), (hts _ tw_121), (hts _ tw_122)⟩ (q_in (rfl : tcX 5 = 5) (by decide)) (en_5 (rfl : tcX 5 = 5)) rfl rfl rfl (Nat.le_of_ble_eq_true rfl) d_OpenStack_closeAbove_3 ?_
  refine qj_iconst (v := 1) hx hb d_OpenStack_closeAbove_6 (by decide) ?_
  refine qj_iadd hx hb d_OpenStack_closeAbove_7 ?_
  refine qj_aload_n hx hb d_OpenStack_closeAbove_8 rfl 0 rfl ?_
  refine qj_get hx hb hts hin_4 hown hK (q_in (rfl : tcX 5 = 5) (by decide)) (en_5 (rfl : tcX 5 = 5)) rfl 1 (by decide) (hts _ tw_9) (fun _ h => h) (qi (M.1 5 1)) rfl d_OpenStack_closeAbove_9 ?_
  have hf9 := q_cv_s hf; clear hf; obtain ⟨M2, hM2, hf⟩ := hf9
  refine qc_Vv (st := []) hx hb hml hown hts hK (qX_ok _ _ _ _) hs (c_OpenStack_takeOut (x1 + 1) (M.1 5 1) M _ hM2) ⟨(callB_of 2 hts (q_good tw_123) rfl rfl rfl (hts _ tw_13) (hts _ tw_124) (by decide +kernel) ⟨by decide, by decide⟩), (hts _ tw_125), (hts _ tw_126)⟩ (q_in (rfl : tcX 5 = 5) (by decide)) (en_5 (rfl : tcX 5 = 5)) rfl rfl rfl (Nat.le_of_ble_eq_true rfl) d_OpenStack_closeAbove_12 ?_
  exact hret _ _ _ d_OpenStack_closeAbove_15 (Option.some.inj hf)
theorem d_Tree_openInTop_0 : decode prog_11_method_18_code 0 = .ok (.aload_n 0, 1) := by decide +kernel
theorem d_Tree_openInTop_1 : decode prog_11_method_18_code 1 = .ok (.iload_n 1, 1) := by decide +kernel
theorem d_Tree_openInTop_2 : decode prog_11_method_18_code 2 = .ok (.iload_n 2, 1) := by decide +kernel
theorem d_Tree_openInTop_3 : decode prog_11_method_18_code 3 = .ok (.invokevirtual 183, 3) := by decide +kernel
theorem d_Tree_openInTop_6 : decode prog_11_method_18_code 6 = .ok (.astore_n 3, 1) := by decide +kernel
theorem d_Tree_openInTop_7 : decode prog_11_method_18_code 7 = .ok (.aload_n 3, 1) := by decide +kernel
theorem d_Tree_openInTop_8 : decode prog_11_method_18_code 8 = .ok (.ifnull 23, 3) := by decide +kernel
theorem d_Tree_openInTop_11 : decode prog_11_method_18_code 11 = .ok (.aload_n 0, 1) := by decide +kernel
theorem d_Tree_openInTop_12 : decode prog_11_method_18_code 12 = .ok (.getfield 29, 3) := by decide +kernel
theorem d_Tree_openInTop_15 : decode prog_11_method_18_code 15 = .ok (.invokevirtual 217, 3) := by decide +kernel
theorem d_Tree_openInTop_18 : decode prog_11_method_18_code 18 = .ok (.aload_n 3, 1) := by decide +kernel
theorem d_Tree_openInTop_19 : decode prog_11_method_18_code 19 = .ok (.aconst_null, 1) := by decide +kernel
theorem d_Tree_openInTop_20 : decode prog_11_method_18_code 20 = .ok (.invokevirtual 189, 3) := by decide +kernel
theorem d_Tree_openInTop_23 : decode prog_11_method_18_code 23 = .ok (.aload_n 0, 1) := by decide +kernel
theorem d_Tree_openInTop_24 : decode prog_11_method_18_code 24 = .ok (.getfield 29, 3) := by decide +kernel
theorem d_Tree_openInTop_27 : decode prog_11_method_18_code 27 = .ok (.aload_n 3, 1) := by decide +kernel
theorem d_Tree_openInTop_28 : decode prog_11_method_18_code 28 = .ok (.invokevirtual 57, 3) := by decide +kernel
theorem d_Tree_openInTop_31 : decode prog_11_method_18_code 31 = .ok (.return_, 1) := by decide +kernel
def f_Tree_openInTop (a1 : Int32) (a2 : Int32) (M : qM) : Option qM := q_cl (f_Tree_make a1 a2 M) fun r1 M2 => q_on r1 (some M2) fun o3 => (q_bp (f_OpenStack_top M2) fun r4 => q_nn r4 fun o5 => q_cv (f_Node_insert o5 o3 none M2) fun M6 => q_cv (f_OpenStack_push o3 M6) fun M7 => some M7)
abbrev rm_Tree_openInTop : Room := { frames := 2, cells := 0, slots := 0, locals := 45 }
set_option maxRecDepth 100000 in
set_option maxHeartbeats 4000000 in
theorem c_Tree_openInTop {l : Launch} {D : va_G} {dA : Nat → ClassId} {b : Nat} {adK adV : Nat → Nat} (a1 : Int32) (a2 : Int32)  (M : qM) (out : qM) (hf : f_Tree_openInTop a1 a2 M = some out) : CTv l y_Tree_openInTop w_Tree_openInTop rm_Tree_openInTop D (tysX dA) (enX dA b) 367 b (qX adK adV 367 b) [qr (some 1), qi a1, qi a2] M out := by
  refine qm_v (cc := prog_11_method_18_code) (nL := 4) (by decide) rfl (Nat.le_of_ble_eq_true rfl) ?_
  intro p e s m args below meth c Q hx hb hts0 hown hml hK hs hret
  have hts : ∀ w ∈ lw_g, w.before args s = true := fun w h => hts0 w (List.mem_cons_of_mem _ h)
  show QJ p l e rm_Tree_openInTop s m args below meth c (qA 367 b) b 4 0 0 Q (qWd D (enX dA b) 367 b) M 0 [(0, qr (some 1)), (1, qi a1), (2, qi a2)] []
  unfold f_Tree_openInTop at hf
  refine qj_aload_n hx hb d_Tree_openInTop_0 rfl 0 rfl ?_
  refine qj_iload_n hx hb d_Tree_openInTop_1 rfl 1 rfl ?_
  refine qj_iload_n hx hb d_Tree_openInTop_2 rfl 2 rfl ?_
  have hf9 := q_cl_s hf; clear hf; obtain ⟨r1, M2, hr1, hf⟩ := hf9
  refine qc_Vr (st := []) hx hb hml hown hts hK (qX_ok _ _ _ _) hs (c_Tree_make a1 a2 M _ hr1) ⟨(callB_of 2 hts (q_good tw_68) rfl rfl rfl (hts _ tw_54) (hts _ tw_69) (by decide +kernel) ⟨by decide, by decide⟩), (hts _ tw_70), (hts _ tw_71)⟩ (q_in (rfl : tcX 1 = 1) (by decide)) (en_1 (rfl : tcX 1 = 1)) rfl rfl rfl (Nat.le_of_ble_eq_true rfl) d_Tree_openInTop_3 (fun tr1 => ?_)
  refine qj_astore_n hx hb d_Tree_openInTop_6 rfl (by decide) rfl ?_
  refine qj_aload_n hx hb d_Tree_openInTop_7 rfl 0 rfl ?_
  refine qj_ifnull (tgt := 31) hx hb d_Tree_openInTop_8 (by decide) (fun hn8 => ?_) (fun o3 hn8 => ?_)
  · subst hn8
    replace hf := q_on_n hf
    exact hret _ _ _ d_Tree_openInTop_31 (Option.some.inj hf)
  · subst hn8
    replace hf := q_on_s hf
    refine qj_aload_n hx hb d_Tree_openInTop_11 rfl 1 rfl ?_
    refine qj_get hx hb hts hin_5 hown hK (q_in (rfl : tcX 1 = 1) (by decide)) (en_1 (rfl : tcX 1 = 1)) rfl 3 (by decide) (hts _ tw_12) (fun _ h => h) (qr (some 5)) rfl d_Tree_openInTop_12 ?_
    have hf9 := q_bp_s hf; clear hf; obtain ⟨r4, hr4, hf⟩ := hf9
    refine qc_Vr (st := []) hx hb hml hown hts hK (qX_ok _ _ _ _) hs (c_OpenStack_top  M2 _ hr4) ⟨(callB_of 0 hts (q_good tw_81) rfl rfl rfl (hts _ tw_13) (hts _ tw_82) (by decide +kernel) ⟨by decide, by decide⟩), (hts _ tw_83), (hts _ tw_84)⟩ (q_in (rfl : tcX 5 = 5) (by decide)) (en_5 (rfl : tcX 5 = 5)) rfl rfl rfl (Nat.le_of_ble_eq_true rfl) d_Tree_openInTop_15 (fun tr4 => ?_)
    refine qj_aload_n hx hb d_Tree_openInTop_18 rfl 0 rfl ?_
    refine qj_null hx hb d_Tree_openInTop_19 ?_
    have hf9 := q_nn_s hf; clear hf; obtain ⟨o5, rfl, hf⟩ := hf9
    have hf9 := q_cv_s hf; clear hf; obtain ⟨M6, hM6, hf⟩ := hf9
    refine qc_Vv (st := []) hx hb hml hown hts hK (qX_ok _ _ _ _) hs (c_Node_insert o5 o3 none (tr4 _ rfl) (tr1 _ rfl) q_tn M2 _ hM6) ⟨(callB_of 2 hts (q_good tw_48) rfl rfl rfl (hts _ tw_37) (hts _ tw_49) (by decide +kernel) ⟨by decide, by decide⟩), (hts _ tw_50), (hts _ tw_51)⟩ (q_in (tr4 _ rfl) (by decide)) (en_7 (tr4 _ rfl)) rfl rfl rfl (Nat.le_of_ble_eq_true rfl) d_Tree_openInTop_20 ?_
    refine qj_aload_n hx hb d_Tree_openInTop_23 rfl 1 rfl ?_
    refine qj_get hx hb hts hin_5 hown hK (q_in (rfl : tcX 1 = 1) (by decide)) (en_1 (rfl : tcX 1 = 1)) rfl 3 (by decide) (hts _ tw_12) (fun _ h => h) (qr (some 5)) rfl d_Tree_openInTop_24 ?_
    refine qj_aload_n hx hb d_Tree_openInTop_27 rfl 0 rfl ?_
    have hf9 := q_cv_s hf; clear hf; obtain ⟨M7, hM7, hf⟩ := hf9
    refine qc_Vv (st := []) hx hb hml hown hts hK (qX_ok _ _ _ _) hs (c_OpenStack_push o3 (tr1 _ rfl) M6 _ hM7) ⟨(callB_of 1 hts (q_good tw_77) rfl rfl rfl (hts _ tw_13) (hts _ tw_78) (by decide +kernel) ⟨by decide, by decide⟩), (hts _ tw_79), (hts _ tw_80)⟩ (q_in (rfl : tcX 5 = 5) (by decide)) (en_5 (rfl : tcX 5 = 5)) rfl rfl rfl (Nat.le_of_ble_eq_true rfl) d_Tree_openInTop_28 ?_
    exact hret _ _ _ d_Tree_openInTop_31 (Option.some.inj hf)
theorem d_Tree_startRowOrCell_0 : decode prog_11_method_7_code 0 = .ok (.aload_n 0, 1) := by decide +kernel
theorem d_Tree_startRowOrCell_1 : decode prog_11_method_7_code 1 = .ok (.getfield 29, 3) := by decide +kernel
theorem d_Tree_startRowOrCell_4 : decode prog_11_method_7_code 4 = .ok (.bipush 116, 2) := by decide +kernel
theorem d_Tree_startRowOrCell_6 : decode prog_11_method_7_code 6 = .ok (.invokevirtual 123, 3) := by decide +kernel
theorem d_Tree_startRowOrCell_9 : decode prog_11_method_7_code 9 = .ok (.astore_n 3, 1) := by decide +kernel
theorem d_Tree_startRowOrCell_10 : decode prog_11_method_7_code 10 = .ok (.aload_n 3, 1) := by decide +kernel
theorem d_Tree_startRowOrCell_11 : decode prog_11_method_7_code 11 = .ok (.ifnonnull 4, 3) := by decide +kernel
theorem d_Tree_startRowOrCell_14 : decode prog_11_method_7_code 14 = .ok (.return_, 1) := by decide +kernel
theorem d_Tree_startRowOrCell_15 : decode prog_11_method_7_code 15 = .ok (.iload_n 1, 1) := by decide +kernel
theorem d_Tree_startRowOrCell_16 : decode prog_11_method_7_code 16 = .ok (.bipush 99, 2) := by decide +kernel
theorem d_Tree_startRowOrCell_18 : decode prog_11_method_7_code 18 = .ok (.if_icmp .ne 13, 3) := by decide +kernel
theorem d_Tree_startRowOrCell_21 : decode prog_11_method_7_code 21 = .ok (.aload_n 0, 1) := by decide +kernel
theorem d_Tree_startRowOrCell_22 : decode prog_11_method_7_code 22 = .ok (.getfield 29, 3) := by decide +kernel
theorem d_Tree_startRowOrCell_25 : decode prog_11_method_7_code 25 = .ok (.invokevirtual 126, 3) := by decide +kernel
theorem d_Tree_startRowOrCell_28 : decode prog_11_method_7_code 28 = .ok (.goto 4, 3) := by decide +kernel
theorem d_Tree_startRowOrCell_31 : decode prog_11_method_7_code 31 = .ok (.aconst_null, 1) := by decide +kernel
theorem d_Tree_startRowOrCell_32 : decode prog_11_method_7_code 32 = .ok (.astore 4, 2) := by decide +kernel
theorem d_Tree_startRowOrCell_34 : decode prog_11_method_7_code 34 = .ok (.aload_n 0, 1) := by decide +kernel
theorem d_Tree_startRowOrCell_35 : decode prog_11_method_7_code 35 = .ok (.getfield 29, 3) := by decide +kernel
theorem d_Tree_startRowOrCell_38 : decode prog_11_method_7_code 38 = .ok (.aload 4, 2) := by decide +kernel
theorem d_Tree_startRowOrCell_40 : decode prog_11_method_7_code 40 = .ok (.ifnonnull 7, 3) := by decide +kernel
theorem d_Tree_startRowOrCell_43 : decode prog_11_method_7_code 43 = .ok (.aload_n 3, 1) := by decide +kernel
theorem d_Tree_startRowOrCell_44 : decode prog_11_method_7_code 44 = .ok (.goto 5, 3) := by decide +kernel
theorem d_Tree_startRowOrCell_47 : decode prog_11_method_7_code 47 = .ok (.aload 4, 2) := by decide +kernel
theorem d_Tree_startRowOrCell_49 : decode prog_11_method_7_code 49 = .ok (.invokevirtual 129, 3) := by decide +kernel
theorem d_Tree_startRowOrCell_52 : decode prog_11_method_7_code 52 = .ok (.iload_n 1, 1) := by decide +kernel
theorem d_Tree_startRowOrCell_53 : decode prog_11_method_7_code 53 = .ok (.bipush 99, 2) := by decide +kernel
theorem d_Tree_startRowOrCell_55 : decode prog_11_method_7_code 55 = .ok (.if_icmp .ne 15, 3) := by decide +kernel
theorem d_Tree_startRowOrCell_58 : decode prog_11_method_7_code 58 = .ok (.aload 4, 2) := by decide +kernel
theorem d_Tree_startRowOrCell_60 : decode prog_11_method_7_code 60 = .ok (.ifnonnull 10, 3) := by decide +kernel
theorem d_Tree_startRowOrCell_63 : decode prog_11_method_7_code 63 = .ok (.aload_n 0, 1) := by decide +kernel
theorem d_Tree_startRowOrCell_64 : decode prog_11_method_7_code 64 = .ok (.bipush 114, 2) := by decide +kernel
theorem d_Tree_startRowOrCell_66 : decode prog_11_method_7_code 66 = .ok (.iconst 0, 1) := by decide +kernel
theorem d_Tree_startRowOrCell_67 : decode prog_11_method_7_code 67 = .ok (.invokevirtual 132, 3) := by decide +kernel
theorem d_Tree_startRowOrCell_70 : decode prog_11_method_7_code 70 = .ok (.aload_n 0, 1) := by decide +kernel
theorem d_Tree_startRowOrCell_71 : decode prog_11_method_7_code 71 = .ok (.iload_n 1, 1) := by decide +kernel
theorem d_Tree_startRowOrCell_72 : decode prog_11_method_7_code 72 = .ok (.iload_n 2, 1) := by decide +kernel
theorem d_Tree_startRowOrCell_73 : decode prog_11_method_7_code 73 = .ok (.invokevirtual 132, 3) := by decide +kernel
theorem d_Tree_startRowOrCell_76 : decode prog_11_method_7_code 76 = .ok (.return_, 1) := by decide +kernel
def f_Tree_startRowOrCell (a1 : Int32) (a2 : Int32) (M : qM) : Option qM := q_bp (f_OpenStack_topmost 116 M) fun r1 => q_on r1 (some M) fun o2 => (q_lt (fun (r3 : Option Nat) => q_lt (fun (r4 : Option Nat) => q_cv (f_OpenStack_closeAbove r4 M) fun M5 => q_lt (fun (M6 : qM) => q_cv (f_Tree_openInTop a1 a2 M6) fun M7 => some M7) fun (j8 : qM → Option qM) => if a1 = 99 then (q_on r3 (q_cv (f_Tree_openInTop 114 0 M5) fun M11 => j8 M11) fun o10 => (j8 M5)) else (j8 M5)) fun (j13 : Option Nat → Option qM) => q_on r3 (j13 (some o2)) fun o14 => (j13 (some o14))) fun (j16 : Option Nat → Option qM) => if a1 = 99 then (q_bp (f_OpenStack_rowOfTable M) fun r18 => j16 r18) else (j16 none))
abbrev rm_Tree_startRowOrCell : Room := { frames := 13, cells := 0, slots := 0, locals := 485 }
set_option maxRecDepth 100000 in
set_option maxHeartbeats 4000000 in
theorem c_Tree_startRowOrCell {l : Launch} {D : va_G} {dA : Nat → ClassId} {b : Nat} {adK adV : Nat → Nat} (a1 : Int32) (a2 : Int32)  (M : qM) (out : qM) (hf : f_Tree_startRowOrCell a1 a2 M = some out) : CTv l y_Tree_startRowOrCell w_Tree_startRowOrCell rm_Tree_startRowOrCell D (tysX dA) (enX dA b) 367 b (qX adK adV 367 b) [qr (some 1), qi a1, qi a2] M out := by
  refine qm_v (cc := prog_11_method_7_code) (nL := 5) (by decide) rfl (Nat.le_of_ble_eq_true rfl) ?_
  intro p e s m args below meth c Q hx hb hts0 hown hml hK hs hret
  have hts : ∀ w ∈ lw_g, w.before args s = true := fun w h => hts0 w (List.mem_cons_of_mem _ h)
  show QJ p l e rm_Tree_startRowOrCell s m args below meth c (qA 367 b) b 5 0 0 Q (qWd D (enX dA b) 367 b) M 0 [(0, qr (some 1)), (1, qi a1), (2, qi a2)] []
  unfold f_Tree_startRowOrCell at hf
  refine qj_aload_n hx hb d_Tree_startRowOrCell_0 rfl 0 rfl ?_
  refine qj_get hx hb hts hin_5 hown hK (q_in (rfl : tcX 1 = 1) (by decide)) (en_1 (rfl : tcX 1 = 1)) rfl 3 (by decide) (hts _ tw_12) (fun _ h => h) (qr (some 5)) rfl d_Tree_startRowOrCell_1 ?_
  refine qj_bipush (v := 116) hx hb d_Tree_startRowOrCell_4 (by decide) ?_
  have hf9 := q_bp_s hf; clear hf; obtain ⟨r1, hr1, hf⟩ := hf9
  refine qc_Vr (st := []) hx hb hml hown hts hK (qX_ok _ _ _ _) hs (c_OpenStack_topmost 116 M _ hr1) ⟨(callB_of 1 hts (q_good tw_14) rfl rfl rfl (hts _ tw_13) (hts _ tw_15) (by decide +kernel) ⟨by decide, by decide⟩), (hts _ tw_16), (hts _ tw_17)⟩ (q_in (rfl : tcX 5 = 5) (by decide)) (en_5 (rfl : tcX 5 = 5)) rfl rfl rfl (Nat.le_of_ble_eq_true rfl) d_Tree_startRowOrCell_6 (fun tr1 => ?_)
  refine qj_astore_n hx hb d_Tree_startRowOrCell_9 rfl (by decide) rfl ?_
  refine qj_aload_n hx hb d_Tree_startRowOrCell_10 rfl 0 rfl ?_
  refine qj_ifnonnull (tgt := 15) hx hb d_Tree_startRowOrCell_11 (by decide) (fun o2 hn19 => ?_) (fun hn19 => ?_)
  · subst hn19
    replace hf := q_on_s hf
    refine qj_iload_n hx hb d_Tree_startRowOrCell_15 rfl 2 rfl ?_
    refine qj_bipush (v := 99) hx hb d_Tree_startRowOrCell_16 (by decide) ?_
    have hf9 := q_lt_s hf; clear hf; obtain ⟨j16, ej16, hf⟩ := hf9
    have hj16 : ∀ (r3 : Option Nat), (∀ o, r3 = some o → tcX o = 7) → j16 r3 = some out → QJ p l e rm_Tree_startRowOrCell s m args below meth c (qA 367 b) b 5 0 0 Q (qWd D (enX dA b) 367 b) M 32 [(0, qr (some 1)), (1, qi a1), (2, qi a2), (3, qr (some o2))] [qr r3] := by
      clear hf
      intro r3 tr3 hf
      rw [ej16] at hf
      refine qj_astore hx hb d_Tree_startRowOrCell_32 (by decide) rfl ?_
      refine qj_aload_n hx hb d_Tree_startRowOrCell_34 rfl 1 rfl ?_
      refine qj_get hx hb hts hin_5 hown hK (q_in (rfl : tcX 1 = 1) (by decide)) (en_1 (rfl : tcX 1 = 1)) rfl 3 (by decide) (hts _ tw_12) (fun _ h => h) (qr (some 5)) rfl d_Tree_startRowOrCell_35 ?_
      refine qj_aload hx hb d_Tree_startRowOrCell_38 0 rfl ?_
      have hf9 := q_lt_s hf; clear hf; obtain ⟨j13, ej13, hf⟩ := hf9
      have hj13 : ∀ (r4 : Option Nat), (∀ o, r4 = some o → tcX o = 7) → j13 r4 = some out → QJ p l e rm_Tree_startRowOrCell s m args below meth c (qA 367 b) b 5 0 0 Q (qWd D (enX dA b) 367 b) M 49 [(0, qr (some 1)), (1, qi a1), (2, qi a2), (4, qr r3)] [qr r4, qr (some 5)] := by
        clear hf
        intro r4 tr4 hf
        rw [ej13] at hf
        have hf9 := q_cv_s hf; clear hf; obtain ⟨M5, hM5, hf⟩ := hf9
        refine qc_Vv (st := []) hx hb hml hown hts hK (qX_ok _ _ _ _) hs (c_OpenStack_closeAbove r4 tr4 M _ hM5) ⟨(callB_of 1 hts (q_good tw_127) rfl rfl rfl (hts _ tw_13) (hts _ tw_128) (by decide +kernel) ⟨by decide, by decide⟩), (hts _ tw_129), (hts _ tw_130)⟩ (q_in (rfl : tcX 5 = 5) (by decide)) (en_5 (rfl : tcX 5 = 5)) rfl rfl rfl (Nat.le_of_ble_eq_true rfl) d_Tree_startRowOrCell_49 ?_
        refine qj_iload_n hx hb d_Tree_startRowOrCell_52 rfl 1 rfl ?_
        refine qj_bipush (v := 99) hx hb d_Tree_startRowOrCell_53 (by decide) ?_
        have hf9 := q_lt_s hf; clear hf; obtain ⟨j8, ej8, hf⟩ := hf9
        have hj8 : ∀ (M6 : qM), j8 M6 = some out → QJ p l e rm_Tree_startRowOrCell s m args below meth c (qA 367 b) b 5 0 0 Q (qWd D (enX dA b) 367 b) M6 70 [(0, qr (some 1)), (1, qi a1), (2, qi a2)] [] := by
          clear hf
          intro M6 hf
          rw [ej8] at hf
          refine qj_aload_n hx hb d_Tree_startRowOrCell_70 rfl 0 rfl ?_
          refine qj_iload_n hx hb d_Tree_startRowOrCell_71 rfl 1 rfl ?_
          refine qj_iload_n hx hb d_Tree_startRowOrCell_72 rfl 2 rfl ?_
          have hf9 := q_cv_s hf; clear hf; obtain ⟨M7, hM7, hf⟩ := hf9
          refine qc_Vv (st := []) hx hb hml hown hts hK (qX_ok _ _ _ _) hs (c_Tree_openInTop a1 a2 M6 _ hM7) ⟨(callB_of 2 hts (q_good tw_131) rfl rfl rfl (hts _ tw_54) (hts _ tw_132) (by decide +kernel) ⟨by decide, by decide⟩), (hts _ tw_133), (hts _ tw_134)⟩ (q_in (rfl : tcX 1 = 1) (by decide)) (en_1 (rfl : tcX 1 = 1)) rfl rfl rfl (Nat.le_of_ble_eq_true rfl) d_Tree_startRowOrCell_73 ?_
          exact hret _ _ _ d_Tree_startRowOrCell_76 (Option.some.inj hf)
        refine qj_icmp_ne (tgt := 70) hx hb d_Tree_startRowOrCell_55 (by decide) (fun hc9 => ?_) (fun hc9 => ?_)
        · replace hf := q_if_f hc9 hf
          refine qj_sub [0, 1, 2] rfl ?_
          exact hj8 M5 hf
        · replace hf := q_if_t hc9 hf
          refine qj_aload hx hb d_Tree_startRowOrCell_58 3 rfl ?_
          refine qj_ifnonnull (tgt := 70) hx hb d_Tree_startRowOrCell_60 (by decide) (fun o10 hn12 => ?_) (fun hn12 => ?_)
          · subst hn12
            replace hf := q_on_s hf
            refine qj_sub [0, 1, 2] rfl ?_
            exact hj8 M5 hf
          · subst hn12
            replace hf := q_on_n hf
            refine qj_aload_n hx hb d_Tree_startRowOrCell_63 rfl 0 rfl ?_
            refine qj_bipush (v := 114) hx hb d_Tree_startRowOrCell_64 (by decide) ?_
            refine qj_iconst (v := 0) hx hb d_Tree_startRowOrCell_66 (by decide) ?_
            have hf9 := q_cv_s hf; clear hf; obtain ⟨M11, hM11, hf⟩ := hf9
            refine qc_Vv (st := []) hx hb hml hown hts hK (qX_ok _ _ _ _) hs (c_Tree_openInTop 114 0 M5 _ hM11) ⟨(callB_of 2 hts (q_good tw_131) rfl rfl rfl (hts _ tw_54) (hts _ tw_132) (by decide +kernel) ⟨by decide, by decide⟩), (hts _ tw_133), (hts _ tw_134)⟩ (q_in (rfl : tcX 1 = 1) (by decide)) (en_1 (rfl : tcX 1 = 1)) rfl rfl rfl (Nat.le_of_ble_eq_true rfl) d_Tree_startRowOrCell_67 ?_
            refine qj_sub [0, 1, 2] rfl ?_
            exact hj8 M11 hf
      refine qj_ifnonnull (tgt := 47) hx hb d_Tree_startRowOrCell_40 (by decide) (fun o14 hn15 => ?_) (fun hn15 => ?_)
      · subst hn15
        replace hf := q_on_s hf
        refine qj_aload hx hb d_Tree_startRowOrCell_47 0 rfl ?_
        refine qj_sub [1, 2, 3, 0] rfl ?_
        exact hj13 (some o14) (q_ts (tr3 _ rfl)) hf
      · subst hn15
        replace hf := q_on_n hf
        refine qj_aload_n hx hb d_Tree_startRowOrCell_43 rfl 4 rfl ?_
        refine qj_goto (tgt := 49) hx hb d_Tree_startRowOrCell_44 (by decide) ?_
        refine qj_sub [1, 2, 3, 0] rfl ?_
        exact hj13 (some o2) (q_ts (tr1 _ rfl)) hf
    refine qj_icmp_ne (tgt := 31) hx hb d_Tree_startRowOrCell_18 (by decide) (fun hc17 => ?_) (fun hc17 => ?_)
    · replace hf := q_if_f hc17 hf
      refine qj_null hx hb d_Tree_startRowOrCell_31 ?_
      refine qj_sub [1, 2, 3, 0] rfl ?_
      exact hj16 none q_tn hf
    · replace hf := q_if_t hc17 hf
      refine qj_aload_n hx hb d_Tree_startRowOrCell_21 rfl 1 rfl ?_
      refine qj_get hx hb hts hin_5 hown hK (q_in (rfl : tcX 1 = 1) (by decide)) (en_1 (rfl : tcX 1 = 1)) rfl 3 (by decide) (hts _ tw_12) (fun _ h => h) (qr (some 5)) rfl d_Tree_startRowOrCell_22 ?_
      have hf9 := q_bp_s hf; clear hf; obtain ⟨r18, hr18, hf⟩ := hf9
      refine qc_Vr (st := []) hx hb hml hown hts hK (qX_ok _ _ _ _) hs (c_OpenStack_rowOfTable  M _ hr18) ⟨(callB_of 0 hts (q_good tw_135) rfl rfl rfl (hts _ tw_13) (hts _ tw_136) (by decide +kernel) ⟨by decide, by decide⟩), (hts _ tw_137), (hts _ tw_138)⟩ (q_in (rfl : tcX 5 = 5) (by decide)) (en_5 (rfl : tcX 5 = 5)) rfl rfl rfl (Nat.le_of_ble_eq_true rfl) d_Tree_startRowOrCell_25 (fun tr18 => ?_)
      refine qj_goto (tgt := 32) hx hb d_Tree_startRowOrCell_28 (by decide) ?_
      refine qj_sub [1, 2, 3, 0] rfl ?_
      exact hj16 r18 tr18 hf
  · subst hn19
    replace hf := q_on_n hf
    exact hret _ _ _ d_Tree_startRowOrCell_14 (Option.some.inj hf)
theorem d_OpenStack_closeTo_0 : decode prog_7_method_10_code 0 = .ok (.aload_n 0, 1) := by decide +kernel
theorem d_OpenStack_closeTo_1 : decode prog_7_method_10_code 1 = .ok (.aload_n 0, 1) := by decide +kernel
theorem d_OpenStack_closeTo_2 : decode prog_7_method_10_code 2 = .ok (.aload_n 1, 1) := by decide +kernel
theorem d_OpenStack_closeTo_3 : decode prog_7_method_10_code 3 = .ok (.invokevirtual 38, 3) := by decide +kernel
theorem d_OpenStack_closeTo_6 : decode prog_7_method_10_code 6 = .ok (.aload_n 0, 1) := by decide +kernel
theorem d_OpenStack_closeTo_7 : decode prog_7_method_10_code 7 = .ok (.getfield 17, 3) := by decide +kernel
theorem d_OpenStack_closeTo_10 : decode prog_7_method_10_code 10 = .ok (.invokevirtual 42, 3) := by decide +kernel
theorem d_OpenStack_closeTo_13 : decode prog_7_method_10_code 13 = .ok (.return_, 1) := by decide +kernel
def f_OpenStack_closeTo (p1 : Option Nat) (M : qM) : Option qM := q_bp (f_OpenStack_indexOf p1 M) fun x1 => q_cv (f_OpenStack_takeOut x1 (M.1 5 1) M) fun M2 => some M2
abbrev rm_OpenStack_closeTo : Room := { frames := 1, cells := 0, slots := 0, locals := 23 }
set_option maxRecDepth 100000 in
set_option maxHeartbeats 4000000 in
theorem c_OpenStack_closeTo {l : Launch} {D : va_G} {dA : Nat → ClassId} {b : Nat} {adK adV : Nat → Nat} (p1 : Option Nat) (tp1 : ∀ o, p1 = some o → tcX o = 7) (M : qM) (out : qM) (hf : f_OpenStack_closeTo p1 M = some out) : CTv l y_OpenStack_closeTo w_OpenStack_closeTo rm_OpenStack_closeTo D (tysX dA) (enX dA b) 367 b (qX adK adV 367 b) [qr (some 5), qr p1] M out := by
  refine qm_v (cc := prog_7_method_10_code) (nL := 2) (by decide) rfl (Nat.le_of_ble_eq_true rfl) ?_
  intro p e s m args below meth c Q hx hb hts0 hown hml hK hs hret
  have hts : ∀ w ∈ lw_g, w.before args s = true := fun w h => hts0 w (List.mem_cons_of_mem _ h)
  show QJ p l e rm_OpenStack_closeTo s m args below meth c (qA 367 b) b 2 0 0 Q (qWd D (enX dA b) 367 b) M 0 [(0, qr (some 5)), (1, qr p1)] []
  unfold f_OpenStack_closeTo at hf
  refine qj_aload_n hx hb d_OpenStack_closeTo_0 rfl 0 rfl ?_
  refine qj_aload_n hx hb d_OpenStack_closeTo_1 rfl 0 rfl ?_
  refine qj_aload_n hx hb d_OpenStack_closeTo_2 rfl 1 rfl ?_
  have hf9 := q_bp_s hf; clear hf; obtain ⟨x1, hx1, hf⟩ := hf9
  refine qc_Vi (st := [qr (some 5)]) hx hb hml hown hts hK (qX_ok _ _ _ _) hs (c_OpenStack_indexOf p1 tp1 M _ hx1) ⟨(callB_of 1 hts (q_good tw_119) rfl rfl rfl (hts _ tw_13) (hts _ tw_120) (by decide +kernel) ⟨by decide, by decide⟩), (hts _ tw_121), (hts _ tw_122)⟩ (q_in (rfl : tcX 5 = 5) (by decide)) (en_5 (rfl : tcX 5 = 5)) rfl rfl rfl (Nat.le_of_ble_eq_true rfl) d_OpenStack_closeTo_3 ?_
  refine qj_aload_n hx hb d_OpenStack_closeTo_6 rfl 0 rfl ?_
  refine qj_get hx hb hts hin_4 hown hK (q_in (rfl : tcX 5 = 5) (by decide)) (en_5 (rfl : tcX 5 = 5)) rfl 1 (by decide) (hts _ tw_9) (fun _ h => h) (qi (M.1 5 1)) rfl d_OpenStack_closeTo_7 ?_
  have hf9 := q_cv_s hf; clear hf; obtain ⟨M2, hM2, hf⟩ := hf9
  refine qc_Vv (st := []) hx hb hml hown hts hK (qX_ok _ _ _ _) hs (c_OpenStack_takeOut x1 (M.1 5 1) M _ hM2) ⟨(callB_of 2 hts (q_good tw_123) rfl rfl rfl (hts _ tw_13) (hts _ tw_124) (by decide +kernel) ⟨by decide, by decide⟩), (hts _ tw_125), (hts _ tw_126)⟩ (q_in (rfl : tcX 5 = 5) (by decide)) (en_5 (rfl : tcX 5 = 5)) rfl rfl rfl (Nat.le_of_ble_eq_true rfl) d_OpenStack_closeTo_10 ?_
  exact hret _ _ _ d_OpenStack_closeTo_13 (Option.some.inj hf)
theorem d_FormattingList_removeAt_0 : decode prog_3_method_4_code 0 = .ok (.iload_n 1, 1) := by decide +kernel
theorem d_FormattingList_removeAt_1 : decode prog_3_method_4_code 1 = .ok (.istore_n 2, 1) := by decide +kernel
theorem d_FormattingList_removeAt_2 : decode prog_3_method_4_code 2 = .ok (.iload_n 2, 1) := by decide +kernel
theorem d_FormattingList_removeAt_3 : decode prog_3_method_4_code 3 = .ok (.iconst 1, 1) := by decide +kernel
theorem d_FormattingList_removeAt_4 : decode prog_3_method_4_code 4 = .ok (.iadd, 1) := by decide +kernel
theorem d_FormattingList_removeAt_5 : decode prog_3_method_4_code 5 = .ok (.aload_n 0, 1) := by decide +kernel
theorem d_FormattingList_removeAt_6 : decode prog_3_method_4_code 6 = .ok (.getfield 17, 3) := by decide +kernel
theorem d_FormattingList_removeAt_9 : decode prog_3_method_4_code 9 = .ok (.if_icmp .ge 23, 3) := by decide +kernel
theorem d_FormattingList_removeAt_12 : decode prog_3_method_4_code 12 = .ok (.aload_n 0, 1) := by decide +kernel
theorem d_FormattingList_removeAt_13 : decode prog_3_method_4_code 13 = .ok (.getfield 11, 3) := by decide +kernel
theorem d_FormattingList_removeAt_16 : decode prog_3_method_4_code 16 = .ok (.iload_n 2, 1) := by decide +kernel
theorem d_FormattingList_removeAt_17 : decode prog_3_method_4_code 17 = .ok (.aload_n 0, 1) := by decide +kernel
theorem d_FormattingList_removeAt_18 : decode prog_3_method_4_code 18 = .ok (.getfield 11, 3) := by decide +kernel
theorem d_FormattingList_removeAt_21 : decode prog_3_method_4_code 21 = .ok (.iload_n 2, 1) := by decide +kernel
theorem d_FormattingList_removeAt_22 : decode prog_3_method_4_code 22 = .ok (.iconst 1, 1) := by decide +kernel
theorem d_FormattingList_removeAt_23 : decode prog_3_method_4_code 23 = .ok (.iadd, 1) := by decide +kernel
theorem d_FormattingList_removeAt_24 : decode prog_3_method_4_code 24 = .ok (.aaload, 1) := by decide +kernel
theorem d_FormattingList_removeAt_25 : decode prog_3_method_4_code 25 = .ok (.aastore, 1) := by decide +kernel
theorem d_FormattingList_removeAt_26 : decode prog_3_method_4_code 26 = .ok (.iinc 2 1, 3) := by decide +kernel
theorem d_FormattingList_removeAt_29 : decode prog_3_method_4_code 29 = .ok (.goto (-27), 3) := by decide +kernel
theorem d_FormattingList_removeAt_32 : decode prog_3_method_4_code 32 = .ok (.aload_n 0, 1) := by decide +kernel
theorem d_FormattingList_removeAt_33 : decode prog_3_method_4_code 33 = .ok (.dup, 1) := by decide +kernel
theorem d_FormattingList_removeAt_34 : decode prog_3_method_4_code 34 = .ok (.getfield 17, 3) := by decide +kernel
theorem d_FormattingList_removeAt_37 : decode prog_3_method_4_code 37 = .ok (.iconst 1, 1) := by decide +kernel
theorem d_FormattingList_removeAt_38 : decode prog_3_method_4_code 38 = .ok (.isub, 1) := by decide +kernel
theorem d_FormattingList_removeAt_39 : decode prog_3_method_4_code 39 = .ok (.putfield 17, 3) := by decide +kernel
theorem d_FormattingList_removeAt_42 : decode prog_3_method_4_code 42 = .ok (.return_, 1) := by decide +kernel
def f_FormattingList_removeAt_2 (q0 : Nat) : Nat → (qM → Option qM) → Int32 → qM → Option qM
  | 0, _, _, _ => none
  | n + 1, K3, x1, M2 => if (M2.1 q0 1) ≤ (x1 + 1) then (K3 M2) else (q_ix (x1 + 1) 4 <| q_lt (M2.2 (q0 + 1) (x1 + 1).toNatClampNeg) fun r6 => q_ix x1 4 <| q_lt (qsR M2 (q0 + 1) x1.toNatClampNeg r6) fun M8 => f_FormattingList_removeAt_2 q0 n K3 (x1 + 1) M8)
def f_FormattingList_removeAt (q0 : Nat) (a1 : Int32) (M : qM) : Option qM := f_FormattingList_removeAt_2 q0 1000 (fun (M9 : qM) => q_lt (qsI M9 q0 1 ((M9.1 q0 1) - 1)) fun M10 => some M10) a1 M
abbrev rm_FormattingList_removeAt : Room := { frames := 0, cells := 0, slots := 0, locals := 0 }
set_option maxRecDepth 100000 in
set_option maxHeartbeats 4000000 in
theorem c_FormattingList_removeAt {l : Launch} {D : va_G} {dA : Nat → ClassId} {b : Nat} {adK adV : Nat → Nat} (q0 : Nat) (a1 : Int32) (tq0 : tcX q0 = 8) (M : qM) (out : qM) (hf : f_FormattingList_removeAt q0 a1 M = some out) : CTv l y_FormattingList_removeAt w_FormattingList_removeAt rm_FormattingList_removeAt D (tysX dA) (enX dA b) 367 b (qX adK adV 367 b) [qr (some q0), qi a1] M out := by
  refine qm_v (cc := prog_3_method_4_code) (nL := 3) (by decide) rfl (Nat.le_of_ble_eq_true rfl) ?_
  intro p e s m args below meth c Q hx hb hts0 hown hml hK hs hret
  have hts : ∀ w ∈ lw_g, w.before args s = true := fun w h => hts0 w (List.mem_cons_of_mem _ h)
  show QJ p l e rm_FormattingList_removeAt s m args below meth c (qA 367 b) b 3 0 0 Q (qWd D (enX dA b) 367 b) M 0 [(0, qr (some q0)), (1, qi a1)] []
  unfold f_FormattingList_removeAt at hf
  refine qj_iload_n hx hb d_FormattingList_removeAt_0 rfl 1 rfl ?_
  refine qj_istore_n hx hb d_FormattingList_removeAt_1 rfl (by decide) rfl ?_
  have hL2 : ∀ (n : Nat) (K3 : qM → Option qM), (∀ (M9 : qM), K3 M9 = some out → QJ p l e rm_FormattingList_removeAt s m args below meth c (qA 367 b) b 3 0 0 Q (qWd D (enX dA b) 367 b) M9 32 [(0, qr (some q0))] []) → ∀ (x1 : Int32) (M2 : qM), f_FormattingList_removeAt_2 q0 n K3 x1 M2 = some out → QJ p l e rm_FormattingList_removeAt s m args below meth c (qA 367 b) b 3 0 0 Q (qWd D (enX dA b) 367 b) M2 2 [(0, qr (some q0)), (2, qi x1)] [] := by
    clear hf
    intro n
    induction n with
    | zero =>
      intro K3 hK3 x1 M2 hf
      exact absurd hf (by simp [f_FormattingList_removeAt_2])
    | succ n ih2 =>
      intro K3 hK3 x1 M2 hf
      rw [f_FormattingList_removeAt_2] at hf
      have ih2 := ih2 K3 hK3
      refine qj_iload_n hx hb d_FormattingList_removeAt_2 rfl 1 rfl ?_
      refine qj_iconst (v := 1) hx hb d_FormattingList_removeAt_3 (by decide) ?_
      refine qj_iadd hx hb d_FormattingList_removeAt_4 ?_
      refine qj_aload_n hx hb d_FormattingList_removeAt_5 rfl 0 rfl ?_
      refine qj_get hx hb hts hin_1 hown hK (q_in tq0 (by decide)) (en_8 tq0) rfl 1 (by decide) (hts _ tw_20) (fun _ h => h) (qi (M2.1 q0 1)) rfl d_FormattingList_removeAt_6 ?_
      refine qj_icmp_ge (tgt := 32) hx hb d_FormattingList_removeAt_9 (by decide) (fun hc4 => ?_) (fun hc4 => ?_)
      · replace hf := q_if_t hc4 hf
        refine qj_sub [0] rfl ?_
        exact hK3 M2 hf
      · replace hf := q_if_f hc4 hf
        refine qj_aload_n hx hb d_FormattingList_removeAt_12 rfl 0 rfl ?_
        refine qj_get hx hb hts hin_1 hown hK (q_in tq0 (by decide)) (en_8 tq0) rfl 0 (by decide) (hts _ tw_21) (fun _ h => h) (qr (some (q0 + 1))) rfl d_FormattingList_removeAt_13 ?_
        refine qj_iload_n hx hb d_FormattingList_removeAt_16 rfl 1 rfl ?_
        refine qj_aload_n hx hb d_FormattingList_removeAt_17 rfl 0 rfl ?_
        refine qj_get hx hb hts hin_1 hown hK (q_in tq0 (by decide)) (en_8 tq0) rfl 0 (by decide) (hts _ tw_21) (fun _ h => h) (qr (some (q0 + 1))) rfl d_FormattingList_removeAt_18 ?_
        refine qj_iload_n hx hb d_FormattingList_removeAt_21 rfl 1 rfl ?_
        refine qj_iconst (v := 1) hx hb d_FormattingList_removeAt_22 (by decide) ?_
        refine qj_iadd hx hb d_FormattingList_removeAt_23 ?_
        have hf9 := q_ix_s hf; clear hf; obtain ⟨hi5, hf⟩ := hf9
        have hf9 := q_lt_s hf; clear hf; obtain ⟨r6, er6, hf⟩ := hf9
        refine qj_w fun w => ?_
        have tr6 : ∀ o, r6 = some o → tcX o = 7 := fun o h => (w _ _ o (er6.symm.trans h)).trans (by rw [(tc_8_1 tq0)] <;> rfl)
        refine qj_aald (t0 := 3) (f := M2.2 (q0 + 1)) hx hb hK (q_in (tc_8_1 tq0) (by decide)) (en_9 (tc_8_1 tq0) _ _) rfl hi5 d_FormattingList_removeAt_24 ?_
        rw [← er6]
        have hf9 := q_ix_s hf; clear hf; obtain ⟨hi7, hf⟩ := hf9
        have hf9 := q_lt_s hf; clear hf; obtain ⟨M8, eM8, hf⟩ := hf9
        refine qj_aast (t0 := 3) (ci := 3) hx hb hK (q_in (tc_8_1 tq0) (by decide)) (en_9 (tc_8_1 tq0)) rfl rfl (fun q hq => ⟨q_in (tr6 q hq) (by decide), _, en_7 (tr6 q hq)⟩) hi7 (fun o h => (tr6 o h).trans (by rw [(tc_8_1 tq0)] <;> rfl)) eM8 d_FormattingList_removeAt_25 ?_
        refine qj_iinc (j := 1) (v := x1 + 1) hx hb d_FormattingList_removeAt_26 rfl rfl (by decide) rfl ?_
        refine qj_goto (tgt := 2) hx hb d_FormattingList_removeAt_29 (by decide) ?_
        refine qj_sub [1, 0] rfl ?_
        exact ih2 (x1 + 1) M8 hf
  refine qj_sub [1, 0] rfl ?_
  refine hL2 _ _ (fun M9 hf9 => ?_) a1 M hf
  clear hf; have hf := hf9; clear hf9
  refine qj_aload_n hx hb d_FormattingList_removeAt_32 rfl 0 rfl ?_
  refine qj_dup hx hb d_FormattingList_removeAt_33 ?_
  refine qj_get hx hb hts hin_1 hown hK (q_in tq0 (by decide)) (en_8 tq0) rfl 1 (by decide) (hts _ tw_20) (fun _ h => h) (qi (M9.1 q0 1)) rfl d_FormattingList_removeAt_34 ?_
  refine qj_iconst (v := 1) hx hb d_FormattingList_removeAt_37 (by decide) ?_
  refine qj_isub hx hb d_FormattingList_removeAt_38 ?_
  have hf9 := q_lt_s hf; clear hf; obtain ⟨M10, eM10, hf⟩ := hf9
  refine qj_puti (ty := .int) hx hb hts hin_1 ty_1 tyok_1 nm_1 hown hK (q_in tq0 (by decide)) (en_8 tq0) rfl 1 (by decide) (hts _ tw_20) (fun _ h => h) rfl (by decide +kernel) rfl rfl (Nat.le_of_ble_eq_true rfl) (sp_8_1 tq0) eM10 d_FormattingList_removeAt_39 ?_
  exact hret _ _ _ d_FormattingList_removeAt_42 (Option.some.inj hf)
theorem d_FormattingList_add_0 : decode prog_3_method_2_code 0 = .ok (.aload_n 0, 1) := by decide +kernel
theorem d_FormattingList_add_1 : decode prog_3_method_2_code 1 = .ok (.getfield 17, 3) := by decide +kernel
theorem d_FormattingList_add_4 : decode prog_3_method_2_code 4 = .ok (.iconst 4, 1) := by decide +kernel
theorem d_FormattingList_add_5 : decode prog_3_method_2_code 5 = .ok (.if_icmp .ne 8, 3) := by decide +kernel
theorem d_FormattingList_add_8 : decode prog_3_method_2_code 8 = .ok (.aload_n 0, 1) := by decide +kernel
theorem d_FormattingList_add_9 : decode prog_3_method_2_code 9 = .ok (.iconst 0, 1) := by decide +kernel
theorem d_FormattingList_add_10 : decode prog_3_method_2_code 10 = .ok (.invokevirtual 21, 3) := by decide +kernel
theorem d_FormattingList_add_13 : decode prog_3_method_2_code 13 = .ok (.aload_n 0, 1) := by decide +kernel
theorem d_FormattingList_add_14 : decode prog_3_method_2_code 14 = .ok (.getfield 11, 3) := by decide +kernel
theorem d_FormattingList_add_17 : decode prog_3_method_2_code 17 = .ok (.aload_n 0, 1) := by decide +kernel
theorem d_FormattingList_add_18 : decode prog_3_method_2_code 18 = .ok (.getfield 17, 3) := by decide +kernel
theorem d_FormattingList_add_21 : decode prog_3_method_2_code 21 = .ok (.aload_n 1, 1) := by decide +kernel
theorem d_FormattingList_add_22 : decode prog_3_method_2_code 22 = .ok (.aastore, 1) := by decide +kernel
theorem d_FormattingList_add_23 : decode prog_3_method_2_code 23 = .ok (.aload_n 0, 1) := by decide +kernel
theorem d_FormattingList_add_24 : decode prog_3_method_2_code 24 = .ok (.dup, 1) := by decide +kernel
theorem d_FormattingList_add_25 : decode prog_3_method_2_code 25 = .ok (.getfield 17, 3) := by decide +kernel
theorem d_FormattingList_add_28 : decode prog_3_method_2_code 28 = .ok (.iconst 1, 1) := by decide +kernel
theorem d_FormattingList_add_29 : decode prog_3_method_2_code 29 = .ok (.iadd, 1) := by decide +kernel
theorem d_FormattingList_add_30 : decode prog_3_method_2_code 30 = .ok (.putfield 17, 3) := by decide +kernel
theorem d_FormattingList_add_33 : decode prog_3_method_2_code 33 = .ok (.return_, 1) := by decide +kernel
def f_FormattingList_add (q0 : Nat) (q1 : Nat) (M : qM) : Option qM := q_lt (fun (M1 : qM) => q_ix (M1.1 q0 1) 4 <| q_lt (qsR M1 (q0 + 1) (M1.1 q0 1).toNatClampNeg (some q1)) fun M3 => q_lt (qsI M3 q0 1 ((M3.1 q0 1) + 1)) fun M4 => some M4) fun (j5 : qM → Option qM) => if (M.1 q0 1) = 4 then (q_cv (f_FormattingList_removeAt q0 0 M) fun M7 => j5 M7) else (j5 M)
abbrev rm_FormattingList_add : Room := { frames := 1, cells := 0, slots := 0, locals := 22 }
set_option maxRecDepth 100000 in
set_option maxHeartbeats 4000000 in
theorem c_FormattingList_add {l : Launch} {D : va_G} {dA : Nat → ClassId} {b : Nat} {adK adV : Nat → Nat} (q0 : Nat) (q1 : Nat) (tq0 : tcX q0 = 8) (tq1 : tcX q1 = 7) (M : qM) (out : qM) (hf : f_FormattingList_add q0 q1 M = some out) : CTv l y_FormattingList_add w_FormattingList_add rm_FormattingList_add D (tysX dA) (enX dA b) 367 b (qX adK adV 367 b) [qr (some q0), qr (some q1)] M out := by
  refine qm_v (cc := prog_3_method_2_code) (nL := 2) (by decide) rfl (Nat.le_of_ble_eq_true rfl) ?_
  intro p e s m args below meth c Q hx hb hts0 hown hml hK hs hret
  have hts : ∀ w ∈ lw_g, w.before args s = true := fun w h => hts0 w (List.mem_cons_of_mem _ h)
  show QJ p l e rm_FormattingList_add s m args below meth c (qA 367 b) b 2 0 0 Q (qWd D (enX dA b) 367 b) M 0 [(0, qr (some q0)), (1, qr (some q1))] []
  unfold f_FormattingList_add at hf
  refine qj_aload_n hx hb d_FormattingList_add_0 rfl 0 rfl ?_
  refine qj_get hx hb hts hin_1 hown hK (q_in tq0 (by decide)) (en_8 tq0) rfl 1 (by decide) (hts _ tw_20) (fun _ h => h) (qi (M.1 q0 1)) rfl d_FormattingList_add_1 ?_
  refine qj_iconst (v := 4) hx hb d_FormattingList_add_4 (by decide) ?_
  have hf9 := q_lt_s hf; clear hf; obtain ⟨j5, ej5, hf⟩ := hf9
  have hj5 : ∀ (M1 : qM), j5 M1 = some out → QJ p l e rm_FormattingList_add s m args below meth c (qA 367 b) b 2 0 0 Q (qWd D (enX dA b) 367 b) M1 13 [(0, qr (some q0)), (1, qr (some q1))] [] := by
    clear hf
    intro M1 hf
    rw [ej5] at hf
    refine qj_aload_n hx hb d_FormattingList_add_13 rfl 0 rfl ?_
    refine qj_get hx hb hts hin_1 hown hK (q_in tq0 (by decide)) (en_8 tq0) rfl 0 (by decide) (hts _ tw_21) (fun _ h => h) (qr (some (q0 + 1))) rfl d_FormattingList_add_14 ?_
    refine qj_aload_n hx hb d_FormattingList_add_17 rfl 0 rfl ?_
    refine qj_get hx hb hts hin_1 hown hK (q_in tq0 (by decide)) (en_8 tq0) rfl 1 (by decide) (hts _ tw_20) (fun _ h => h) (qi (M1.1 q0 1)) rfl d_FormattingList_add_18 ?_
    refine qj_aload_n hx hb d_FormattingList_add_21 rfl 1 rfl ?_
    have hf9 := q_ix_s hf; clear hf; obtain ⟨hi2, hf⟩ := hf9
    have hf9 := q_lt_s hf; clear hf; obtain ⟨M3, eM3, hf⟩ := hf9
    refine qj_aast (t0 := 3) (ci := 3) hx hb hK (q_in (tc_8_1 tq0) (by decide)) (en_9 (tc_8_1 tq0)) rfl rfl (fun q hq => ⟨q_in ((q_ts tq1) q hq) (by decide), _, en_7 ((q_ts tq1) q hq)⟩) hi2 (fun o h => ((q_ts tq1) o h).trans (by rw [(tc_8_1 tq0)] <;> rfl)) eM3 d_FormattingList_add_22 ?_
    refine qj_aload_n hx hb d_FormattingList_add_23 rfl 0 rfl ?_
    refine qj_dup hx hb d_FormattingList_add_24 ?_
    refine qj_get hx hb hts hin_1 hown hK (q_in tq0 (by decide)) (en_8 tq0) rfl 1 (by decide) (hts _ tw_20) (fun _ h => h) (qi (M3.1 q0 1)) rfl d_FormattingList_add_25 ?_
    refine qj_iconst (v := 1) hx hb d_FormattingList_add_28 (by decide) ?_
    refine qj_iadd hx hb d_FormattingList_add_29 ?_
    have hf9 := q_lt_s hf; clear hf; obtain ⟨M4, eM4, hf⟩ := hf9
    refine qj_puti (ty := .int) hx hb hts hin_1 ty_1 tyok_1 nm_1 hown hK (q_in tq0 (by decide)) (en_8 tq0) rfl 1 (by decide) (hts _ tw_20) (fun _ h => h) rfl (by decide +kernel) rfl rfl (Nat.le_of_ble_eq_true rfl) (sp_8_1 tq0) eM4 d_FormattingList_add_30 ?_
    exact hret _ _ _ d_FormattingList_add_33 (Option.some.inj hf)
  refine qj_icmp_ne (tgt := 13) hx hb d_FormattingList_add_5 (by decide) (fun hc6 => ?_) (fun hc6 => ?_)
  · replace hf := q_if_f hc6 hf
    exact hj5 M hf
  · replace hf := q_if_t hc6 hf
    refine qj_aload_n hx hb d_FormattingList_add_8 rfl 0 rfl ?_
    refine qj_iconst (v := 0) hx hb d_FormattingList_add_9 (by decide) ?_
    have hf9 := q_cv_s hf; clear hf; obtain ⟨M7, hM7, hf⟩ := hf9
    refine qc_Vv (st := []) hx hb hml hown hts hK (qX_ok _ _ _ _) hs (c_FormattingList_removeAt q0 0 tq0 M _ hM7) ⟨(callB_of 1 hts (q_good tw_139) rfl rfl rfl (hts _ tw_59) (hts _ tw_140) (by decide +kernel) ⟨by decide, by decide⟩), (hts _ tw_141), (hts _ tw_142)⟩ (q_in tq0 (by decide)) (en_8 tq0) rfl rfl rfl (Nat.le_of_ble_eq_true rfl) d_FormattingList_add_10 ?_
    exact hj5 M7 hf
theorem d_Tree_startTag_0 : decode prog_11_method_6_code 0 = .ok (.iload_n 1, 1) := by decide +kernel
theorem d_Tree_startTag_1 : decode prog_11_method_6_code 1 = .ok (.ldc 81, 2) := by decide +kernel
theorem d_Tree_startTag_3 : decode prog_11_method_6_code 3 = .ok (.invokestatic 83, 3) := by decide +kernel
theorem d_Tree_startTag_6 : decode prog_11_method_6_code 6 = .ok (.ifCond .eq 10, 3) := by decide +kernel
theorem d_Tree_startTag_9 : decode prog_11_method_6_code 9 = .ok (.aload_n 0, 1) := by decide +kernel
theorem d_Tree_startTag_10 : decode prog_11_method_6_code 10 = .ok (.iload_n 1, 1) := by decide +kernel
theorem d_Tree_startTag_11 : decode prog_11_method_6_code 11 = .ok (.iload_n 2, 1) := by decide +kernel
theorem d_Tree_startTag_12 : decode prog_11_method_6_code 12 = .ok (.invokevirtual 87, 3) := by decide +kernel
theorem d_Tree_startTag_15 : decode prog_11_method_6_code 15 = .ok (.return_, 1) := by decide +kernel
theorem d_Tree_startTag_16 : decode prog_11_method_6_code 16 = .ok (.iload_n 1, 1) := by decide +kernel
theorem d_Tree_startTag_17 : decode prog_11_method_6_code 17 = .ok (.ldc 90, 2) := by decide +kernel
theorem d_Tree_startTag_19 : decode prog_11_method_6_code 19 = .ok (.invokestatic 83, 3) := by decide +kernel
theorem d_Tree_startTag_22 : decode prog_11_method_6_code 22 = .ok (.ifCond .eq 24, 3) := by decide +kernel
theorem d_Tree_startTag_25 : decode prog_11_method_6_code 25 = .ok (.aload_n 0, 1) := by decide +kernel
theorem d_Tree_startTag_26 : decode prog_11_method_6_code 26 = .ok (.getfield 29, 3) := by decide +kernel
theorem d_Tree_startTag_29 : decode prog_11_method_6_code 29 = .ok (.aload_n 0, 1) := by decide +kernel
theorem d_Tree_startTag_30 : decode prog_11_method_6_code 30 = .ok (.getfield 29, 3) := by decide +kernel
theorem d_Tree_startTag_33 : decode prog_11_method_6_code 33 = .ok (.bipush 112, 2) := by decide +kernel
theorem d_Tree_startTag_35 : decode prog_11_method_6_code 35 = .ok (.ldc 92, 2) := by decide +kernel
theorem d_Tree_startTag_37 : decode prog_11_method_6_code 37 = .ok (.invokevirtual 94, 3) := by decide +kernel
theorem d_Tree_startTag_40 : decode prog_11_method_6_code 40 = .ok (.invokevirtual 98, 3) := by decide +kernel
theorem d_Tree_startTag_43 : decode prog_11_method_6_code 43 = .ok (.goto 7, 3) := by decide +kernel
theorem d_Tree_startTag_46 : decode prog_11_method_6_code 46 = .ok (.aload_n 0, 1) := by decide +kernel
theorem d_Tree_startTag_47 : decode prog_11_method_6_code 47 = .ok (.invokevirtual 101, 3) := by decide +kernel
theorem d_Tree_startTag_50 : decode prog_11_method_6_code 50 = .ok (.iload_n 1, 1) := by decide +kernel
theorem d_Tree_startTag_51 : decode prog_11_method_6_code 51 = .ok (.bipush 108, 2) := by decide +kernel
theorem d_Tree_startTag_53 : decode prog_11_method_6_code 53 = .ok (.if_icmp .ne 21, 3) := by decide +kernel
theorem d_Tree_startTag_56 : decode prog_11_method_6_code 56 = .ok (.aload_n 0, 1) := by decide +kernel
theorem d_Tree_startTag_57 : decode prog_11_method_6_code 57 = .ok (.getfield 29, 3) := by decide +kernel
theorem d_Tree_startTag_60 : decode prog_11_method_6_code 60 = .ok (.aload_n 0, 1) := by decide +kernel
theorem d_Tree_startTag_61 : decode prog_11_method_6_code 61 = .ok (.getfield 29, 3) := by decide +kernel
theorem d_Tree_startTag_64 : decode prog_11_method_6_code 64 = .ok (.bipush 108, 2) := by decide +kernel
theorem d_Tree_startTag_66 : decode prog_11_method_6_code 66 = .ok (.ldc 104, 2) := by decide +kernel
theorem d_Tree_startTag_68 : decode prog_11_method_6_code 68 = .ok (.invokevirtual 94, 3) := by decide +kernel
theorem d_Tree_startTag_71 : decode prog_11_method_6_code 71 = .ok (.invokevirtual 98, 3) := by decide +kernel
theorem d_Tree_startTag_74 : decode prog_11_method_6_code 74 = .ok (.aload_n 0, 1) := by decide +kernel
theorem d_Tree_startTag_75 : decode prog_11_method_6_code 75 = .ok (.iload_n 1, 1) := by decide +kernel
theorem d_Tree_startTag_76 : decode prog_11_method_6_code 76 = .ok (.iload_n 2, 1) := by decide +kernel
theorem d_Tree_startTag_77 : decode prog_11_method_6_code 77 = .ok (.invokevirtual 106, 3) := by decide +kernel
theorem d_Tree_startTag_80 : decode prog_11_method_6_code 80 = .ok (.astore_n 3, 1) := by decide +kernel
theorem d_Tree_startTag_81 : decode prog_11_method_6_code 81 = .ok (.aload_n 3, 1) := by decide +kernel
theorem d_Tree_startTag_82 : decode prog_11_method_6_code 82 = .ok (.ifnonnull 4, 3) := by decide +kernel
theorem d_Tree_startTag_85 : decode prog_11_method_6_code 85 = .ok (.return_, 1) := by decide +kernel
theorem d_Tree_startTag_86 : decode prog_11_method_6_code 86 = .ok (.iload_n 1, 1) := by decide +kernel
theorem d_Tree_startTag_87 : decode prog_11_method_6_code 87 = .ok (.ldc 110, 2) := by decide +kernel
theorem d_Tree_startTag_89 : decode prog_11_method_6_code 89 = .ok (.invokestatic 83, 3) := by decide +kernel
theorem d_Tree_startTag_92 : decode prog_11_method_6_code 92 = .ok (.ifCond .ne 11, 3) := by decide +kernel
theorem d_Tree_startTag_95 : decode prog_11_method_6_code 95 = .ok (.aload_n 0, 1) := by decide +kernel
theorem d_Tree_startTag_96 : decode prog_11_method_6_code 96 = .ok (.getfield 29, 3) := by decide +kernel
theorem d_Tree_startTag_99 : decode prog_11_method_6_code 99 = .ok (.aload_n 3, 1) := by decide +kernel
theorem d_Tree_startTag_100 : decode prog_11_method_6_code 100 = .ok (.invokevirtual 57, 3) := by decide +kernel
theorem d_Tree_startTag_103 : decode prog_11_method_6_code 103 = .ok (.iload_n 1, 1) := by decide +kernel
theorem d_Tree_startTag_104 : decode prog_11_method_6_code 104 = .ok (.ldc 112, 2) := by decide +kernel
theorem d_Tree_startTag_106 : decode prog_11_method_6_code 106 = .ok (.invokestatic 83, 3) := by decide +kernel
theorem d_Tree_startTag_109 : decode prog_11_method_6_code 109 = .ok (.ifCond .eq 11, 3) := by decide +kernel
theorem d_Tree_startTag_112 : decode prog_11_method_6_code 112 = .ok (.aload_n 0, 1) := by decide +kernel
theorem d_Tree_startTag_113 : decode prog_11_method_6_code 113 = .ok (.invokevirtual 114, 3) := by decide +kernel
theorem d_Tree_startTag_116 : decode prog_11_method_6_code 116 = .ok (.aload_n 3, 1) := by decide +kernel
theorem d_Tree_startTag_117 : decode prog_11_method_6_code 117 = .ok (.invokevirtual 118, 3) := by decide +kernel
theorem d_Tree_startTag_120 : decode prog_11_method_6_code 120 = .ok (.return_, 1) := by decide +kernel
def f_Tree_startTag (a1 : Int32) (a2 : Int32) (M : qM) : Option qM := q_bp (f_Pg_isOneOf a1 1 M) fun x1 => if x1 = 0 then (q_bp (f_Pg_isOneOf a1 3 M) fun x3 => q_lt (fun (M4 : qM) => q_lt (fun (M5 : qM) => q_cl (f_Tree_putNew a1 a2 M5) fun r6 M7 => q_on r6 (some M7) fun o8 => (q_bp (f_Pg_isOneOf a1 6 M7) fun x9 => q_lt (fun (M10 : qM) => q_bp (f_Pg_isOneOf a1 7 M10) fun x11 => if x11 = 0 then (some M10) else (q_bp (f_Tree_theList M10) fun r13 => q_nn r13 fun o14 => q_cv (f_FormattingList_add o14 o8 M10) fun M15 => some M15)) fun (j16 : qM → Option qM) => if x9 = 0 then (q_cv (f_OpenStack_push o8 M7) fun M18 => j16 M18) else (j16 M7))) fun (j20 : qM → Option qM) => if a1 = 108 then (q_bp (f_OpenStack_inReach 108 5 M4) fun r22 => q_cv (f_OpenStack_closeTo r22 M4) fun M23 => j20 M23) else (j20 M4)) fun (j24 : qM → Option qM) => if x3 = 0 then (q_cv (f_Tree_renew M) fun M26 => j24 M26) else (q_bp (f_OpenStack_inReach 112 4 M) fun r27 => q_cv (f_OpenStack_closeTo r27 M) fun M28 => j24 M28)) else (q_cv (f_Tree_startRowOrCell a1 a2 M) fun M29 => some M29)
abbrev rm_Tree_startTag : Room := { frames := 14, cells := 0, slots := 0, locals := 509 }
set_option maxRecDepth 100000 in
set_option maxHeartbeats 4000000 in
theorem c_Tree_startTag {l : Launch} {D : va_G} {dA : Nat → ClassId} {b : Nat} {adK adV : Nat → Nat} (a1 : Int32) (a2 : Int32)  (M : qM) (out : qM) (hf : f_Tree_startTag a1 a2 M = some out) : CTv l y_Tree_startTag w_Tree_startTag rm_Tree_startTag D (tysX dA) (enX dA b) 367 b (qX adK adV 367 b) [qr (some 1), qi a1, qi a2] M out := by
  refine qm_v (cc := prog_11_method_6_code) (nL := 4) (by decide) rfl (Nat.le_of_ble_eq_true rfl) ?_
  intro p e s m args below meth c Q hx hb hts0 hown hml hK hs hret
  have hts : ∀ w ∈ lw_g, w.before args s = true := fun w h => hts0 w (List.mem_cons_of_mem _ h)
  show QJ p l e rm_Tree_startTag s m args below meth c (qA 367 b) b 4 0 0 Q (qWd D (enX dA b) 367 b) M 0 [(0, qr (some 1)), (1, qi a1), (2, qi a2)] []
  unfold f_Tree_startTag at hf
  refine qj_iload_n hx hb d_Tree_startTag_0 rfl 1 rfl ?_
  refine qj_ldcS hx hb hown (hs.2.1 ("PlainPage$Tree", 81, "rc", 1) (by decide +kernel)) d_Tree_startTag_1 ?_
  have hf9 := q_bp_s hf; clear hf; obtain ⟨x1, hx1, hf⟩ := hf9
  refine qc_SNi (st := []) hx hb hml hown hts hK (qX_ok _ _ _ _) hs (c_Pg_isOneOf a1 1 M _ hx1) ⟨(va_cnB 2 hts (q_good tw_5) rfl rfl rfl (hs.2.2.1 ("PlainPage$Tree", 83, y_Pg_isOneOf, "PlainPage") (by decide +kernel)) (hts _ tw_4) (by decide +kernel) ⟨by decide, by decide⟩), (hts _ tw_6), trivial⟩ rfl rfl (Nat.le_of_ble_eq_true rfl) d_Tree_startTag_3 ?_
  refine qj_if_eq (tgt := 16) hx hb d_Tree_startTag_6 (by decide) (fun hc2 => ?_) (fun hc2 => ?_)
  · replace hf := q_if_t hc2 hf
    refine qj_iload_n hx hb d_Tree_startTag_16 rfl 1 rfl ?_
    refine qj_ldcS hx hb hown (hs.2.1 ("PlainPage$Tree", 90, "pdulht", 3) (by decide +kernel)) d_Tree_startTag_17 ?_
    have hf9 := q_bp_s hf; clear hf; obtain ⟨x3, hx3, hf⟩ := hf9
    refine qc_SNi (st := []) hx hb hml hown hts hK (qX_ok _ _ _ _) hs (c_Pg_isOneOf a1 3 M _ hx3) ⟨(va_cnB 2 hts (q_good tw_5) rfl rfl rfl (hs.2.2.1 ("PlainPage$Tree", 83, y_Pg_isOneOf, "PlainPage") (by decide +kernel)) (hts _ tw_4) (by decide +kernel) ⟨by decide, by decide⟩), (hts _ tw_6), trivial⟩ rfl rfl (Nat.le_of_ble_eq_true rfl) d_Tree_startTag_19 ?_
    have hf9 := q_lt_s hf; clear hf; obtain ⟨j24, ej24, hf⟩ := hf9
    have hj24 : ∀ (M4 : qM), j24 M4 = some out → QJ p l e rm_Tree_startTag s m args below meth c (qA 367 b) b 4 0 0 Q (qWd D (enX dA b) 367 b) M4 50 [(0, qr (some 1)), (1, qi a1), (2, qi a2)] [] := by
      clear hf
      intro M4 hf
      rw [ej24] at hf
      refine qj_iload_n hx hb d_Tree_startTag_50 rfl 1 rfl ?_
      refine qj_bipush (v := 108) hx hb d_Tree_startTag_51 (by decide) ?_
      have hf9 := q_lt_s hf; clear hf; obtain ⟨j20, ej20, hf⟩ := hf9
      have hj20 : ∀ (M5 : qM), j20 M5 = some out → QJ p l e rm_Tree_startTag s m args below meth c (qA 367 b) b 4 0 0 Q (qWd D (enX dA b) 367 b) M5 74 [(0, qr (some 1)), (1, qi a1), (2, qi a2)] [] := by
        clear hf
        intro M5 hf
        rw [ej20] at hf
        refine qj_aload_n hx hb d_Tree_startTag_74 rfl 0 rfl ?_
        refine qj_iload_n hx hb d_Tree_startTag_75 rfl 1 rfl ?_
        refine qj_iload_n hx hb d_Tree_startTag_76 rfl 2 rfl ?_
        have hf9 := q_cl_s hf; clear hf; obtain ⟨r6, M7, hr6, hf⟩ := hf9
        refine qc_Vr (st := []) hx hb hml hown hts hK (qX_ok _ _ _ _) hs (c_Tree_putNew a1 a2 M5 _ hr6) ⟨(callB_of 2 hts (q_good tw_104) rfl rfl rfl (hts _ tw_54) (hts _ tw_105) (by decide +kernel) ⟨by decide, by decide⟩), (hts _ tw_106), (hts _ tw_107)⟩ (q_in (rfl : tcX 1 = 1) (by decide)) (en_1 (rfl : tcX 1 = 1)) rfl rfl rfl (Nat.le_of_ble_eq_true rfl) d_Tree_startTag_77 (fun tr6 => ?_)
        refine qj_astore_n hx hb d_Tree_startTag_80 rfl (by decide) rfl ?_
        refine qj_aload_n hx hb d_Tree_startTag_81 rfl 0 rfl ?_
        refine qj_ifnonnull (tgt := 86) hx hb d_Tree_startTag_82 (by decide) (fun o8 hn19 => ?_) (fun hn19 => ?_)
        · subst hn19
          replace hf := q_on_s hf
          refine qj_iload_n hx hb d_Tree_startTag_86 rfl 2 rfl ?_
          refine qj_ldcS hx hb hown (hs.2.1 ("PlainPage$Tree", 110, "hk", 6) (by decide +kernel)) d_Tree_startTag_87 ?_
          have hf9 := q_bp_s hf; clear hf; obtain ⟨x9, hx9, hf⟩ := hf9
          refine qc_SNi (st := []) hx hb hml hown hts hK (qX_ok _ _ _ _) hs (c_Pg_isOneOf a1 6 M7 _ hx9) ⟨(va_cnB 2 hts (q_good tw_5) rfl rfl rfl (hs.2.2.1 ("PlainPage$Tree", 83, y_Pg_isOneOf, "PlainPage") (by decide +kernel)) (hts _ tw_4) (by decide +kernel) ⟨by decide, by decide⟩), (hts _ tw_6), trivial⟩ rfl rfl (Nat.le_of_ble_eq_true rfl) d_Tree_startTag_89 ?_
          have hf9 := q_lt_s hf; clear hf; obtain ⟨j16, ej16, hf⟩ := hf9
          have hj16 : ∀ (M10 : qM), j16 M10 = some out → QJ p l e rm_Tree_startTag s m args below meth c (qA 367 b) b 4 0 0 Q (qWd D (enX dA b) 367 b) M10 103 [(0, qr (some 1)), (1, qi a1), (3, qr (some o8))] [] := by
            clear hf
            intro M10 hf
            rw [ej16] at hf
            refine qj_iload_n hx hb d_Tree_startTag_103 rfl 1 rfl ?_
            refine qj_ldcS hx hb hown (hs.2.1 ("PlainPage$Tree", 112, "bis", 7) (by decide +kernel)) d_Tree_startTag_104 ?_
            have hf9 := q_bp_s hf; clear hf; obtain ⟨x11, hx11, hf⟩ := hf9
            refine qc_SNi (st := []) hx hb hml hown hts hK (qX_ok _ _ _ _) hs (c_Pg_isOneOf a1 7 M10 _ hx11) ⟨(va_cnB 2 hts (q_good tw_5) rfl rfl rfl (hs.2.2.1 ("PlainPage$Tree", 83, y_Pg_isOneOf, "PlainPage") (by decide +kernel)) (hts _ tw_4) (by decide +kernel) ⟨by decide, by decide⟩), (hts _ tw_6), trivial⟩ rfl rfl (Nat.le_of_ble_eq_true rfl) d_Tree_startTag_106 ?_
            refine qj_if_eq (tgt := 120) hx hb d_Tree_startTag_109 (by decide) (fun hc12 => ?_) (fun hc12 => ?_)
            · replace hf := q_if_t hc12 hf
              exact hret _ _ _ d_Tree_startTag_120 (Option.some.inj hf)
            · replace hf := q_if_f hc12 hf
              refine qj_aload_n hx hb d_Tree_startTag_112 rfl 0 rfl ?_
              have hf9 := q_bp_s hf; clear hf; obtain ⟨r13, hr13, hf⟩ := hf9
              refine qc_Vr (st := []) hx hb hml hown hts hK (qX_ok _ _ _ _) hs (c_Tree_theList  M10 _ hr13) ⟨(callB_of 0 hts (q_good tw_55) rfl rfl rfl (hts _ tw_54) (hts _ tw_56) (by decide +kernel) ⟨by decide, by decide⟩), (hts _ tw_57), (hts _ tw_58)⟩ (q_in (rfl : tcX 1 = 1) (by decide)) (en_1 (rfl : tcX 1 = 1)) rfl rfl rfl (Nat.le_of_ble_eq_true rfl) d_Tree_startTag_113 (fun tr13 => ?_)
              refine qj_aload_n hx hb d_Tree_startTag_116 rfl 2 rfl ?_
              have hf9 := q_nn_s hf; clear hf; obtain ⟨o14, rfl, hf⟩ := hf9
              have hf9 := q_cv_s hf; clear hf; obtain ⟨M15, hM15, hf⟩ := hf9
              refine qc_Vv (st := []) hx hb hml hown hts hK (qX_ok _ _ _ _) hs (c_FormattingList_add o14 o8 (tr13 _ rfl) (tr6 _ rfl) M10 _ hM15) ⟨(callB_of 1 hts (q_good tw_143) rfl rfl rfl (hts _ tw_59) (hts _ tw_144) (by decide +kernel) ⟨by decide, by decide⟩), (hts _ tw_145), (hts _ tw_146)⟩ (q_in (tr13 _ rfl) (by decide)) (en_8 (tr13 _ rfl)) rfl rfl rfl (Nat.le_of_ble_eq_true rfl) d_Tree_startTag_117 ?_
              exact hret _ _ _ d_Tree_startTag_120 (Option.some.inj hf)
          refine qj_if_ne (tgt := 103) hx hb d_Tree_startTag_92 (by decide) (fun hc17 => ?_) (fun hc17 => ?_)
          · replace hf := q_if_f hc17 hf
            refine qj_sub [1, 2, 0] rfl ?_
            exact hj16 M7 hf
          · replace hf := q_if_t hc17 hf
            refine qj_aload_n hx hb d_Tree_startTag_95 rfl 1 rfl ?_
            refine qj_get hx hb hts hin_5 hown hK (q_in (rfl : tcX 1 = 1) (by decide)) (en_1 (rfl : tcX 1 = 1)) rfl 3 (by decide) (hts _ tw_12) (fun _ h => h) (qr (some 5)) rfl d_Tree_startTag_96 ?_
            refine qj_aload_n hx hb d_Tree_startTag_99 rfl 0 rfl ?_
            have hf9 := q_cv_s hf; clear hf; obtain ⟨M18, hM18, hf⟩ := hf9
            refine qc_Vv (st := []) hx hb hml hown hts hK (qX_ok _ _ _ _) hs (c_OpenStack_push o8 (tr6 _ rfl) M7 _ hM18) ⟨(callB_of 1 hts (q_good tw_77) rfl rfl rfl (hts _ tw_13) (hts _ tw_78) (by decide +kernel) ⟨by decide, by decide⟩), (hts _ tw_79), (hts _ tw_80)⟩ (q_in (rfl : tcX 5 = 5) (by decide)) (en_5 (rfl : tcX 5 = 5)) rfl rfl rfl (Nat.le_of_ble_eq_true rfl) d_Tree_startTag_100 ?_
            refine qj_sub [1, 2, 0] rfl ?_
            exact hj16 M18 hf
        · subst hn19
          replace hf := q_on_n hf
          exact hret _ _ _ d_Tree_startTag_85 (Option.some.inj hf)
      refine qj_icmp_ne (tgt := 74) hx hb d_Tree_startTag_53 (by decide) (fun hc21 => ?_) (fun hc21 => ?_)
      · replace hf := q_if_f hc21 hf
        exact hj20 M4 hf
      · replace hf := q_if_t hc21 hf
        refine qj_aload_n hx hb d_Tree_startTag_56 rfl 0 rfl ?_
        refine qj_get hx hb hts hin_5 hown hK (q_in (rfl : tcX 1 = 1) (by decide)) (en_1 (rfl : tcX 1 = 1)) rfl 3 (by decide) (hts _ tw_12) (fun _ h => h) (qr (some 5)) rfl d_Tree_startTag_57 ?_
        refine qj_aload_n hx hb d_Tree_startTag_60 rfl 0 rfl ?_
        refine qj_get hx hb hts hin_5 hown hK (q_in (rfl : tcX 1 = 1) (by decide)) (en_1 (rfl : tcX 1 = 1)) rfl 3 (by decide) (hts _ tw_12) (fun _ h => h) (qr (some 5)) rfl d_Tree_startTag_61 ?_
        refine qj_bipush (v := 108) hx hb d_Tree_startTag_64 (by decide) ?_
        refine qj_ldcS hx hb hown (hs.2.1 ("PlainPage$Tree", 104, "uc", 5) (by decide +kernel)) d_Tree_startTag_66 ?_
        have hf9 := q_bp_s hf; clear hf; obtain ⟨r22, hr22, hf⟩ := hf9
        refine qc_Vr (st := [qr (some 5)]) hx hb hml hown hts hK (qX_ok _ _ _ _) hs (c_OpenStack_inReach 108 5 M4 _ hr22) ⟨(callB_of 2 hts (q_good tw_115) rfl rfl rfl (hts _ tw_13) (hts _ tw_147) (by decide +kernel) ⟨by decide, by decide⟩), (hts _ tw_117), (hts _ tw_118)⟩ (q_in (rfl : tcX 5 = 5) (by decide)) (en_5 (rfl : tcX 5 = 5)) rfl rfl rfl (Nat.le_of_ble_eq_true rfl) d_Tree_startTag_68 (fun tr22 => ?_)
        have hf9 := q_cv_s hf; clear hf; obtain ⟨M23, hM23, hf⟩ := hf9
        refine qc_Vv (st := []) hx hb hml hown hts hK (qX_ok _ _ _ _) hs (c_OpenStack_closeTo r22 tr22 M4 _ hM23) ⟨(callB_of 1 hts (q_good tw_148) rfl rfl rfl (hts _ tw_13) (hts _ tw_149) (by decide +kernel) ⟨by decide, by decide⟩), (hts _ tw_150), (hts _ tw_151)⟩ (q_in (rfl : tcX 5 = 5) (by decide)) (en_5 (rfl : tcX 5 = 5)) rfl rfl rfl (Nat.le_of_ble_eq_true rfl) d_Tree_startTag_71 ?_
        exact hj20 M23 hf
    refine qj_if_eq (tgt := 46) hx hb d_Tree_startTag_22 (by decide) (fun hc25 => ?_) (fun hc25 => ?_)
    · replace hf := q_if_t hc25 hf
      refine qj_aload_n hx hb d_Tree_startTag_46 rfl 0 rfl ?_
      have hf9 := q_cv_s hf; clear hf; obtain ⟨M26, hM26, hf⟩ := hf9
      refine qc_Vv (st := []) hx hb hml hown hts hK (qX_ok _ _ _ _) hs (c_Tree_renew  M _ hM26) ⟨(callB_of 0 hts (q_good tw_88) rfl rfl rfl (hts _ tw_54) (hts _ tw_89) (by decide +kernel) ⟨by decide, by decide⟩), (hts _ tw_90), (hts _ tw_91)⟩ (q_in (rfl : tcX 1 = 1) (by decide)) (en_1 (rfl : tcX 1 = 1)) rfl rfl rfl (Nat.le_of_ble_eq_true rfl) d_Tree_startTag_47 ?_
      exact hj24 M26 hf
    · replace hf := q_if_f hc25 hf
      refine qj_aload_n hx hb d_Tree_startTag_25 rfl 0 rfl ?_
      refine qj_get hx hb hts hin_5 hown hK (q_in (rfl : tcX 1 = 1) (by decide)) (en_1 (rfl : tcX 1 = 1)) rfl 3 (by decide) (hts _ tw_12) (fun _ h => h) (qr (some 5)) rfl d_Tree_startTag_26 ?_
      refine qj_aload_n hx hb d_Tree_startTag_29 rfl 0 rfl ?_
      refine qj_get hx hb hts hin_5 hown hK (q_in (rfl : tcX 1 = 1) (by decide)) (en_1 (rfl : tcX 1 = 1)) rfl 3 (by decide) (hts _ tw_12) (fun _ h => h) (qr (some 5)) rfl d_Tree_startTag_30 ?_
      refine qj_bipush (v := 112) hx hb d_Tree_startTag_33 (by decide) ?_
      refine qj_ldcS hx hb hown (hs.2.1 ("PlainPage$Tree", 92, "c", 4) (by decide +kernel)) d_Tree_startTag_35 ?_
      have hf9 := q_bp_s hf; clear hf; obtain ⟨r27, hr27, hf⟩ := hf9
      refine qc_Vr (st := [qr (some 5)]) hx hb hml hown hts hK (qX_ok _ _ _ _) hs (c_OpenStack_inReach 112 4 M _ hr27) ⟨(callB_of 2 hts (q_good tw_115) rfl rfl rfl (hts _ tw_13) (hts _ tw_147) (by decide +kernel) ⟨by decide, by decide⟩), (hts _ tw_117), (hts _ tw_118)⟩ (q_in (rfl : tcX 5 = 5) (by decide)) (en_5 (rfl : tcX 5 = 5)) rfl rfl rfl (Nat.le_of_ble_eq_true rfl) d_Tree_startTag_37 (fun tr27 => ?_)
      have hf9 := q_cv_s hf; clear hf; obtain ⟨M28, hM28, hf⟩ := hf9
      refine qc_Vv (st := []) hx hb hml hown hts hK (qX_ok _ _ _ _) hs (c_OpenStack_closeTo r27 tr27 M _ hM28) ⟨(callB_of 1 hts (q_good tw_148) rfl rfl rfl (hts _ tw_13) (hts _ tw_149) (by decide +kernel) ⟨by decide, by decide⟩), (hts _ tw_150), (hts _ tw_151)⟩ (q_in (rfl : tcX 5 = 5) (by decide)) (en_5 (rfl : tcX 5 = 5)) rfl rfl rfl (Nat.le_of_ble_eq_true rfl) d_Tree_startTag_40 ?_
      refine qj_goto (tgt := 50) hx hb d_Tree_startTag_43 (by decide) ?_
      exact hj24 M28 hf
  · replace hf := q_if_f hc2 hf
    refine qj_aload_n hx hb d_Tree_startTag_9 rfl 0 rfl ?_
    refine qj_iload_n hx hb d_Tree_startTag_10 rfl 1 rfl ?_
    refine qj_iload_n hx hb d_Tree_startTag_11 rfl 2 rfl ?_
    have hf9 := q_cv_s hf; clear hf; obtain ⟨M29, hM29, hf⟩ := hf9
    refine qc_Vv (st := []) hx hb hml hown hts hK (qX_ok _ _ _ _) hs (c_Tree_startRowOrCell a1 a2 M _ hM29) ⟨(callB_of 2 hts (q_good tw_152) rfl rfl rfl (hts _ tw_54) (hts _ tw_153) (by decide +kernel) ⟨by decide, by decide⟩), (hts _ tw_154), (hts _ tw_155)⟩ (q_in (rfl : tcX 1 = 1) (by decide)) (en_1 (rfl : tcX 1 = 1)) rfl rfl rfl (Nat.le_of_ble_eq_true rfl) d_Tree_startTag_12 ?_
    exact hret _ _ _ d_Tree_startTag_15 (Option.some.inj hf)
theorem d_Tree_endParagraph_0 : decode prog_11_method_9_code 0 = .ok (.aload_n 0, 1) := by decide +kernel
theorem d_Tree_endParagraph_1 : decode prog_11_method_9_code 1 = .ok (.getfield 29, 3) := by decide +kernel
theorem d_Tree_endParagraph_4 : decode prog_11_method_9_code 4 = .ok (.bipush 112, 2) := by decide +kernel
theorem d_Tree_endParagraph_6 : decode prog_11_method_9_code 6 = .ok (.ldc 92, 2) := by decide +kernel
theorem d_Tree_endParagraph_8 : decode prog_11_method_9_code 8 = .ok (.invokevirtual 94, 3) := by decide +kernel
theorem d_Tree_endParagraph_11 : decode prog_11_method_9_code 11 = .ok (.astore_n 1, 1) := by decide +kernel
theorem d_Tree_endParagraph_12 : decode prog_11_method_9_code 12 = .ok (.aload_n 1, 1) := by decide +kernel
theorem d_Tree_endParagraph_13 : decode prog_11_method_9_code 13 = .ok (.ifnonnull 14, 3) := by decide +kernel
theorem d_Tree_endParagraph_16 : decode prog_11_method_9_code 16 = .ok (.aload_n 0, 1) := by decide +kernel
theorem d_Tree_endParagraph_17 : decode prog_11_method_9_code 17 = .ok (.bipush 112, 2) := by decide +kernel
theorem d_Tree_endParagraph_19 : decode prog_11_method_9_code 19 = .ok (.iconst 0, 1) := by decide +kernel
theorem d_Tree_endParagraph_20 : decode prog_11_method_9_code 20 = .ok (.invokevirtual 106, 3) := by decide +kernel
theorem d_Tree_endParagraph_23 : decode prog_11_method_9_code 23 = .ok (.pop, 1) := by decide +kernel
theorem d_Tree_endParagraph_24 : decode prog_11_method_9_code 24 = .ok (.goto 11, 3) := by decide +kernel
theorem d_Tree_endParagraph_27 : decode prog_11_method_9_code 27 = .ok (.aload_n 0, 1) := by decide +kernel
theorem d_Tree_endParagraph_28 : decode prog_11_method_9_code 28 = .ok (.getfield 29, 3) := by decide +kernel
theorem d_Tree_endParagraph_31 : decode prog_11_method_9_code 31 = .ok (.aload_n 1, 1) := by decide +kernel
theorem d_Tree_endParagraph_32 : decode prog_11_method_9_code 32 = .ok (.invokevirtual 98, 3) := by decide +kernel
theorem d_Tree_endParagraph_35 : decode prog_11_method_9_code 35 = .ok (.return_, 1) := by decide +kernel
def f_Tree_endParagraph  (M : qM) : Option qM := q_bp (f_OpenStack_inReach 112 4 M) fun r1 => q_on r1 (q_cl (f_Tree_putNew 112 0 M) fun r3 M4 => some M4) fun o2 => (q_cv (f_OpenStack_closeTo (some o2) M) fun M5 => some M5)
abbrev rm_Tree_endParagraph : Room := { frames := 12, cells := 0, slots := 0, locals := 465 }
set_option maxRecDepth 100000 in
set_option maxHeartbeats 4000000 in
theorem c_Tree_endParagraph {l : Launch} {D : va_G} {dA : Nat → ClassId} {b : Nat} {adK adV : Nat → Nat}   (M : qM) (out : qM) (hf : f_Tree_endParagraph M = some out) : CTv l y_Tree_endParagraph w_Tree_endParagraph rm_Tree_endParagraph D (tysX dA) (enX dA b) 367 b (qX adK adV 367 b) [qr (some 1)] M out := by
  refine qm_v (cc := prog_11_method_9_code) (nL := 2) (by decide) rfl (Nat.le_of_ble_eq_true rfl) ?_
  intro p e s m args below meth c Q hx hb hts0 hown hml hK hs hret
  have hts : ∀ w ∈ lw_g, w.before args s = true := fun w h => hts0 w (List.mem_cons_of_mem _ h)
  show QJ p l e rm_Tree_endParagraph s m args below meth c (qA 367 b) b 2 0 0 Q (qWd D (enX dA b) 367 b) M 0 [(0, qr (some 1))] []
  unfold f_Tree_endParagraph at hf
  refine qj_aload_n hx hb d_Tree_endParagraph_0 rfl 0 rfl ?_
  refine qj_get hx hb hts hin_5 hown hK (q_in (rfl : tcX 1 = 1) (by decide)) (en_1 (rfl : tcX 1 = 1)) rfl 3 (by decide) (hts _ tw_12) (fun _ h => h) (qr (some 5)) rfl d_Tree_endParagraph_1 ?_
  refine qj_bipush (v := 112) hx hb d_Tree_endParagraph_4 (by decide) ?_
  refine qj_ldcS hx hb hown (hs.2.1 ("PlainPage$Tree", 92, "c", 4) (by decide +kernel)) d_Tree_endParagraph_6 ?_
  have hf9 := q_bp_s hf; clear hf; obtain ⟨r1, hr1, hf⟩ := hf9
  refine qc_Vr (st := []) hx hb hml hown hts hK (qX_ok _ _ _ _) hs (c_OpenStack_inReach 112 4 M _ hr1) ⟨(callB_of 2 hts (q_good tw_115) rfl rfl rfl (hts _ tw_13) (hts _ tw_147) (by decide +kernel) ⟨by decide, by decide⟩), (hts _ tw_117), (hts _ tw_118)⟩ (q_in (rfl : tcX 5 = 5) (by decide)) (en_5 (rfl : tcX 5 = 5)) rfl rfl rfl (Nat.le_of_ble_eq_true rfl) d_Tree_endParagraph_8 (fun tr1 => ?_)
  refine qj_astore_n hx hb d_Tree_endParagraph_11 rfl (by decide) rfl ?_
  refine qj_aload_n hx hb d_Tree_endParagraph_12 rfl 0 rfl ?_
  refine qj_ifnonnull (tgt := 27) hx hb d_Tree_endParagraph_13 (by decide) (fun o2 hn6 => ?_) (fun hn6 => ?_)
  · subst hn6
    replace hf := q_on_s hf
    refine qj_aload_n hx hb d_Tree_endParagraph_27 rfl 1 rfl ?_
    refine qj_get hx hb hts hin_5 hown hK (q_in (rfl : tcX 1 = 1) (by decide)) (en_1 (rfl : tcX 1 = 1)) rfl 3 (by decide) (hts _ tw_12) (fun _ h => h) (qr (some 5)) rfl d_Tree_endParagraph_28 ?_
    refine qj_aload_n hx hb d_Tree_endParagraph_31 rfl 0 rfl ?_
    have hf9 := q_cv_s hf; clear hf; obtain ⟨M5, hM5, hf⟩ := hf9
    refine qc_Vv (st := []) hx hb hml hown hts hK (qX_ok _ _ _ _) hs (c_OpenStack_closeTo (some o2) (q_ts (tr1 _ rfl)) M _ hM5) ⟨(callB_of 1 hts (q_good tw_148) rfl rfl rfl (hts _ tw_13) (hts _ tw_149) (by decide +kernel) ⟨by decide, by decide⟩), (hts _ tw_150), (hts _ tw_151)⟩ (q_in (rfl : tcX 5 = 5) (by decide)) (en_5 (rfl : tcX 5 = 5)) rfl rfl rfl (Nat.le_of_ble_eq_true rfl) d_Tree_endParagraph_32 ?_
    exact hret _ _ _ d_Tree_endParagraph_35 (Option.some.inj hf)
  · subst hn6
    replace hf := q_on_n hf
    refine qj_aload_n hx hb d_Tree_endParagraph_16 rfl 1 rfl ?_
    refine qj_bipush (v := 112) hx hb d_Tree_endParagraph_17 (by decide) ?_
    refine qj_iconst (v := 0) hx hb d_Tree_endParagraph_19 (by decide) ?_
    have hf9 := q_cl_s hf; clear hf; obtain ⟨r3, M4, hr3, hf⟩ := hf9
    refine qc_Vr (st := []) hx hb hml hown hts hK (qX_ok _ _ _ _) hs (c_Tree_putNew 112 0 M _ hr3) ⟨(callB_of 2 hts (q_good tw_104) rfl rfl rfl (hts _ tw_54) (hts _ tw_105) (by decide +kernel) ⟨by decide, by decide⟩), (hts _ tw_106), (hts _ tw_107)⟩ (q_in (rfl : tcX 1 = 1) (by decide)) (en_1 (rfl : tcX 1 = 1)) rfl rfl rfl (Nat.le_of_ble_eq_true rfl) d_Tree_endParagraph_20 (fun tr3 => ?_)
    refine qj_pop hx hb d_Tree_endParagraph_23 ?_
    refine qj_goto (tgt := 35) hx hb d_Tree_endParagraph_24 (by decide) ?_
    exact hret _ _ _ d_Tree_endParagraph_35 (Option.some.inj hf)
theorem d_FormattingList_lastNamed_0 : decode prog_3_method_5_code 0 = .ok (.aload_n 0, 1) := by decide +kernel
theorem d_FormattingList_lastNamed_1 : decode prog_3_method_5_code 1 = .ok (.getfield 17, 3) := by decide +kernel
theorem d_FormattingList_lastNamed_4 : decode prog_3_method_5_code 4 = .ok (.iconst 1, 1) := by decide +kernel
theorem d_FormattingList_lastNamed_5 : decode prog_3_method_5_code 5 = .ok (.isub, 1) := by decide +kernel
theorem d_FormattingList_lastNamed_6 : decode prog_3_method_5_code 6 = .ok (.istore_n 2, 1) := by decide +kernel
theorem d_FormattingList_lastNamed_7 : decode prog_3_method_5_code 7 = .ok (.iload_n 2, 1) := by decide +kernel
theorem d_FormattingList_lastNamed_8 : decode prog_3_method_5_code 8 = .ok (.ifCond .lt 29, 3) := by decide +kernel
theorem d_FormattingList_lastNamed_11 : decode prog_3_method_5_code 11 = .ok (.aload_n 0, 1) := by decide +kernel
theorem d_FormattingList_lastNamed_12 : decode prog_3_method_5_code 12 = .ok (.getfield 11, 3) := by decide +kernel
theorem d_FormattingList_lastNamed_15 : decode prog_3_method_5_code 15 = .ok (.iload_n 2, 1) := by decide +kernel
theorem d_FormattingList_lastNamed_16 : decode prog_3_method_5_code 16 = .ok (.aaload, 1) := by decide +kernel
theorem d_FormattingList_lastNamed_17 : decode prog_3_method_5_code 17 = .ok (.getfield 25, 3) := by decide +kernel
theorem d_FormattingList_lastNamed_20 : decode prog_3_method_5_code 20 = .ok (.iload_n 1, 1) := by decide +kernel
theorem d_FormattingList_lastNamed_21 : decode prog_3_method_5_code 21 = .ok (.if_icmp .ne 10, 3) := by decide +kernel
theorem d_FormattingList_lastNamed_24 : decode prog_3_method_5_code 24 = .ok (.aload_n 0, 1) := by decide +kernel
theorem d_FormattingList_lastNamed_25 : decode prog_3_method_5_code 25 = .ok (.getfield 11, 3) := by decide +kernel
theorem d_FormattingList_lastNamed_28 : decode prog_3_method_5_code 28 = .ok (.iload_n 2, 1) := by decide +kernel
theorem d_FormattingList_lastNamed_29 : decode prog_3_method_5_code 29 = .ok (.aaload, 1) := by decide +kernel
theorem d_FormattingList_lastNamed_30 : decode prog_3_method_5_code 30 = .ok (.areturn, 1) := by decide +kernel
theorem d_FormattingList_lastNamed_31 : decode prog_3_method_5_code 31 = .ok (.iinc 2 (-1), 3) := by decide +kernel
theorem d_FormattingList_lastNamed_34 : decode prog_3_method_5_code 34 = .ok (.goto (-27), 3) := by decide +kernel
theorem d_FormattingList_lastNamed_37 : decode prog_3_method_5_code 37 = .ok (.aconst_null, 1) := by decide +kernel
theorem d_FormattingList_lastNamed_38 : decode prog_3_method_5_code 38 = .ok (.areturn, 1) := by decide +kernel
def f_FormattingList_lastNamed_7 (M : qM) (q0 : Nat) (a1 : Int32) : Nat → (Option (Option Nat)) → Int32 → Option (Option Nat)
  | 0, _, _ => none
  | n + 1, K2, x1 => if x1 < 0 then (K2) else (q_ix x1 4 <| q_lt (M.2 (q0 + 1) x1.toNatClampNeg) fun r5 => q_nn r5 fun o6 => if (M.1 o6 0) = a1 then (q_ix x1 4 <| q_lt (M.2 (q0 + 1) x1.toNatClampNeg) fun r9 => some r9) else (f_FormattingList_lastNamed_7 M q0 a1 n K2 (x1 + (-1))))
def f_FormattingList_lastNamed (q0 : Nat) (a1 : Int32) (M : qM) : Option (Option Nat) := f_FormattingList_lastNamed_7 M q0 a1 1000 (some none) ((M.1 q0 1) - 1)
abbrev rm_FormattingList_lastNamed : Room := { frames := 0, cells := 0, slots := 0, locals := 0 }
set_option maxRecDepth 100000 in
set_option maxHeartbeats 4000000 in
theorem c_FormattingList_lastNamed {l : Launch} {D : va_G} {dA : Nat → ClassId} {b : Nat} {adK adV : Nat → Nat} (q0 : Nat) (a1 : Int32) (tq0 : tcX q0 = 8) (M : qM) (out : Option Nat) (hf : f_FormattingList_lastNamed q0 a1 M = some out) : CTr l y_FormattingList_lastNamed w_FormattingList_lastNamed rm_FormattingList_lastNamed D (tysX dA) (enX dA b) 367 b (qX adK adV 367 b) 7 [qr (some q0), qi a1] M (out, M) := by
  refine qm_r (tt := 7) (cc := prog_3_method_5_code) (nL := 3) (by decide) rfl (Or.inl ⟨_, rfl⟩) (Nat.le_of_ble_eq_true rfl) ?_
  intro p e s m args below meth c Q hx hb hts0 hown hml hK hs hret
  have hts : ∀ w ∈ lw_g, w.before args s = true := fun w h => hts0 w (List.mem_cons_of_mem _ h)
  show QJ p l e rm_FormattingList_lastNamed s m args below meth c (qA 367 b) b 3 0 0 Q (qWd D (enX dA b) 367 b) M 0 [(0, qr (some q0)), (1, qi a1)] []
  unfold f_FormattingList_lastNamed at hf
  refine qj_aload_n hx hb d_FormattingList_lastNamed_0 rfl 0 rfl ?_
  refine qj_get hx hb hts hin_1 hown hK (q_in tq0 (by decide)) (en_8 tq0) rfl 1 (by decide) (hts _ tw_20) (fun _ h => h) (qi (M.1 q0 1)) rfl d_FormattingList_lastNamed_1 ?_
  refine qj_iconst (v := 1) hx hb d_FormattingList_lastNamed_4 (by decide) ?_
  refine qj_isub hx hb d_FormattingList_lastNamed_5 ?_
  refine qj_istore_n hx hb d_FormattingList_lastNamed_6 rfl (by decide) rfl ?_
  have hL7 : ∀ (n : Nat) (K2 : Option (Option Nat)), (K2 = some out → QJ p l e rm_FormattingList_lastNamed s m args below meth c (qA 367 b) b 3 0 0 Q (qWd D (enX dA b) 367 b) M 37 [] []) → ∀ (x1 : Int32), f_FormattingList_lastNamed_7 M q0 a1 n K2 x1 = some out → QJ p l e rm_FormattingList_lastNamed s m args below meth c (qA 367 b) b 3 0 0 Q (qWd D (enX dA b) 367 b) M 7 [(0, qr (some q0)), (1, qi a1), (2, qi x1)] [] := by
    clear hf
    intro n
    induction n with
    | zero =>
      intro K2 hK2 x1 hf
      exact absurd hf (by simp [f_FormattingList_lastNamed_7])
    | succ n ih7 =>
      intro K2 hK2 x1 hf
      rw [f_FormattingList_lastNamed_7] at hf
      have ih7 := ih7 K2 hK2
      refine qj_iload_n hx hb d_FormattingList_lastNamed_7 rfl 2 rfl ?_
      refine qj_if_lt (tgt := 37) hx hb d_FormattingList_lastNamed_8 (by decide) (fun hc3 => ?_) (fun hc3 => ?_)
      · replace hf := q_if_t hc3 hf
        refine qj_sub [] rfl ?_
        exact hK2  hf
      · replace hf := q_if_f hc3 hf
        refine qj_aload_n hx hb d_FormattingList_lastNamed_11 rfl 0 rfl ?_
        refine qj_get hx hb hts hin_1 hown hK (q_in tq0 (by decide)) (en_8 tq0) rfl 0 (by decide) (hts _ tw_21) (fun _ h => h) (qr (some (q0 + 1))) rfl d_FormattingList_lastNamed_12 ?_
        refine qj_iload_n hx hb d_FormattingList_lastNamed_15 rfl 2 rfl ?_
        have hf9 := q_ix_s hf; clear hf; obtain ⟨hi4, hf⟩ := hf9
        have hf9 := q_lt_s hf; clear hf; obtain ⟨r5, er5, hf⟩ := hf9
        refine qj_w fun w => ?_
        have tr5 : ∀ o, r5 = some o → tcX o = 7 := fun o h => (w _ _ o (er5.symm.trans h)).trans (by rw [(tc_8_1 tq0)] <;> rfl)
        refine qj_aald (t0 := 3) (f := M.2 (q0 + 1)) hx hb hK (q_in (tc_8_1 tq0) (by decide)) (en_9 (tc_8_1 tq0) _ _) rfl hi4 d_FormattingList_lastNamed_16 ?_
        rw [← er5]
        have hf9 := q_nn_s hf; clear hf; obtain ⟨o6, rfl, hf⟩ := hf9
        refine qj_get hx hb hts hin_3 hown hK (q_in (tr5 _ rfl) (by decide)) (en_7 (tr5 _ rfl)) rfl 0 (by decide) (hts _ tw_156) (fun _ h => h) (qi (M.1 o6 0)) rfl d_FormattingList_lastNamed_17 ?_
        refine qj_iload_n hx hb d_FormattingList_lastNamed_20 rfl 1 rfl ?_
        refine qj_icmp_ne (tgt := 31) hx hb d_FormattingList_lastNamed_21 (by decide) (fun hc7 => ?_) (fun hc7 => ?_)
        · replace hf := q_if_f hc7 hf
          refine qj_iinc (j := 2) (v := x1 + (-1)) hx hb d_FormattingList_lastNamed_31 rfl rfl (by decide) rfl ?_
          refine qj_goto (tgt := 7) hx hb d_FormattingList_lastNamed_34 (by decide) ?_
          refine qj_sub [1, 2, 0] rfl ?_
          exact ih7 (x1 + (-1)) hf
        · replace hf := q_if_t hc7 hf
          refine qj_aload_n hx hb d_FormattingList_lastNamed_24 rfl 0 rfl ?_
          refine qj_get hx hb hts hin_1 hown hK (q_in tq0 (by decide)) (en_8 tq0) rfl 0 (by decide) (hts _ tw_21) (fun _ h => h) (qr (some (q0 + 1))) rfl d_FormattingList_lastNamed_25 ?_
          refine qj_iload_n hx hb d_FormattingList_lastNamed_28 rfl 2 rfl ?_
          have hf9 := q_ix_s hf; clear hf; obtain ⟨hi8, hf⟩ := hf9
          have hf9 := q_lt_s hf; clear hf; obtain ⟨r9, er9, hf⟩ := hf9
          refine qj_w fun w => ?_
          have tr9 : ∀ o, r9 = some o → tcX o = 7 := fun o h => (w _ _ o (er9.symm.trans h)).trans (by rw [(tc_8_1 tq0)] <;> rfl)
          refine qj_aald (t0 := 3) (f := M.2 (q0 + 1)) hx hb hK (q_in (tc_8_1 tq0) (by decide)) (en_9 (tc_8_1 tq0) _ _) rfl hi8 d_FormattingList_lastNamed_29 ?_
          rw [← er9]
          exact hret _ _ _ _ tr9 d_FormattingList_lastNamed_30 (congrArg (fun z => (z, M)) (Option.some.inj hf))
  refine qj_sub [1, 2, 0] rfl ?_
  refine hL7 _ _ (fun hf9 => ?_) ((M.1 q0 1) - 1) hf
  clear hf; have hf := hf9; clear hf9
  refine qj_null hx hb d_FormattingList_lastNamed_37 ?_
  exact hret _ _ _ _ q_tn d_FormattingList_lastNamed_38 (congrArg (fun z => (z, M)) (Option.some.inj hf))
theorem d_FormattingList_remove_0 : decode prog_3_method_3_code 0 = .ok (.iconst 0, 1) := by decide +kernel
theorem d_FormattingList_remove_1 : decode prog_3_method_3_code 1 = .ok (.istore_n 2, 1) := by decide +kernel
theorem d_FormattingList_remove_2 : decode prog_3_method_3_code 2 = .ok (.iload_n 2, 1) := by decide +kernel
theorem d_FormattingList_remove_3 : decode prog_3_method_3_code 3 = .ok (.aload_n 0, 1) := by decide +kernel
theorem d_FormattingList_remove_4 : decode prog_3_method_3_code 4 = .ok (.getfield 17, 3) := by decide +kernel
theorem d_FormattingList_remove_7 : decode prog_3_method_3_code 7 = .ok (.if_icmp .ge 25, 3) := by decide +kernel
theorem d_FormattingList_remove_10 : decode prog_3_method_3_code 10 = .ok (.aload_n 0, 1) := by decide +kernel
theorem d_FormattingList_remove_11 : decode prog_3_method_3_code 11 = .ok (.getfield 11, 3) := by decide +kernel
theorem d_FormattingList_remove_14 : decode prog_3_method_3_code 14 = .ok (.iload_n 2, 1) := by decide +kernel
theorem d_FormattingList_remove_15 : decode prog_3_method_3_code 15 = .ok (.aaload, 1) := by decide +kernel
theorem d_FormattingList_remove_16 : decode prog_3_method_3_code 16 = .ok (.aload_n 1, 1) := by decide +kernel
theorem d_FormattingList_remove_17 : decode prog_3_method_3_code 17 = .ok (.if_acmp .ne 9, 3) := by decide +kernel
theorem d_FormattingList_remove_20 : decode prog_3_method_3_code 20 = .ok (.aload_n 0, 1) := by decide +kernel
theorem d_FormattingList_remove_21 : decode prog_3_method_3_code 21 = .ok (.iload_n 2, 1) := by decide +kernel
theorem d_FormattingList_remove_22 : decode prog_3_method_3_code 22 = .ok (.invokevirtual 21, 3) := by decide +kernel
theorem d_FormattingList_remove_25 : decode prog_3_method_3_code 25 = .ok (.return_, 1) := by decide +kernel
theorem d_FormattingList_remove_26 : decode prog_3_method_3_code 26 = .ok (.iinc 2 1, 3) := by decide +kernel
theorem d_FormattingList_remove_29 : decode prog_3_method_3_code 29 = .ok (.goto (-27), 3) := by decide +kernel
theorem d_FormattingList_remove_32 : decode prog_3_method_3_code 32 = .ok (.return_, 1) := by decide +kernel
def f_FormattingList_remove_2 (M : qM) (q0 : Nat) (q1 : Nat) : Nat → (Option qM) → Int32 → Option qM
  | 0, _, _ => none
  | n + 1, K2, x1 => if (M.1 q0 1) ≤ x1 then (K2) else (q_ix x1 4 <| q_lt (M.2 (q0 + 1) x1.toNatClampNeg) fun r5 => if r5 = (some q1) then (q_cv (f_FormattingList_removeAt q0 x1 M) fun M7 => some M7) else (f_FormattingList_remove_2 M q0 q1 n K2 (x1 + 1)))
def f_FormattingList_remove (q0 : Nat) (q1 : Nat) (M : qM) : Option qM := f_FormattingList_remove_2 M q0 q1 1000 (some M) 0
abbrev rm_FormattingList_remove : Room := { frames := 1, cells := 0, slots := 0, locals := 22 }
set_option maxRecDepth 100000 in
set_option maxHeartbeats 4000000 in
theorem c_FormattingList_remove {l : Launch} {D : va_G} {dA : Nat → ClassId} {b : Nat} {adK adV : Nat → Nat} (q0 : Nat) (q1 : Nat) (tq0 : tcX q0 = 8) (tq1 : tcX q1 = 7) (M : qM) (out : qM) (hf : f_FormattingList_remove q0 q1 M = some out) : CTv l y_FormattingList_remove w_FormattingList_remove rm_FormattingList_remove D (tysX dA) (enX dA b) 367 b (qX adK adV 367 b) [qr (some q0), qr (some q1)] M out := by
  refine qm_v (cc := prog_3_method_3_code) (nL := 3) (by decide) rfl (Nat.le_of_ble_eq_true rfl) ?_
  intro p e s m args below meth c Q hx hb hts0 hown hml hK hs hret
  have hts : ∀ w ∈ lw_g, w.before args s = true := fun w h => hts0 w (List.mem_cons_of_mem _ h)
  show QJ p l e rm_FormattingList_remove s m args below meth c (qA 367 b) b 3 0 0 Q (qWd D (enX dA b) 367 b) M 0 [(0, qr (some q0)), (1, qr (some q1))] []
  unfold f_FormattingList_remove at hf
  refine qj_iconst (v := 0) hx hb d_FormattingList_remove_0 (by decide) ?_
  refine qj_istore_n hx hb d_FormattingList_remove_1 rfl (by decide) rfl ?_
  have hL2 : ∀ (n : Nat) (K2 : Option qM), (K2 = some out → QJ p l e rm_FormattingList_remove s m args below meth c (qA 367 b) b 3 0 0 Q (qWd D (enX dA b) 367 b) M 32 [] []) → ∀ (x1 : Int32), f_FormattingList_remove_2 M q0 q1 n K2 x1 = some out → QJ p l e rm_FormattingList_remove s m args below meth c (qA 367 b) b 3 0 0 Q (qWd D (enX dA b) 367 b) M 2 [(0, qr (some q0)), (1, qr (some q1)), (2, qi x1)] [] := by
    clear hf
    intro n
    induction n with
    | zero =>
      intro K2 hK2 x1 hf
      exact absurd hf (by simp [f_FormattingList_remove_2])
    | succ n ih2 =>
      intro K2 hK2 x1 hf
      rw [f_FormattingList_remove_2] at hf
      have ih2 := ih2 K2 hK2
      refine qj_iload_n hx hb d_FormattingList_remove_2 rfl 2 rfl ?_
      refine qj_aload_n hx hb d_FormattingList_remove_3 rfl 0 rfl ?_
      refine qj_get hx hb hts hin_1 hown hK (q_in tq0 (by decide)) (en_8 tq0) rfl 1 (by decide) (hts _ tw_20) (fun _ h => h) (qi (M.1 q0 1)) rfl d_FormattingList_remove_4 ?_
      refine qj_icmp_ge (tgt := 32) hx hb d_FormattingList_remove_7 (by decide) (fun hc3 => ?_) (fun hc3 => ?_)
      · replace hf := q_if_t hc3 hf
        refine qj_sub [] rfl ?_
        exact hK2  hf
      · replace hf := q_if_f hc3 hf
        refine qj_aload_n hx hb d_FormattingList_remove_10 rfl 0 rfl ?_
        refine qj_get hx hb hts hin_1 hown hK (q_in tq0 (by decide)) (en_8 tq0) rfl 0 (by decide) (hts _ tw_21) (fun _ h => h) (qr (some (q0 + 1))) rfl d_FormattingList_remove_11 ?_
        refine qj_iload_n hx hb d_FormattingList_remove_14 rfl 2 rfl ?_
        have hf9 := q_ix_s hf; clear hf; obtain ⟨hi4, hf⟩ := hf9
        have hf9 := q_lt_s hf; clear hf; obtain ⟨r5, er5, hf⟩ := hf9
        refine qj_w fun w => ?_
        have tr5 : ∀ o, r5 = some o → tcX o = 7 := fun o h => (w _ _ o (er5.symm.trans h)).trans (by rw [(tc_8_1 tq0)] <;> rfl)
        refine qj_aald (t0 := 3) (f := M.2 (q0 + 1)) hx hb hK (q_in (tc_8_1 tq0) (by decide)) (en_9 (tc_8_1 tq0) _ _) rfl hi4 d_FormattingList_remove_15 ?_
        rw [← er5]
        refine qj_aload_n hx hb d_FormattingList_remove_16 rfl 1 rfl ?_
        refine qj_acmp_ne (tgt := 26) hx hb d_FormattingList_remove_17 (by decide) (fun hc6 => ?_) (fun hc6 => ?_)
        · replace hf := q_if_f hc6 hf
          refine qj_iinc (j := 2) (v := x1 + 1) hx hb d_FormattingList_remove_26 rfl rfl (by decide) rfl ?_
          refine qj_goto (tgt := 2) hx hb d_FormattingList_remove_29 (by decide) ?_
          refine qj_sub [1, 2, 0] rfl ?_
          exact ih2 (x1 + 1) hf
        · replace hf := q_if_t hc6 hf
          refine qj_aload_n hx hb d_FormattingList_remove_20 rfl 0 rfl ?_
          refine qj_iload_n hx hb d_FormattingList_remove_21 rfl 2 rfl ?_
          have hf9 := q_cv_s hf; clear hf; obtain ⟨M7, hM7, hf⟩ := hf9
          refine qc_Vv (st := []) hx hb hml hown hts hK (qX_ok _ _ _ _) hs (c_FormattingList_removeAt q0 x1 tq0 M _ hM7) ⟨(callB_of 1 hts (q_good tw_139) rfl rfl rfl (hts _ tw_59) (hts _ tw_140) (by decide +kernel) ⟨by decide, by decide⟩), (hts _ tw_141), (hts _ tw_142)⟩ (q_in tq0 (by decide)) (en_8 tq0) rfl rfl rfl (Nat.le_of_ble_eq_true rfl) d_FormattingList_remove_22 ?_
          exact hret _ _ _ d_FormattingList_remove_25 (Option.some.inj hf)
  refine qj_sub [1, 2, 0] rfl ?_
  refine hL2 _ _ (fun hf9 => ?_) 0 hf
  clear hf; have hf := hf9; clear hf9
  exact hret _ _ _ d_FormattingList_remove_32 (Option.some.inj hf)
theorem d_OpenStack_lowestAbove_0 : decode prog_7_method_9_code 0 = .ok (.aload_n 0, 1) := by decide +kernel
theorem d_OpenStack_lowestAbove_1 : decode prog_7_method_9_code 1 = .ok (.aload_n 1, 1) := by decide +kernel
theorem d_OpenStack_lowestAbove_2 : decode prog_7_method_9_code 2 = .ok (.invokevirtual 38, 3) := by decide +kernel
theorem d_OpenStack_lowestAbove_5 : decode prog_7_method_9_code 5 = .ok (.iconst 1, 1) := by decide +kernel
theorem d_OpenStack_lowestAbove_6 : decode prog_7_method_9_code 6 = .ok (.iadd, 1) := by decide +kernel
theorem d_OpenStack_lowestAbove_7 : decode prog_7_method_9_code 7 = .ok (.istore_n 3, 1) := by decide +kernel
theorem d_OpenStack_lowestAbove_8 : decode prog_7_method_9_code 8 = .ok (.iload_n 3, 1) := by decide +kernel
theorem d_OpenStack_lowestAbove_9 : decode prog_7_method_9_code 9 = .ok (.aload_n 0, 1) := by decide +kernel
theorem d_OpenStack_lowestAbove_10 : decode prog_7_method_9_code 10 = .ok (.getfield 17, 3) := by decide +kernel
theorem d_OpenStack_lowestAbove_13 : decode prog_7_method_9_code 13 = .ok (.if_icmp .ge 32, 3) := by decide +kernel
theorem d_OpenStack_lowestAbove_16 : decode prog_7_method_9_code 16 = .ok (.aload_n 0, 1) := by decide +kernel
theorem d_OpenStack_lowestAbove_17 : decode prog_7_method_9_code 17 = .ok (.getfield 11, 3) := by decide +kernel
theorem d_OpenStack_lowestAbove_20 : decode prog_7_method_9_code 20 = .ok (.iload_n 3, 1) := by decide +kernel
theorem d_OpenStack_lowestAbove_21 : decode prog_7_method_9_code 21 = .ok (.aaload, 1) := by decide +kernel
theorem d_OpenStack_lowestAbove_22 : decode prog_7_method_9_code 22 = .ok (.getfield 25, 3) := by decide +kernel
theorem d_OpenStack_lowestAbove_25 : decode prog_7_method_9_code 25 = .ok (.aload_n 2, 1) := by decide +kernel
theorem d_OpenStack_lowestAbove_26 : decode prog_7_method_9_code 26 = .ok (.invokestatic 28, 3) := by decide +kernel
theorem d_OpenStack_lowestAbove_29 : decode prog_7_method_9_code 29 = .ok (.ifCond .eq 10, 3) := by decide +kernel
theorem d_OpenStack_lowestAbove_32 : decode prog_7_method_9_code 32 = .ok (.aload_n 0, 1) := by decide +kernel
theorem d_OpenStack_lowestAbove_33 : decode prog_7_method_9_code 33 = .ok (.getfield 11, 3) := by decide +kernel
theorem d_OpenStack_lowestAbove_36 : decode prog_7_method_9_code 36 = .ok (.iload_n 3, 1) := by decide +kernel
theorem d_OpenStack_lowestAbove_37 : decode prog_7_method_9_code 37 = .ok (.aaload, 1) := by decide +kernel
theorem d_OpenStack_lowestAbove_38 : decode prog_7_method_9_code 38 = .ok (.areturn, 1) := by decide +kernel
theorem d_OpenStack_lowestAbove_39 : decode prog_7_method_9_code 39 = .ok (.iinc 3 1, 3) := by decide +kernel
theorem d_OpenStack_lowestAbove_42 : decode prog_7_method_9_code 42 = .ok (.goto (-34), 3) := by decide +kernel
theorem d_OpenStack_lowestAbove_45 : decode prog_7_method_9_code 45 = .ok (.aconst_null, 1) := by decide +kernel
theorem d_OpenStack_lowestAbove_46 : decode prog_7_method_9_code 46 = .ok (.areturn, 1) := by decide +kernel
def f_OpenStack_lowestAbove_8 (M : qM) (n2 : Nat) : Nat → (Option (Option Nat)) → Int32 → Option (Option Nat)
  | 0, _, _ => none
  | n + 1, K3, x2 => if (M.1 5 1) ≤ x2 then (K3) else (q_ix x2 24 <| q_lt (M.2 6 x2.toNatClampNeg) fun r6 => q_nn r6 fun o7 => q_bp (f_Pg_isOneOf (M.1 o7 0) n2 M) fun x8 => if x8 = 0 then (f_OpenStack_lowestAbove_8 M n2 n K3 (x2 + 1)) else (q_ix x2 24 <| q_lt (M.2 6 x2.toNatClampNeg) fun r11 => some r11))
def f_OpenStack_lowestAbove (q1 : Nat) (n2 : Nat) (M : qM) : Option (Option Nat) := q_bp (f_OpenStack_indexOf (some q1) M) fun x1 => f_OpenStack_lowestAbove_8 M n2 1000 (some none) (x1 + 1)
abbrev rm_OpenStack_lowestAbove : Room := { frames := 11, cells := 0, slots := 0, locals := 442 }
set_option maxRecDepth 100000 in
set_option maxHeartbeats 4000000 in
theorem c_OpenStack_lowestAbove {l : Launch} {D : va_G} {dA : Nat → ClassId} {b : Nat} {adK adV : Nat → Nat} (q1 : Nat) (n2 : Nat) (tq1 : tcX q1 = 7) (M : qM) (out : Option Nat) (hf : f_OpenStack_lowestAbove q1 n2 M = some out) : CTr l y_OpenStack_lowestAbove w_OpenStack_lowestAbove rm_OpenStack_lowestAbove D (tysX dA) (enX dA b) 367 b (qX adK adV 367 b) 7 [qr (some 5), qr (some q1), qa (adK n2)] M (out, M) := by
  refine qm_r (tt := 7) (cc := prog_7_method_9_code) (nL := 4) (by decide) rfl (Or.inl ⟨_, rfl⟩) (Nat.le_of_ble_eq_true rfl) ?_
  intro p e s m args below meth c Q hx hb hts0 hown hml hK hs hret
  have hts : ∀ w ∈ lw_g, w.before args s = true := fun w h => hts0 w (List.mem_cons_of_mem _ h)
  show QJ p l e rm_OpenStack_lowestAbove s m args below meth c (qA 367 b) b 4 0 0 Q (qWd D (enX dA b) 367 b) M 0 [(0, qr (some 5)), (1, qr (some q1)), (2, qa (adK n2))] []
  unfold f_OpenStack_lowestAbove at hf
  refine qj_aload_n hx hb d_OpenStack_lowestAbove_0 rfl 0 rfl ?_
  refine qj_aload_n hx hb d_OpenStack_lowestAbove_1 rfl 1 rfl ?_
  have hf9 := q_bp_s hf; clear hf; obtain ⟨x1, hx1, hf⟩ := hf9
  refine qc_Vi (st := []) hx hb hml hown hts hK (qX_ok _ _ _ _) hs (c_OpenStack_indexOf (some q1) (q_ts tq1) M _ hx1) ⟨(callB_of 1 hts (q_good tw_119) rfl rfl rfl (hts _ tw_13) (hts _ tw_120) (by decide +kernel) ⟨by decide, by decide⟩), (hts _ tw_121), (hts _ tw_122)⟩ (q_in (rfl : tcX 5 = 5) (by decide)) (en_5 (rfl : tcX 5 = 5)) rfl rfl rfl (Nat.le_of_ble_eq_true rfl) d_OpenStack_lowestAbove_2 ?_
  refine qj_iconst (v := 1) hx hb d_OpenStack_lowestAbove_5 (by decide) ?_
  refine qj_iadd hx hb d_OpenStack_lowestAbove_6 ?_
  refine qj_istore_n hx hb d_OpenStack_lowestAbove_7 rfl (by decide) rfl ?_
  have hL8 : ∀ (n : Nat) (K3 : Option (Option Nat)), (K3 = some out → QJ p l e rm_OpenStack_lowestAbove s m args below meth c (qA 367 b) b 4 0 0 Q (qWd D (enX dA b) 367 b) M 45 [] []) → ∀ (x2 : Int32), f_OpenStack_lowestAbove_8 M n2 n K3 x2 = some out → QJ p l e rm_OpenStack_lowestAbove s m args below meth c (qA 367 b) b 4 0 0 Q (qWd D (enX dA b) 367 b) M 8 [(0, qr (some 5)), (2, qa (adK n2)), (3, qi x2)] [] := by
    clear hf
    intro n
    induction n with
    | zero =>
      intro K3 hK3 x2 hf
      exact absurd hf (by simp [f_OpenStack_lowestAbove_8])
    | succ n ih8 =>
      intro K3 hK3 x2 hf
      rw [f_OpenStack_lowestAbove_8] at hf
      have ih8 := ih8 K3 hK3
      refine qj_iload_n hx hb d_OpenStack_lowestAbove_8 rfl 2 rfl ?_
      refine qj_aload_n hx hb d_OpenStack_lowestAbove_9 rfl 0 rfl ?_
      refine qj_get hx hb hts hin_4 hown hK (q_in (rfl : tcX 5 = 5) (by decide)) (en_5 (rfl : tcX 5 = 5)) rfl 1 (by decide) (hts _ tw_9) (fun _ h => h) (qi (M.1 5 1)) rfl d_OpenStack_lowestAbove_10 ?_
      refine qj_icmp_ge (tgt := 45) hx hb d_OpenStack_lowestAbove_13 (by decide) (fun hc4 => ?_) (fun hc4 => ?_)
      · replace hf := q_if_t hc4 hf
        refine qj_sub [] rfl ?_
        exact hK3  hf
      · replace hf := q_if_f hc4 hf
        refine qj_aload_n hx hb d_OpenStack_lowestAbove_16 rfl 0 rfl ?_
        refine qj_get hx hb hts hin_4 hown hK (q_in (rfl : tcX 5 = 5) (by decide)) (en_5 (rfl : tcX 5 = 5)) rfl 0 (by decide) (hts _ tw_10) (fun _ h => h) (qr (some 6)) rfl d_OpenStack_lowestAbove_17 ?_
        refine qj_iload_n hx hb d_OpenStack_lowestAbove_20 rfl 2 rfl ?_
        have hf9 := q_ix_s hf; clear hf; obtain ⟨hi5, hf⟩ := hf9
        have hf9 := q_lt_s hf; clear hf; obtain ⟨r6, er6, hf⟩ := hf9
        refine qj_w fun w => ?_
        have tr6 : ∀ o, r6 = some o → tcX o = 7 := fun o h => (w _ _ o (er6.symm.trans h)).trans (by rw [(rfl : tcX 6 = 6)] <;> rfl)
        refine qj_aald (t0 := 3) (f := M.2 6) hx hb hK (q_in (rfl : tcX 6 = 6) (by decide)) (en_6 (rfl : tcX 6 = 6) _ _) rfl hi5 d_OpenStack_lowestAbove_21 ?_
        rw [← er6]
        have hf9 := q_nn_s hf; clear hf; obtain ⟨o7, rfl, hf⟩ := hf9
        refine qj_get hx hb hts hin_3 hown hK (q_in (tr6 _ rfl) (by decide)) (en_7 (tr6 _ rfl)) rfl 0 (by decide) (hts _ tw_11) (fun _ h => h) (qi (M.1 o7 0)) rfl d_OpenStack_lowestAbove_22 ?_
        refine qj_aloadA_n hx hb d_OpenStack_lowestAbove_25 rfl 1 rfl ?_
        have hf9 := q_bp_s hf; clear hf; obtain ⟨x8, hx8, hf⟩ := hf9
        refine qc_SNi (st := []) hx hb hml hown hts hK (qX_ok _ _ _ _) hs (c_Pg_isOneOf (M.1 o7 0) n2 M _ hx8) ⟨(va_cnB 2 hts (q_good tw_5) rfl rfl rfl (hs.2.2.1 ("PlainPage$OpenStack", 28, y_Pg_isOneOf, "PlainPage") (by decide +kernel)) (hts _ tw_4) (by decide +kernel) ⟨by decide, by decide⟩), (hts _ tw_6), trivial⟩ rfl rfl (Nat.le_of_ble_eq_true rfl) d_OpenStack_lowestAbove_26 ?_
        refine qj_if_eq (tgt := 39) hx hb d_OpenStack_lowestAbove_29 (by decide) (fun hc9 => ?_) (fun hc9 => ?_)
        · replace hf := q_if_t hc9 hf
          refine qj_iinc (j := 2) (v := x2 + 1) hx hb d_OpenStack_lowestAbove_39 rfl rfl (by decide) rfl ?_
          refine qj_goto (tgt := 8) hx hb d_OpenStack_lowestAbove_42 (by decide) ?_
          refine qj_sub [1, 2, 0] rfl ?_
          exact ih8 (x2 + 1) hf
        · replace hf := q_if_f hc9 hf
          refine qj_aload_n hx hb d_OpenStack_lowestAbove_32 rfl 0 rfl ?_
          refine qj_get hx hb hts hin_4 hown hK (q_in (rfl : tcX 5 = 5) (by decide)) (en_5 (rfl : tcX 5 = 5)) rfl 0 (by decide) (hts _ tw_10) (fun _ h => h) (qr (some 6)) rfl d_OpenStack_lowestAbove_33 ?_
          refine qj_iload_n hx hb d_OpenStack_lowestAbove_36 rfl 2 rfl ?_
          have hf9 := q_ix_s hf; clear hf; obtain ⟨hi10, hf⟩ := hf9
          have hf9 := q_lt_s hf; clear hf; obtain ⟨r11, er11, hf⟩ := hf9
          refine qj_w fun w => ?_
          have tr11 : ∀ o, r11 = some o → tcX o = 7 := fun o h => (w _ _ o (er11.symm.trans h)).trans (by rw [(rfl : tcX 6 = 6)] <;> rfl)
          refine qj_aald (t0 := 3) (f := M.2 6) hx hb hK (q_in (rfl : tcX 6 = 6) (by decide)) (en_6 (rfl : tcX 6 = 6) _ _) rfl hi10 d_OpenStack_lowestAbove_37 ?_
          rw [← er11]
          exact hret _ _ _ _ tr11 d_OpenStack_lowestAbove_38 (congrArg (fun z => (z, M)) (Option.some.inj hf))
  refine qj_sub [1, 3, 0] rfl ?_
  refine hL8 _ _ (fun hf9 => ?_) (x1 + 1) hf
  clear hf; have hf := hf9; clear hf9
  refine qj_null hx hb d_OpenStack_lowestAbove_45 ?_
  exact hret _ _ _ _ q_tn d_OpenStack_lowestAbove_46 (congrArg (fun z => (z, M)) (Option.some.inj hf))
