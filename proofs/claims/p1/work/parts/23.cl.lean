theorem d_Pg_css_0 : decode prog_1_method_3_code 0 = .ok (.iload_n 1, 1) := by decide +kernel
theorem d_Pg_css_1 : decode prog_1_method_3_code 1 = .ok (.invokestatic 40, 3) := by decide +kernel
theorem d_Pg_css_4 : decode prog_1_method_3_code 4 = .ok (.ifCond .eq 12, 3) := by decide +kernel
theorem d_Pg_css_7 : decode prog_1_method_3_code 7 = .ok (.aload_n 0, 1) := by decide +kernel
theorem d_Pg_css_8 : decode prog_1_method_3_code 8 = .ok (.getfield 62, 3) := by decide +kernel
theorem d_Pg_css_11 : decode prog_1_method_3_code 11 = .ok (.bipush 120, 2) := by decide +kernel
theorem d_Pg_css_13 : decode prog_1_method_3_code 13 = .ok (.if_icmp .lt 5, 3) := by decide +kernel
theorem d_Pg_css_16 : decode prog_1_method_3_code 16 = .ok (.iconst 0, 1) := by decide +kernel
theorem d_Pg_css_17 : decode prog_1_method_3_code 17 = .ok (.ireturn, 1) := by decide +kernel
theorem d_Pg_css_18 : decode prog_1_method_3_code 18 = .ok (.aload_n 0, 1) := by decide +kernel
theorem d_Pg_css_19 : decode prog_1_method_3_code 19 = .ok (.dup, 1) := by decide +kernel
theorem d_Pg_css_20 : decode prog_1_method_3_code 20 = .ok (.getfield 62, 3) := by decide +kernel
theorem d_Pg_css_23 : decode prog_1_method_3_code 23 = .ok (.iconst 1, 1) := by decide +kernel
theorem d_Pg_css_24 : decode prog_1_method_3_code 24 = .ok (.iadd, 1) := by decide +kernel
theorem d_Pg_css_25 : decode prog_1_method_3_code 25 = .ok (.putfield 62, 3) := by decide +kernel
theorem d_Pg_css_28 : decode prog_1_method_3_code 28 = .ok (.aload_n 0, 1) := by decide +kernel
theorem d_Pg_css_29 : decode prog_1_method_3_code 29 = .ok (.invokevirtual 52, 3) := by decide +kernel
theorem d_Pg_css_32 : decode prog_1_method_3_code 32 = .ok (.aload_n 0, 1) := by decide +kernel
theorem d_Pg_css_33 : decode prog_1_method_3_code 33 = .ok (.getfield 26, 3) := by decide +kernel
theorem d_Pg_css_36 : decode prog_1_method_3_code 36 = .ok (.iload_n 1, 1) := by decide +kernel
theorem d_Pg_css_37 : decode prog_1_method_3_code 37 = .ok (.invokevirtual 65, 3) := by decide +kernel
theorem d_Pg_css_40 : decode prog_1_method_3_code 40 = .ok (.iconst 1, 1) := by decide +kernel
theorem d_Pg_css_41 : decode prog_1_method_3_code 41 = .ok (.ireturn, 1) := by decide +kernel
def f_Pg_css (a1 : Int32) (M : qM) : Option (Int32 × qM) := q_bp (f_Pg_canBeTyped a1 M) fun x1 => if x1 = 0 then (some (0, M)) else (if (M.1 0 5) < 120 then (q_lt (qsI M 0 5 ((M.1 0 5) + 1)) fun M4 => q_cv (f_Pg_forgetLayout M4) fun M5 => q_cv (f_Sheet_type a1 M5) fun M6 => some (1, M6)) else (some (0, M)))
abbrev rm_Pg_css : Room := { frames := 16, cells := 0, slots := 0, locals := 559 }
set_option maxRecDepth 100000 in
set_option maxHeartbeats 4000000 in
theorem c_Pg_css {l : Launch} {D : va_G} {dA : Nat → ClassId} {b : Nat} {adK adV : Nat → Nat} (a1 : Int32)  (M : qM) (out : Int32 × qM) (hf : f_Pg_css a1 M = some out) : CTi l y_Pg_css w_Pg_css rm_Pg_css D (tysX dA) (enX dA b) 367 b (qX adK adV 367 b) [qr (some 0), qi a1] M out := by
  refine qm_z (cc := prog_1_method_3_code) (nL := 2) (by decide) rfl (Nat.le_of_ble_eq_true rfl) ?_
  intro p e s m args below meth c Q hx hb hts0 hown hml hK hs hret
  have hts : ∀ w ∈ lw_g, w.before args s = true := fun w h => hts0 w (List.mem_cons_of_mem _ h)
  show QJ p l e rm_Pg_css s m args below meth c (qA 367 b) b 2 0 0 Q (qWd D (enX dA b) 367 b) M 0 [(0, qr (some 0)), (1, qi a1)] []
  unfold f_Pg_css at hf
  refine qj_iload_n hx hb d_Pg_css_0 rfl 1 rfl ?_
  have hf9 := q_bp_s hf; clear hf; obtain ⟨x1, hx1, hf⟩ := hf9
  refine qc_Si (st := []) hx hb hml hown hts hK (qX_ok _ _ _ _) hs (c_Pg_canBeTyped a1 M _ hx1) ⟨(callB_of 1 hts (q_good tw_236) rfl rfl rfl (hts _ tw_4) (hts _ tw_237) (by decide +kernel) ⟨by decide, by decide⟩), (hts _ tw_238)⟩ rfl rfl (Nat.le_of_ble_eq_true rfl) d_Pg_css_1 ?_
  refine qj_if_eq (tgt := 16) hx hb d_Pg_css_4 (by decide) (fun hc2 => ?_) (fun hc2 => ?_)
  · replace hf := q_if_t hc2 hf
    refine qj_iconst (v := 0) hx hb d_Pg_css_16 (by decide) ?_
    exact hret _ _ _ _ (Or.inl rfl) d_Pg_css_17 (Option.some.inj hf)
  · replace hf := q_if_f hc2 hf
    refine qj_aload_n hx hb d_Pg_css_7 rfl 0 rfl ?_
    refine qj_get hx hb hts hin_11 hown hK (q_in (rfl : tcX 0 = 0) (by decide)) (en_0 (rfl : tcX 0 = 0)) rfl 5 (by decide) (hts _ tw_306) (fun _ h => h) (qi (M.1 0 5)) rfl d_Pg_css_8 ?_
    refine qj_bipush (v := 120) hx hb d_Pg_css_11 (by decide) ?_
    refine qj_icmp_lt (tgt := 18) hx hb d_Pg_css_13 (by decide) (fun hc3 => ?_) (fun hc3 => ?_)
    · replace hf := q_if_t hc3 hf
      refine qj_aload_n hx hb d_Pg_css_18 rfl 0 rfl ?_
      refine qj_dup hx hb d_Pg_css_19 ?_
      refine qj_get hx hb hts hin_11 hown hK (q_in (rfl : tcX 0 = 0) (by decide)) (en_0 (rfl : tcX 0 = 0)) rfl 5 (by decide) (hts _ tw_306) (fun _ h => h) (qi (M.1 0 5)) rfl d_Pg_css_20 ?_
      refine qj_iconst (v := 1) hx hb d_Pg_css_23 (by decide) ?_
      refine qj_iadd hx hb d_Pg_css_24 ?_
      have hf9 := q_lt_s hf; clear hf; obtain ⟨M4, eM4, hf⟩ := hf9
      refine qj_puti (ty := .int) hx hb hts hin_11 ty_11 tyok_11 nm_11 hown hK (q_in (rfl : tcX 0 = 0) (by decide)) (en_0 (rfl : tcX 0 = 0)) rfl 5 (by decide) (hts _ tw_306) (fun _ h => h) rfl (by decide +kernel) rfl rfl (Nat.le_of_ble_eq_true rfl) (sp_0_5 (rfl : tcX 0 = 0)) eM4 d_Pg_css_25 ?_
      refine qj_aload_n hx hb d_Pg_css_28 rfl 0 rfl ?_
      have hf9 := q_cv_s hf; clear hf; obtain ⟨M5, hM5, hf⟩ := hf9
      refine qc_Vv (st := []) hx hb hml hown hts hK (qX_ok _ _ _ _) hs (c_Pg_forgetLayout  M4 _ hM5) ⟨(callB_of 0 hts (q_good tw_242) rfl rfl rfl (hts _ tw_4) (hts _ tw_243) (by decide +kernel) ⟨by decide, by decide⟩), (hts _ tw_244), (hts _ tw_245)⟩ (q_in (rfl : tcX 0 = 0) (by decide)) (en_0 (rfl : tcX 0 = 0)) rfl rfl rfl (Nat.le_of_ble_eq_true rfl) d_Pg_css_29 ?_
      refine qj_aload_n hx hb d_Pg_css_32 rfl 0 rfl ?_
      refine qj_get hx hb hts hin_11 hown hK (q_in (rfl : tcX 0 = 0) (by decide)) (en_0 (rfl : tcX 0 = 0)) rfl 2 (by decide) (hts _ tw_307) (fun _ h => h) (qr (some 288)) rfl d_Pg_css_33 ?_
      refine qj_iload_n hx hb d_Pg_css_36 rfl 1 rfl ?_
      have hf9 := q_cv_s hf; clear hf; obtain ⟨M6, hM6, hf⟩ := hf9
      refine qc_Vv (st := []) hx hb hml hown hts hK (qX_ok _ _ _ _) hs (c_Sheet_type a1 M5 _ hM6) ⟨(callB_of 1 hts (q_good tw_308) rfl rfl rfl (hts _ tw_297) (hts _ tw_309) (by decide +kernel) ⟨by decide, by decide⟩), (hts _ tw_310), (hts _ tw_311)⟩ (q_in (rfl : tcX 288 = 14) (by decide)) (en_14 (rfl : tcX 288 = 14)) rfl rfl rfl (Nat.le_of_ble_eq_true rfl) d_Pg_css_37 ?_
      refine qj_iconst (v := 1) hx hb d_Pg_css_40 (by decide) ?_
      exact hret _ _ _ _ (Or.inr rfl) d_Pg_css_41 (Option.some.inj hf)
    · replace hf := q_if_f hc3 hf
      refine qj_iconst (v := 0) hx hb d_Pg_css_16 (by decide) ?_
      exact hret _ _ _ _ (Or.inl rfl) d_Pg_css_17 (Option.some.inj hf)
theorem d_Tree_empty_0 : decode prog_11_method_2_code 0 = .ok (.aload_n 0, 1) := by decide +kernel
theorem d_Tree_empty_1 : decode prog_11_method_2_code 1 = .ok (.iconst 0, 1) := by decide +kernel
theorem d_Tree_empty_2 : decode prog_11_method_2_code 2 = .ok (.putfield 39, 3) := by decide +kernel
theorem d_Tree_empty_5 : decode prog_11_method_2_code 5 = .ok (.aload_n 0, 1) := by decide +kernel
theorem d_Tree_empty_6 : decode prog_11_method_2_code 6 = .ok (.iconst 0, 1) := by decide +kernel
theorem d_Tree_empty_7 : decode prog_11_method_2_code 7 = .ok (.putfield 43, 3) := by decide +kernel
theorem d_Tree_empty_10 : decode prog_11_method_2_code 10 = .ok (.aload_n 0, 1) := by decide +kernel
theorem d_Tree_empty_11 : decode prog_11_method_2_code 11 = .ok (.iconst 1, 1) := by decide +kernel
theorem d_Tree_empty_12 : decode prog_11_method_2_code 12 = .ok (.putfield 47, 3) := by decide +kernel
theorem d_Tree_empty_15 : decode prog_11_method_2_code 15 = .ok (.aload_n 0, 1) := by decide +kernel
theorem d_Tree_empty_16 : decode prog_11_method_2_code 16 = .ok (.getfield 35, 3) := by decide +kernel
theorem d_Tree_empty_19 : decode prog_11_method_2_code 19 = .ok (.iconst 0, 1) := by decide +kernel
theorem d_Tree_empty_20 : decode prog_11_method_2_code 20 = .ok (.iconst 0, 1) := by decide +kernel
theorem d_Tree_empty_21 : decode prog_11_method_2_code 21 = .ok (.invokevirtual 50, 3) := by decide +kernel
theorem d_Tree_empty_24 : decode prog_11_method_2_code 24 = .ok (.aload_n 0, 1) := by decide +kernel
theorem d_Tree_empty_25 : decode prog_11_method_2_code 25 = .ok (.getfield 29, 3) := by decide +kernel
theorem d_Tree_empty_28 : decode prog_11_method_2_code 28 = .ok (.iconst 0, 1) := by decide +kernel
theorem d_Tree_empty_29 : decode prog_11_method_2_code 29 = .ok (.putfield 54, 3) := by decide +kernel
theorem d_Tree_empty_32 : decode prog_11_method_2_code 32 = .ok (.aload_n 0, 1) := by decide +kernel
theorem d_Tree_empty_33 : decode prog_11_method_2_code 33 = .ok (.getfield 29, 3) := by decide +kernel
theorem d_Tree_empty_36 : decode prog_11_method_2_code 36 = .ok (.aload_n 0, 1) := by decide +kernel
theorem d_Tree_empty_37 : decode prog_11_method_2_code 37 = .ok (.getfield 35, 3) := by decide +kernel
theorem d_Tree_empty_40 : decode prog_11_method_2_code 40 = .ok (.invokevirtual 57, 3) := by decide +kernel
theorem d_Tree_empty_43 : decode prog_11_method_2_code 43 = .ok (.aload_n 0, 1) := by decide +kernel
theorem d_Tree_empty_44 : decode prog_11_method_2_code 44 = .ok (.invokevirtual 61, 3) := by decide +kernel
theorem d_Tree_empty_47 : decode prog_11_method_2_code 47 = .ok (.return_, 1) := by decide +kernel
def f_Tree_empty  (M : qM) : Option qM := q_lt (qsI M 1 7 0) fun M1 => q_lt (qsI M1 1 6 0) fun M2 => q_lt (qsI M2 1 5 1) fun M3 => q_cv (f_Node_become 7 0 0 M3) fun M4 => q_lt (qsI M4 5 1 0) fun M5 => q_cv (f_OpenStack_push 7 M5) fun M6 => q_cv (f_Tree_number M6) fun M7 => some M7
abbrev rm_Tree_empty : Room := { frames := 2, cells := 0, slots := 0, locals := 43 }
set_option maxRecDepth 100000 in
set_option maxHeartbeats 4000000 in
theorem c_Tree_empty {l : Launch} {D : va_G} {dA : Nat → ClassId} {b : Nat} {adK adV : Nat → Nat}   (M : qM) (out : qM) (hf : f_Tree_empty M = some out) : CTv l y_Tree_empty w_Tree_empty rm_Tree_empty D (tysX dA) (enX dA b) 367 b (qX adK adV 367 b) [qr (some 1)] M out := by
  refine qm_v (cc := prog_11_method_2_code) (nL := 1) (by decide) rfl (Nat.le_of_ble_eq_true rfl) ?_
  intro p e s m args below meth c Q hx hb hts0 hown hml hK hs hret
  have hts : ∀ w ∈ lw_g, w.before args s = true := fun w h => hts0 w (List.mem_cons_of_mem _ h)
  show QJ p l e rm_Tree_empty s m args below meth c (qA 367 b) b 1 0 0 Q (qWd D (enX dA b) 367 b) M 0 [(0, qr (some 1))] []
  unfold f_Tree_empty at hf
  refine qj_aload_n hx hb d_Tree_empty_0 rfl 0 rfl ?_
  refine qj_iconst (v := 0) hx hb d_Tree_empty_1 (by decide) ?_
  have hf9 := q_lt_s hf; clear hf; obtain ⟨M1, eM1, hf⟩ := hf9
  refine qj_puti (ty := .boolean) hx hb hts hin_5 ty_5 tyok_5 nm_5 hown hK (q_in (rfl : tcX 1 = 1) (by decide)) (en_1 (rfl : tcX 1 = 1)) rfl 7 (by decide) (hts _ tw_42) (fun _ h => h) rfl (by decide +kernel) rfl rfl (Nat.le_of_ble_eq_true rfl) (sp_1_7 (rfl : tcX 1 = 1)) eM1 d_Tree_empty_2 ?_
  refine qj_aload_n hx hb d_Tree_empty_5 rfl 0 rfl ?_
  refine qj_iconst (v := 0) hx hb d_Tree_empty_6 (by decide) ?_
  have hf9 := q_lt_s hf; clear hf; obtain ⟨M2, eM2, hf⟩ := hf9
  refine qj_puti (ty := .int) hx hb hts hin_5 ty_5 tyok_5 nm_5 hown hK (q_in (rfl : tcX 1 = 1) (by decide)) (en_1 (rfl : tcX 1 = 1)) rfl 6 (by decide) (hts _ tw_96) (fun _ h => h) rfl (by decide +kernel) rfl rfl (Nat.le_of_ble_eq_true rfl) (sp_1_6 (rfl : tcX 1 = 1)) eM2 d_Tree_empty_7 ?_
  refine qj_aload_n hx hb d_Tree_empty_10 rfl 0 rfl ?_
  refine qj_iconst (v := 1) hx hb d_Tree_empty_11 (by decide) ?_
  have hf9 := q_lt_s hf; clear hf; obtain ⟨M3, eM3, hf⟩ := hf9
  refine qj_puti (ty := .int) hx hb hts hin_5 ty_5 tyok_5 nm_5 hown hK (q_in (rfl : tcX 1 = 1) (by decide)) (en_1 (rfl : tcX 1 = 1)) rfl 5 (by decide) (hts _ tw_35) (fun _ h => h) rfl (by decide +kernel) rfl rfl (Nat.le_of_ble_eq_true rfl) (sp_1_5 (rfl : tcX 1 = 1)) eM3 d_Tree_empty_12 ?_
  refine qj_aload_n hx hb d_Tree_empty_15 rfl 0 rfl ?_
  refine qj_get hx hb hts hin_5 hown hK (q_in (rfl : tcX 1 = 1) (by decide)) (en_1 (rfl : tcX 1 = 1)) rfl 4 (by decide) (hts _ tw_18) (fun _ h => h) (qr (some 7)) rfl d_Tree_empty_16 ?_
  refine qj_iconst (v := 0) hx hb d_Tree_empty_19 (by decide) ?_
  refine qj_iconst (v := 0) hx hb d_Tree_empty_20 (by decide) ?_
  have hf9 := q_cv_s hf; clear hf; obtain ⟨M4, hM4, hf⟩ := hf9
  refine qc_Vv (st := []) hx hb hml hown hts hK (qX_ok _ _ _ _) hs (c_Node_become 7 0 0 (rfl : tcX 7 = 7) M3 _ hM4) ⟨(callB_of 2 hts (q_good tw_38) rfl rfl rfl (hts _ tw_37) (hts _ tw_39) (by decide +kernel) ⟨by decide, by decide⟩), (hts _ tw_40), (hts _ tw_41)⟩ (q_in (rfl : tcX 7 = 7) (by decide)) (en_7 (rfl : tcX 7 = 7)) rfl rfl rfl (Nat.le_of_ble_eq_true rfl) d_Tree_empty_21 ?_
  refine qj_aload_n hx hb d_Tree_empty_24 rfl 0 rfl ?_
  refine qj_get hx hb hts hin_5 hown hK (q_in (rfl : tcX 1 = 1) (by decide)) (en_1 (rfl : tcX 1 = 1)) rfl 3 (by decide) (hts _ tw_12) (fun _ h => h) (qr (some 5)) rfl d_Tree_empty_25 ?_
  refine qj_iconst (v := 0) hx hb d_Tree_empty_28 (by decide) ?_
  have hf9 := q_lt_s hf; clear hf; obtain ⟨M5, eM5, hf⟩ := hf9
  refine qj_puti (ty := .int) hx hb hts hin_4 ty_4 tyok_4 nm_4 hown hK (q_in (rfl : tcX 5 = 5) (by decide)) (en_5 (rfl : tcX 5 = 5)) rfl 1 (by decide) (hts _ tw_72) (fun _ h => h) rfl (by decide +kernel) rfl rfl (Nat.le_of_ble_eq_true rfl) (sp_5_1 (rfl : tcX 5 = 5)) eM5 d_Tree_empty_29 ?_
  refine qj_aload_n hx hb d_Tree_empty_32 rfl 0 rfl ?_
  refine qj_get hx hb hts hin_5 hown hK (q_in (rfl : tcX 1 = 1) (by decide)) (en_1 (rfl : tcX 1 = 1)) rfl 3 (by decide) (hts _ tw_12) (fun _ h => h) (qr (some 5)) rfl d_Tree_empty_33 ?_
  refine qj_aload_n hx hb d_Tree_empty_36 rfl 0 rfl ?_
  refine qj_get hx hb hts hin_5 hown hK (q_in (rfl : tcX 1 = 1) (by decide)) (en_1 (rfl : tcX 1 = 1)) rfl 4 (by decide) (hts _ tw_18) (fun _ h => h) (qr (some 7)) rfl d_Tree_empty_37 ?_
  have hf9 := q_cv_s hf; clear hf; obtain ⟨M6, hM6, hf⟩ := hf9
  refine qc_Vv (st := []) hx hb hml hown hts hK (qX_ok _ _ _ _) hs (c_OpenStack_push 7 (rfl : tcX 7 = 7) M5 _ hM6) ⟨(callB_of 1 hts (q_good tw_77) rfl rfl rfl (hts _ tw_13) (hts _ tw_78) (by decide +kernel) ⟨by decide, by decide⟩), (hts _ tw_79), (hts _ tw_80)⟩ (q_in (rfl : tcX 5 = 5) (by decide)) (en_5 (rfl : tcX 5 = 5)) rfl rfl rfl (Nat.le_of_ble_eq_true rfl) d_Tree_empty_40 ?_
  refine qj_aload_n hx hb d_Tree_empty_43 rfl 0 rfl ?_
  have hf9 := q_cv_s hf; clear hf; obtain ⟨M7, hM7, hf⟩ := hf9
  refine qc_Vv (st := []) hx hb hml hown hts hK (qX_ok _ _ _ _) hs (c_Tree_number  M6 _ hM7) ⟨(callB_of 0 hts (q_good tw_251) rfl rfl rfl (hts _ tw_54) (hts _ tw_312) (by decide +kernel) ⟨by decide, by decide⟩), (hts _ tw_253), (hts _ tw_254)⟩ (q_in (rfl : tcX 1 = 1) (by decide)) (en_1 (rfl : tcX 1 = 1)) rfl rfl rfl (Nat.le_of_ble_eq_true rfl) d_Tree_empty_44 ?_
  exact hret _ _ _ d_Tree_empty_47 (Option.some.inj hf)
theorem d_Typist_empty_0 : decode prog_12_method_2_code 0 = .ok (.aload_n 0, 1) := by decide +kernel
theorem d_Typist_empty_1 : decode prog_12_method_2_code 1 = .ok (.iconst 0, 1) := by decide +kernel
theorem d_Typist_empty_2 : decode prog_12_method_2_code 2 = .ok (.putfield 9, 3) := by decide +kernel
theorem d_Typist_empty_5 : decode prog_12_method_2_code 5 = .ok (.return_, 1) := by decide +kernel
def f_Typist_empty  (M : qM) : Option qM := q_lt (qsI M 287 0 0) fun M1 => some M1
abbrev rm_Typist_empty : Room := { frames := 0, cells := 0, slots := 0, locals := 0 }
set_option maxRecDepth 100000 in
set_option maxHeartbeats 4000000 in
theorem c_Typist_empty {l : Launch} {D : va_G} {dA : Nat → ClassId} {b : Nat} {adK adV : Nat → Nat}   (M : qM) (out : qM) (hf : f_Typist_empty M = some out) : CTv l y_Typist_empty w_Typist_empty rm_Typist_empty D (tysX dA) (enX dA b) 367 b (qX adK adV 367 b) [qr (some 287)] M out := by
  refine qm_v (cc := prog_12_method_2_code) (nL := 1) (by decide) rfl (Nat.le_of_ble_eq_true rfl) ?_
  intro p e s m args below meth c Q hx hb hts0 hown hml hK hs hret
  have hts : ∀ w ∈ lw_g, w.before args s = true := fun w h => hts0 w (List.mem_cons_of_mem _ h)
  show QJ p l e rm_Typist_empty s m args below meth c (qA 367 b) b 1 0 0 Q (qWd D (enX dA b) 367 b) M 0 [(0, qr (some 287))] []
  unfold f_Typist_empty at hf
  refine qj_aload_n hx hb d_Typist_empty_0 rfl 0 rfl ?_
  refine qj_iconst (v := 0) hx hb d_Typist_empty_1 (by decide) ?_
  have hf9 := q_lt_s hf; clear hf; obtain ⟨M1, eM1, hf⟩ := hf9
  refine qj_puti (ty := .int) hx hb hts hin_6 ty_6 tyok_6 nm_6 hown hK (q_in (rfl : tcX 287 = 13) (by decide)) (en_13 (rfl : tcX 287 = 13)) rfl 0 (by decide) (hts _ tw_3) (fun _ h => h) rfl (by decide +kernel) rfl rfl (Nat.le_of_ble_eq_true rfl) (sp_13_0 (rfl : tcX 287 = 13)) eM1 d_Typist_empty_2 ?_
  exact hret _ _ _ d_Typist_empty_5 (Option.some.inj hf)
theorem d_Sheet_empty_0 : decode prog_10_method_2_code 0 = .ok (.aload_n 0, 1) := by decide +kernel
theorem d_Sheet_empty_1 : decode prog_10_method_2_code 1 = .ok (.iconst 0, 1) := by decide +kernel
theorem d_Sheet_empty_2 : decode prog_10_method_2_code 2 = .ok (.putfield 26, 3) := by decide +kernel
theorem d_Sheet_empty_5 : decode prog_10_method_2_code 5 = .ok (.aload_n 0, 1) := by decide +kernel
theorem d_Sheet_empty_6 : decode prog_10_method_2_code 6 = .ok (.iconst 0, 1) := by decide +kernel
theorem d_Sheet_empty_7 : decode prog_10_method_2_code 7 = .ok (.putfield 30, 3) := by decide +kernel
theorem d_Sheet_empty_10 : decode prog_10_method_2_code 10 = .ok (.aload_n 0, 1) := by decide +kernel
theorem d_Sheet_empty_11 : decode prog_10_method_2_code 11 = .ok (.iconst 0, 1) := by decide +kernel
theorem d_Sheet_empty_12 : decode prog_10_method_2_code 12 = .ok (.putfield 34, 3) := by decide +kernel
theorem d_Sheet_empty_15 : decode prog_10_method_2_code 15 = .ok (.return_, 1) := by decide +kernel
def f_Sheet_empty  (M : qM) : Option qM := q_lt (qsI M 288 3 0) fun M1 => q_lt (qsI M1 288 4 0) fun M2 => q_lt (qsI M2 288 6 0) fun M3 => some M3
abbrev rm_Sheet_empty : Room := { frames := 0, cells := 0, slots := 0, locals := 0 }
set_option maxRecDepth 100000 in
set_option maxHeartbeats 4000000 in
theorem c_Sheet_empty {l : Launch} {D : va_G} {dA : Nat → ClassId} {b : Nat} {adK adV : Nat → Nat}   (M : qM) (out : qM) (hf : f_Sheet_empty M = some out) : CTv l y_Sheet_empty w_Sheet_empty rm_Sheet_empty D (tysX dA) (enX dA b) 367 b (qX adK adV 367 b) [qr (some 288)] M out := by
  refine qm_v (cc := prog_10_method_2_code) (nL := 1) (by decide) rfl (Nat.le_of_ble_eq_true rfl) ?_
  intro p e s m args below meth c Q hx hb hts0 hown hml hK hs hret
  have hts : ∀ w ∈ lw_g, w.before args s = true := fun w h => hts0 w (List.mem_cons_of_mem _ h)
  show QJ p l e rm_Sheet_empty s m args below meth c (qA 367 b) b 1 0 0 Q (qWd D (enX dA b) 367 b) M 0 [(0, qr (some 288))] []
  unfold f_Sheet_empty at hf
  refine qj_aload_n hx hb d_Sheet_empty_0 rfl 0 rfl ?_
  refine qj_iconst (v := 0) hx hb d_Sheet_empty_1 (by decide) ?_
  have hf9 := q_lt_s hf; clear hf; obtain ⟨M1, eM1, hf⟩ := hf9
  refine qj_puti (ty := .int) hx hb hts hin_8 ty_8 tyok_8 nm_8 hown hK (q_in (rfl : tcX 288 = 14) (by decide)) (en_14 (rfl : tcX 288 = 14)) rfl 3 (by decide) (hts _ tw_288) (fun _ h => h) rfl (by decide +kernel) rfl rfl (Nat.le_of_ble_eq_true rfl) (sp_14_3 (rfl : tcX 288 = 14)) eM1 d_Sheet_empty_2 ?_
  refine qj_aload_n hx hb d_Sheet_empty_5 rfl 0 rfl ?_
  refine qj_iconst (v := 0) hx hb d_Sheet_empty_6 (by decide) ?_
  have hf9 := q_lt_s hf; clear hf; obtain ⟨M2, eM2, hf⟩ := hf9
  refine qj_puti (ty := .boolean) hx hb hts hin_8 ty_8 tyok_8 nm_8 hown hK (q_in (rfl : tcX 288 = 14) (by decide)) (en_14 (rfl : tcX 288 = 14)) rfl 4 (by decide) (hts _ tw_289) (fun _ h => h) rfl (by decide +kernel) rfl rfl (Nat.le_of_ble_eq_true rfl) (sp_14_4 (rfl : tcX 288 = 14)) eM2 d_Sheet_empty_7 ?_
  refine qj_aload_n hx hb d_Sheet_empty_10 rfl 0 rfl ?_
  refine qj_iconst (v := 0) hx hb d_Sheet_empty_11 (by decide) ?_
  have hf9 := q_lt_s hf; clear hf; obtain ⟨M3, eM3, hf⟩ := hf9
  refine qj_puti (ty := .int) hx hb hts hin_8 ty_8 tyok_8 nm_8 hown hK (q_in (rfl : tcX 288 = 14) (by decide)) (en_14 (rfl : tcX 288 = 14)) rfl 6 (by decide) (hts _ tw_290) (fun _ h => h) rfl (by decide +kernel) rfl rfl (Nat.le_of_ble_eq_true rfl) (sp_14_6 (rfl : tcX 288 = 14)) eM3 d_Sheet_empty_12 ?_
  exact hret _ _ _ d_Sheet_empty_15 (Option.some.inj hf)
theorem d_Pg_startAnew_0 : decode prog_1_method_18_code 0 = .ok (.aload_n 0, 1) := by decide +kernel
theorem d_Pg_startAnew_1 : decode prog_1_method_18_code 1 = .ok (.getfield 10, 3) := by decide +kernel
theorem d_Pg_startAnew_4 : decode prog_1_method_18_code 4 = .ok (.invokevirtual 180, 3) := by decide +kernel
theorem d_Pg_startAnew_7 : decode prog_1_method_18_code 7 = .ok (.aload_n 0, 1) := by decide +kernel
theorem d_Pg_startAnew_8 : decode prog_1_method_18_code 8 = .ok (.getfield 19, 3) := by decide +kernel
theorem d_Pg_startAnew_11 : decode prog_1_method_18_code 11 = .ok (.invokevirtual 183, 3) := by decide +kernel
theorem d_Pg_startAnew_14 : decode prog_1_method_18_code 14 = .ok (.aload_n 0, 1) := by decide +kernel
theorem d_Pg_startAnew_15 : decode prog_1_method_18_code 15 = .ok (.getfield 26, 3) := by decide +kernel
theorem d_Pg_startAnew_18 : decode prog_1_method_18_code 18 = .ok (.invokevirtual 184, 3) := by decide +kernel
theorem d_Pg_startAnew_21 : decode prog_1_method_18_code 21 = .ok (.aload_n 0, 1) := by decide +kernel
theorem d_Pg_startAnew_22 : decode prog_1_method_18_code 22 = .ok (.iconst 0, 1) := by decide +kernel
theorem d_Pg_startAnew_23 : decode prog_1_method_18_code 23 = .ok (.putfield 44, 3) := by decide +kernel
theorem d_Pg_startAnew_26 : decode prog_1_method_18_code 26 = .ok (.aload_n 0, 1) := by decide +kernel
theorem d_Pg_startAnew_27 : decode prog_1_method_18_code 27 = .ok (.iconst 0, 1) := by decide +kernel
theorem d_Pg_startAnew_28 : decode prog_1_method_18_code 28 = .ok (.putfield 62, 3) := by decide +kernel
theorem d_Pg_startAnew_31 : decode prog_1_method_18_code 31 = .ok (.aload_n 0, 1) := by decide +kernel
theorem d_Pg_startAnew_32 : decode prog_1_method_18_code 32 = .ok (.invokevirtual 52, 3) := by decide +kernel
theorem d_Pg_startAnew_35 : decode prog_1_method_18_code 35 = .ok (.return_, 1) := by decide +kernel
def f_Pg_startAnew  (M : qM) : Option qM := q_cv (f_Tree_empty M) fun M1 => q_cv (f_Typist_empty M1) fun M2 => q_cv (f_Sheet_empty M2) fun M3 => q_lt (qsI M3 0 4 0) fun M4 => q_lt (qsI M4 0 5 0) fun M5 => q_cv (f_Pg_forgetLayout M5) fun M6 => some M6
abbrev rm_Pg_startAnew : Room := { frames := 3, cells := 0, slots := 0, locals := 63 }
set_option maxRecDepth 100000 in
set_option maxHeartbeats 4000000 in
theorem c_Pg_startAnew {l : Launch} {D : va_G} {dA : Nat → ClassId} {b : Nat} {adK adV : Nat → Nat}   (M : qM) (out : qM) (hf : f_Pg_startAnew M = some out) : CTv l y_Pg_startAnew w_Pg_startAnew rm_Pg_startAnew D (tysX dA) (enX dA b) 367 b (qX adK adV 367 b) [qr (some 0)] M out := by
  refine qm_v (cc := prog_1_method_18_code) (nL := 1) (by decide) rfl (Nat.le_of_ble_eq_true rfl) ?_
  intro p e s m args below meth c Q hx hb hts0 hown hml hK hs hret
  have hts : ∀ w ∈ lw_g, w.before args s = true := fun w h => hts0 w (List.mem_cons_of_mem _ h)
  show QJ p l e rm_Pg_startAnew s m args below meth c (qA 367 b) b 1 0 0 Q (qWd D (enX dA b) 367 b) M 0 [(0, qr (some 0))] []
  unfold f_Pg_startAnew at hf
  refine qj_aload_n hx hb d_Pg_startAnew_0 rfl 0 rfl ?_
  refine qj_get hx hb hts hin_11 hown hK (q_in (rfl : tcX 0 = 0) (by decide)) (en_0 (rfl : tcX 0 = 0)) rfl 0 (by decide) (hts _ tw_240) (fun _ h => h) (qr (some 1)) rfl d_Pg_startAnew_1 ?_
  have hf9 := q_cv_s hf; clear hf; obtain ⟨M1, hM1, hf⟩ := hf9
  refine qc_Vv (st := []) hx hb hml hown hts hK (qX_ok _ _ _ _) hs (c_Tree_empty  M _ hM1) ⟨(callB_of 0 hts (q_good tw_313) rfl rfl rfl (hts _ tw_54) (hts _ tw_314) (by decide +kernel) ⟨by decide, by decide⟩), (hts _ tw_315), (hts _ tw_316)⟩ (q_in (rfl : tcX 1 = 1) (by decide)) (en_1 (rfl : tcX 1 = 1)) rfl rfl rfl (Nat.le_of_ble_eq_true rfl) d_Pg_startAnew_4 ?_
  refine qj_aload_n hx hb d_Pg_startAnew_7 rfl 0 rfl ?_
  refine qj_get hx hb hts hin_11 hown hK (q_in (rfl : tcX 0 = 0) (by decide)) (en_0 (rfl : tcX 0 = 0)) rfl 1 (by decide) (hts _ tw_246) (fun _ h => h) (qr (some 287)) rfl d_Pg_startAnew_8 ?_
  have hf9 := q_cv_s hf; clear hf; obtain ⟨M2, hM2, hf⟩ := hf9
  refine qc_Vv (st := []) hx hb hml hown hts hK (qX_ok _ _ _ _) hs (c_Typist_empty  M1 _ hM2) ⟨(callB_of 0 hts (q_good tw_317) rfl rfl rfl (hts _ tw_202) (hts _ tw_318) (by decide +kernel) ⟨by decide, by decide⟩), (hts _ tw_319), (hts _ tw_320)⟩ (q_in (rfl : tcX 287 = 13) (by decide)) (en_13 (rfl : tcX 287 = 13)) rfl rfl rfl (Nat.le_of_ble_eq_true rfl) d_Pg_startAnew_11 ?_
  refine qj_aload_n hx hb d_Pg_startAnew_14 rfl 0 rfl ?_
  refine qj_get hx hb hts hin_11 hown hK (q_in (rfl : tcX 0 = 0) (by decide)) (en_0 (rfl : tcX 0 = 0)) rfl 2 (by decide) (hts _ tw_307) (fun _ h => h) (qr (some 288)) rfl d_Pg_startAnew_15 ?_
  have hf9 := q_cv_s hf; clear hf; obtain ⟨M3, hM3, hf⟩ := hf9
  refine qc_Vv (st := []) hx hb hml hown hts hK (qX_ok _ _ _ _) hs (c_Sheet_empty  M2 _ hM3) ⟨(callB_of 0 hts (q_good tw_321) rfl rfl rfl (hts _ tw_297) (hts _ tw_322) (by decide +kernel) ⟨by decide, by decide⟩), (hts _ tw_323), (hts _ tw_324)⟩ (q_in (rfl : tcX 288 = 14) (by decide)) (en_14 (rfl : tcX 288 = 14)) rfl rfl rfl (Nat.le_of_ble_eq_true rfl) d_Pg_startAnew_18 ?_
  refine qj_aload_n hx hb d_Pg_startAnew_21 rfl 0 rfl ?_
  refine qj_iconst (v := 0) hx hb d_Pg_startAnew_22 (by decide) ?_
  have hf9 := q_lt_s hf; clear hf; obtain ⟨M4, eM4, hf⟩ := hf9
  refine qj_puti (ty := .int) hx hb hts hin_11 ty_11 tyok_11 nm_11 hown hK (q_in (rfl : tcX 0 = 0) (by decide)) (en_0 (rfl : tcX 0 = 0)) rfl 4 (by decide) (hts _ tw_239) (fun _ h => h) rfl (by decide +kernel) rfl rfl (Nat.le_of_ble_eq_true rfl) (sp_0_4 (rfl : tcX 0 = 0)) eM4 d_Pg_startAnew_23 ?_
  refine qj_aload_n hx hb d_Pg_startAnew_26 rfl 0 rfl ?_
  refine qj_iconst (v := 0) hx hb d_Pg_startAnew_27 (by decide) ?_
  have hf9 := q_lt_s hf; clear hf; obtain ⟨M5, eM5, hf⟩ := hf9
  refine qj_puti (ty := .int) hx hb hts hin_11 ty_11 tyok_11 nm_11 hown hK (q_in (rfl : tcX 0 = 0) (by decide)) (en_0 (rfl : tcX 0 = 0)) rfl 5 (by decide) (hts _ tw_306) (fun _ h => h) rfl (by decide +kernel) rfl rfl (Nat.le_of_ble_eq_true rfl) (sp_0_5 (rfl : tcX 0 = 0)) eM5 d_Pg_startAnew_28 ?_
  refine qj_aload_n hx hb d_Pg_startAnew_31 rfl 0 rfl ?_
  have hf9 := q_cv_s hf; clear hf; obtain ⟨M6, hM6, hf⟩ := hf9
  refine qc_Vv (st := []) hx hb hml hown hts hK (qX_ok _ _ _ _) hs (c_Pg_forgetLayout  M5 _ hM6) ⟨(callB_of 0 hts (q_good tw_242) rfl rfl rfl (hts _ tw_4) (hts _ tw_243) (by decide +kernel) ⟨by decide, by decide⟩), (hts _ tw_244), (hts _ tw_245)⟩ (q_in (rfl : tcX 0 = 0) (by decide)) (en_0 (rfl : tcX 0 = 0)) rfl rfl rfl (Nat.le_of_ble_eq_true rfl) d_Pg_startAnew_32 ?_
  exact hret _ _ _ d_Pg_startAnew_35 (Option.some.inj hf)
theorem d_Pg_clear_0 : decode prog_1_method_4_code 0 = .ok (.aload_n 0, 1) := by decide +kernel
theorem d_Pg_clear_1 : decode prog_1_method_4_code 1 = .ok (.invokevirtual 37, 3) := by decide +kernel
theorem d_Pg_clear_4 : decode prog_1_method_4_code 4 = .ok (.return_, 1) := by decide +kernel
def f_Pg_clear  (M : qM) : Option qM := q_cv (f_Pg_startAnew M) fun M1 => some M1
abbrev rm_Pg_clear : Room := { frames := 4, cells := 0, slots := 0, locals := 83 }
set_option maxRecDepth 100000 in
set_option maxHeartbeats 4000000 in
theorem c_Pg_clear {l : Launch} {D : va_G} {dA : Nat → ClassId} {b : Nat} {adK adV : Nat → Nat}   (M : qM) (out : qM) (hf : f_Pg_clear M = some out) : CTv l y_Pg_clear w_Pg_clear rm_Pg_clear D (tysX dA) (enX dA b) 367 b (qX adK adV 367 b) [qr (some 0)] M out := by
  refine qm_v (cc := prog_1_method_4_code) (nL := 1) (by decide) rfl (Nat.le_of_ble_eq_true rfl) ?_
  intro p e s m args below meth c Q hx hb hts0 hown hml hK hs hret
  have hts : ∀ w ∈ lw_g, w.before args s = true := fun w h => hts0 w (List.mem_cons_of_mem _ h)
  show QJ p l e rm_Pg_clear s m args below meth c (qA 367 b) b 1 0 0 Q (qWd D (enX dA b) 367 b) M 0 [(0, qr (some 0))] []
  unfold f_Pg_clear at hf
  refine qj_aload_n hx hb d_Pg_clear_0 rfl 0 rfl ?_
  have hf9 := q_cv_s hf; clear hf; obtain ⟨M1, hM1, hf⟩ := hf9
  refine qc_Vv (st := []) hx hb hml hown hts hK (qX_ok _ _ _ _) hs (c_Pg_startAnew  M _ hM1) ⟨(callB_of 0 hts (q_good tw_325) rfl rfl rfl (hts _ tw_4) (hts _ tw_326) (by decide +kernel) ⟨by decide, by decide⟩), (hts _ tw_327), (hts _ tw_328)⟩ (q_in (rfl : tcX 0 = 0) (by decide)) (en_0 (rfl : tcX 0 = 0)) rfl rfl rfl (Nat.le_of_ble_eq_true rfl) d_Pg_clear_1 ?_
  exact hret _ _ _ d_Pg_clear_4 (Option.some.inj hf)
theorem d_Pg_nodes_0 : decode prog_1_method_5_code 0 = .ok (.aload_n 0, 1) := by decide +kernel
theorem d_Pg_nodes_1 : decode prog_1_method_5_code 1 = .ok (.getfield 10, 3) := by decide +kernel
theorem d_Pg_nodes_4 : decode prog_1_method_5_code 4 = .ok (.getfield 48, 3) := by decide +kernel
theorem d_Pg_nodes_7 : decode prog_1_method_5_code 7 = .ok (.ifCond .eq 7, 3) := by decide +kernel
theorem d_Pg_nodes_10 : decode prog_1_method_5_code 10 = .ok (.iconst (-1), 1) := by decide +kernel
theorem d_Pg_nodes_11 : decode prog_1_method_5_code 11 = .ok (.goto 10, 3) := by decide +kernel
theorem d_Pg_nodes_14 : decode prog_1_method_5_code 14 = .ok (.aload_n 0, 1) := by decide +kernel
theorem d_Pg_nodes_15 : decode prog_1_method_5_code 15 = .ok (.getfield 10, 3) := by decide +kernel
theorem d_Pg_nodes_18 : decode prog_1_method_5_code 18 = .ok (.getfield 68, 3) := by decide +kernel
theorem d_Pg_nodes_21 : decode prog_1_method_5_code 21 = .ok (.ireturn, 1) := by decide +kernel
def f_Pg_nodes  (M : qM) : Option Int32 := if (M.1 1 7) = 0 then (some (M.1 1 5)) else (some (-1))
abbrev rm_Pg_nodes : Room := { frames := 0, cells := 0, slots := 0, locals := 0 }
set_option maxRecDepth 100000 in
set_option maxHeartbeats 4000000 in
theorem c_Pg_nodes {l : Launch} {D : va_G} {dA : Nat → ClassId} {b : Nat} {adK adV : Nat → Nat}   (M : qM) (out : Int32) (hf : f_Pg_nodes M = some out) : CTi l y_Pg_nodes w_Pg_nodes rm_Pg_nodes D (tysX dA) (enX dA b) 367 b (qX adK adV 367 b) [qr (some 0)] M (out, M) := by
  refine qm_i (cc := prog_1_method_5_code) (nL := 1) (by decide) rfl (Nat.le_of_ble_eq_true rfl) ?_
  intro p e s m args below meth c Q hx hb hts0 hown hml hK hs hret
  have hts : ∀ w ∈ lw_g, w.before args s = true := fun w h => hts0 w (List.mem_cons_of_mem _ h)
  show QJ p l e rm_Pg_nodes s m args below meth c (qA 367 b) b 1 0 0 Q (qWd D (enX dA b) 367 b) M 0 [(0, qr (some 0))] []
  unfold f_Pg_nodes at hf
  refine qj_aload_n hx hb d_Pg_nodes_0 rfl 0 rfl ?_
  refine qj_get hx hb hts hin_11 hown hK (q_in (rfl : tcX 0 = 0) (by decide)) (en_0 (rfl : tcX 0 = 0)) rfl 0 (by decide) (hts _ tw_240) (fun _ h => h) (qr (some 1)) rfl d_Pg_nodes_1 ?_
  refine qj_get hx hb hts hin_5 hown hK (q_in (rfl : tcX 1 = 1) (by decide)) (en_1 (rfl : tcX 1 = 1)) rfl 7 (by decide) (hts _ tw_241) (fun _ h => h) (qi (M.1 1 7)) rfl d_Pg_nodes_4 ?_
  refine qj_if_eq (tgt := 14) hx hb d_Pg_nodes_7 (by decide) (fun hc1 => ?_) (fun hc1 => ?_)
  · replace hf := q_if_t hc1 hf
    refine qj_aload_n hx hb d_Pg_nodes_14 rfl 0 rfl ?_
    refine qj_get hx hb hts hin_11 hown hK (q_in (rfl : tcX 0 = 0) (by decide)) (en_0 (rfl : tcX 0 = 0)) rfl 0 (by decide) (hts _ tw_240) (fun _ h => h) (qr (some 1)) rfl d_Pg_nodes_15 ?_
    refine qj_get hx hb hts hin_5 hown hK (q_in (rfl : tcX 1 = 1) (by decide)) (en_1 (rfl : tcX 1 = 1)) rfl 5 (by decide) (hts _ tw_329) (fun _ h => h) (qi (M.1 1 5)) rfl d_Pg_nodes_18 ?_
    exact hret _ _ _ _ d_Pg_nodes_21 (congrArg (fun z => (z, M)) (Option.some.inj hf))
  · replace hf := q_if_f hc1 hf
    refine qj_iconst (v := (-1)) hx hb d_Pg_nodes_10 (by decide) ?_
    refine qj_goto (tgt := 21) hx hb d_Pg_nodes_11 (by decide) ?_
    exact hret _ _ _ _ d_Pg_nodes_21 (congrArg (fun z => (z, M)) (Option.some.inj hf))
theorem d_Tree_nodeAt_0 : decode prog_11_method_4_code 0 = .ok (.aload_n 0, 1) := by decide +kernel
theorem d_Tree_nodeAt_1 : decode prog_11_method_4_code 1 = .ok (.getfield 39, 3) := by decide +kernel
theorem d_Tree_nodeAt_4 : decode prog_11_method_4_code 4 = .ok (.ifCond .ne 15, 3) := by decide +kernel
theorem d_Tree_nodeAt_7 : decode prog_11_method_4_code 7 = .ok (.iload_n 1, 1) := by decide +kernel
theorem d_Tree_nodeAt_8 : decode prog_11_method_4_code 8 = .ok (.ifCond .lt 11, 3) := by decide +kernel
theorem d_Tree_nodeAt_11 : decode prog_11_method_4_code 11 = .ok (.iload_n 1, 1) := by decide +kernel
theorem d_Tree_nodeAt_12 : decode prog_11_method_4_code 12 = .ok (.aload_n 0, 1) := by decide +kernel
theorem d_Tree_nodeAt_13 : decode prog_11_method_4_code 13 = .ok (.getfield 47, 3) := by decide +kernel
theorem d_Tree_nodeAt_16 : decode prog_11_method_4_code 16 = .ok (.if_icmp .lt 7, 3) := by decide +kernel
theorem d_Tree_nodeAt_19 : decode prog_11_method_4_code 19 = .ok (.aconst_null, 1) := by decide +kernel
theorem d_Tree_nodeAt_20 : decode prog_11_method_4_code 20 = .ok (.goto 9, 3) := by decide +kernel
theorem d_Tree_nodeAt_23 : decode prog_11_method_4_code 23 = .ok (.aload_n 0, 1) := by decide +kernel
theorem d_Tree_nodeAt_24 : decode prog_11_method_4_code 24 = .ok (.getfield 17, 3) := by decide +kernel
theorem d_Tree_nodeAt_27 : decode prog_11_method_4_code 27 = .ok (.iload_n 1, 1) := by decide +kernel
theorem d_Tree_nodeAt_28 : decode prog_11_method_4_code 28 = .ok (.aaload, 1) := by decide +kernel
theorem d_Tree_nodeAt_29 : decode prog_11_method_4_code 29 = .ok (.areturn, 1) := by decide +kernel
def f_Tree_nodeAt (a1 : Int32) (M : qM) : Option (Option Nat) := if (M.1 1 7) = 0 then (if a1 < 0 then (some none) else (if a1 < (M.1 1 5) then (q_ix a1 24 <| q_lt (M.2 3 a1.toNatClampNeg) fun r5 => some r5) else (some none))) else (some none)
abbrev rm_Tree_nodeAt : Room := { frames := 0, cells := 0, slots := 0, locals := 0 }
set_option maxRecDepth 100000 in
set_option maxHeartbeats 4000000 in
theorem c_Tree_nodeAt {l : Launch} {D : va_G} {dA : Nat → ClassId} {b : Nat} {adK adV : Nat → Nat} (a1 : Int32)  (M : qM) (out : Option Nat) (hf : f_Tree_nodeAt a1 M = some out) : CTr l y_Tree_nodeAt w_Tree_nodeAt rm_Tree_nodeAt D (tysX dA) (enX dA b) 367 b (qX adK adV 367 b) 7 [qr (some 1), qi a1] M (out, M) := by
  refine qm_r (tt := 7) (cc := prog_11_method_4_code) (nL := 2) (by decide) rfl (Or.inl ⟨_, rfl⟩) (Nat.le_of_ble_eq_true rfl) ?_
  intro p e s m args below meth c Q hx hb hts0 hown hml hK hs hret
  have hts : ∀ w ∈ lw_g, w.before args s = true := fun w h => hts0 w (List.mem_cons_of_mem _ h)
  show QJ p l e rm_Tree_nodeAt s m args below meth c (qA 367 b) b 2 0 0 Q (qWd D (enX dA b) 367 b) M 0 [(0, qr (some 1)), (1, qi a1)] []
  unfold f_Tree_nodeAt at hf
  refine qj_aload_n hx hb d_Tree_nodeAt_0 rfl 0 rfl ?_
  refine qj_get hx hb hts hin_5 hown hK (q_in (rfl : tcX 1 = 1) (by decide)) (en_1 (rfl : tcX 1 = 1)) rfl 7 (by decide) (hts _ tw_42) (fun _ h => h) (qi (M.1 1 7)) rfl d_Tree_nodeAt_1 ?_
  refine qj_if_ne (tgt := 19) hx hb d_Tree_nodeAt_4 (by decide) (fun hc1 => ?_) (fun hc1 => ?_)
  · replace hf := q_if_f hc1 hf
    refine qj_null hx hb d_Tree_nodeAt_19 ?_
    refine qj_goto (tgt := 29) hx hb d_Tree_nodeAt_20 (by decide) ?_
    exact hret _ _ _ _ q_tn d_Tree_nodeAt_29 (congrArg (fun z => (z, M)) (Option.some.inj hf))
  · replace hf := q_if_t hc1 hf
    refine qj_iload_n hx hb d_Tree_nodeAt_7 rfl 1 rfl ?_
    refine qj_if_lt (tgt := 19) hx hb d_Tree_nodeAt_8 (by decide) (fun hc2 => ?_) (fun hc2 => ?_)
    · replace hf := q_if_t hc2 hf
      refine qj_null hx hb d_Tree_nodeAt_19 ?_
      refine qj_goto (tgt := 29) hx hb d_Tree_nodeAt_20 (by decide) ?_
      exact hret _ _ _ _ q_tn d_Tree_nodeAt_29 (congrArg (fun z => (z, M)) (Option.some.inj hf))
    · replace hf := q_if_f hc2 hf
      refine qj_iload_n hx hb d_Tree_nodeAt_11 rfl 1 rfl ?_
      refine qj_aload_n hx hb d_Tree_nodeAt_12 rfl 0 rfl ?_
      refine qj_get hx hb hts hin_5 hown hK (q_in (rfl : tcX 1 = 1) (by decide)) (en_1 (rfl : tcX 1 = 1)) rfl 5 (by decide) (hts _ tw_35) (fun _ h => h) (qi (M.1 1 5)) rfl d_Tree_nodeAt_13 ?_
      refine qj_icmp_lt (tgt := 23) hx hb d_Tree_nodeAt_16 (by decide) (fun hc3 => ?_) (fun hc3 => ?_)
      · replace hf := q_if_t hc3 hf
        refine qj_aload_n hx hb d_Tree_nodeAt_23 rfl 0 rfl ?_
        refine qj_get hx hb hts hin_5 hown hK (q_in (rfl : tcX 1 = 1) (by decide)) (en_1 (rfl : tcX 1 = 1)) rfl 1 (by decide) (hts _ tw_231) (fun _ h => h) (qr (some 3)) rfl d_Tree_nodeAt_24 ?_
        refine qj_iload_n hx hb d_Tree_nodeAt_27 rfl 1 rfl ?_
        have hf9 := q_ix_s hf; clear hf; obtain ⟨hi4, hf⟩ := hf9
        have hf9 := q_lt_s hf; clear hf; obtain ⟨r5, er5, hf⟩ := hf9
        refine qj_w fun w => ?_
        have tr5 : ∀ o, r5 = some o → tcX o = 7 := fun o h => (w _ _ o (er5.symm.trans h)).trans (by rw [(rfl : tcX 3 = 3)] <;> rfl)
        refine qj_aald (t0 := 3) (f := M.2 3) hx hb hK (q_in (rfl : tcX 3 = 3) (by decide)) (en_3 (rfl : tcX 3 = 3) _ _) rfl hi4 d_Tree_nodeAt_28 ?_
        rw [← er5]
        exact hret _ _ _ _ tr5 d_Tree_nodeAt_29 (congrArg (fun z => (z, M)) (Option.some.inj hf))
      · replace hf := q_if_f hc3 hf
        refine qj_null hx hb d_Tree_nodeAt_19 ?_
        refine qj_goto (tgt := 29) hx hb d_Tree_nodeAt_20 (by decide) ?_
        exact hret _ _ _ _ q_tn d_Tree_nodeAt_29 (congrArg (fun z => (z, M)) (Option.some.inj hf))
theorem d_Pg_name_0 : decode prog_1_method_6_code 0 = .ok (.aload_n 0, 1) := by decide +kernel
theorem d_Pg_name_1 : decode prog_1_method_6_code 1 = .ok (.getfield 10, 3) := by decide +kernel
theorem d_Pg_name_4 : decode prog_1_method_6_code 4 = .ok (.iload_n 1, 1) := by decide +kernel
theorem d_Pg_name_5 : decode prog_1_method_6_code 5 = .ok (.invokevirtual 71, 3) := by decide +kernel
theorem d_Pg_name_8 : decode prog_1_method_6_code 8 = .ok (.astore_n 2, 1) := by decide +kernel
theorem d_Pg_name_9 : decode prog_1_method_6_code 9 = .ok (.aload_n 2, 1) := by decide +kernel
theorem d_Pg_name_10 : decode prog_1_method_6_code 10 = .ok (.ifnonnull 7, 3) := by decide +kernel
theorem d_Pg_name_13 : decode prog_1_method_6_code 13 = .ok (.iconst (-1), 1) := by decide +kernel
theorem d_Pg_name_14 : decode prog_1_method_6_code 14 = .ok (.goto 7, 3) := by decide +kernel
theorem d_Pg_name_17 : decode prog_1_method_6_code 17 = .ok (.aload_n 2, 1) := by decide +kernel
theorem d_Pg_name_18 : decode prog_1_method_6_code 18 = .ok (.getfield 75, 3) := by decide +kernel
theorem d_Pg_name_21 : decode prog_1_method_6_code 21 = .ok (.ireturn, 1) := by decide +kernel
def f_Pg_name (a1 : Int32) (M : qM) : Option Int32 := q_bp (f_Tree_nodeAt a1 M) fun r1 => q_on r1 (some (-1)) fun o2 => (some (M.1 o2 0))
abbrev rm_Pg_name : Room := { frames := 1, cells := 0, slots := 0, locals := 21 }
set_option maxRecDepth 100000 in
set_option maxHeartbeats 4000000 in
theorem c_Pg_name {l : Launch} {D : va_G} {dA : Nat → ClassId} {b : Nat} {adK adV : Nat → Nat} (a1 : Int32)  (M : qM) (out : Int32) (hf : f_Pg_name a1 M = some out) : CTi l y_Pg_name w_Pg_name rm_Pg_name D (tysX dA) (enX dA b) 367 b (qX adK adV 367 b) [qr (some 0), qi a1] M (out, M) := by
  refine qm_i (cc := prog_1_method_6_code) (nL := 3) (by decide) rfl (Nat.le_of_ble_eq_true rfl) ?_
  intro p e s m args below meth c Q hx hb hts0 hown hml hK hs hret
  have hts : ∀ w ∈ lw_g, w.before args s = true := fun w h => hts0 w (List.mem_cons_of_mem _ h)
  show QJ p l e rm_Pg_name s m args below meth c (qA 367 b) b 3 0 0 Q (qWd D (enX dA b) 367 b) M 0 [(0, qr (some 0)), (1, qi a1)] []
  unfold f_Pg_name at hf
  refine qj_aload_n hx hb d_Pg_name_0 rfl 0 rfl ?_
  refine qj_get hx hb hts hin_11 hown hK (q_in (rfl : tcX 0 = 0) (by decide)) (en_0 (rfl : tcX 0 = 0)) rfl 0 (by decide) (hts _ tw_240) (fun _ h => h) (qr (some 1)) rfl d_Pg_name_1 ?_
  refine qj_iload_n hx hb d_Pg_name_4 rfl 1 rfl ?_
  have hf9 := q_bp_s hf; clear hf; obtain ⟨r1, hr1, hf⟩ := hf9
  refine qc_Vr (st := []) hx hb hml hown hts hK (qX_ok _ _ _ _) hs (c_Tree_nodeAt a1 M _ hr1) ⟨(callB_of 1 hts (q_good tw_330) rfl rfl rfl (hts _ tw_54) (hts _ tw_331) (by decide +kernel) ⟨by decide, by decide⟩), (hts _ tw_332), (hts _ tw_333)⟩ (q_in (rfl : tcX 1 = 1) (by decide)) (en_1 (rfl : tcX 1 = 1)) rfl rfl rfl (Nat.le_of_ble_eq_true rfl) d_Pg_name_5 (fun tr1 => ?_)
  refine qj_astore_n hx hb d_Pg_name_8 rfl (by decide) rfl ?_
  refine qj_aload_n hx hb d_Pg_name_9 rfl 0 rfl ?_
  refine qj_ifnonnull (tgt := 17) hx hb d_Pg_name_10 (by decide) (fun o2 hn3 => ?_) (fun hn3 => ?_)
  · subst hn3
    replace hf := q_on_s hf
    refine qj_aload_n hx hb d_Pg_name_17 rfl 0 rfl ?_
    refine qj_get hx hb hts hin_3 hown hK (q_in (tr1 _ rfl) (by decide)) (en_7 (tr1 _ rfl)) rfl 0 (by decide) (hts _ tw_334) (fun _ h => h) (qi (M.1 o2 0)) rfl d_Pg_name_18 ?_
    exact hret _ _ _ _ d_Pg_name_21 (congrArg (fun z => (z, M)) (Option.some.inj hf))
  · subst hn3
    replace hf := q_on_n hf
    refine qj_iconst (v := (-1)) hx hb d_Pg_name_13 (by decide) ?_
    refine qj_goto (tgt := 21) hx hb d_Pg_name_14 (by decide) ?_
    exact hret _ _ _ _ d_Pg_name_21 (congrArg (fun z => (z, M)) (Option.some.inj hf))
theorem d_Pg_parent_0 : decode prog_1_method_7_code 0 = .ok (.aload_n 0, 1) := by decide +kernel
theorem d_Pg_parent_1 : decode prog_1_method_7_code 1 = .ok (.getfield 10, 3) := by decide +kernel
theorem d_Pg_parent_4 : decode prog_1_method_7_code 4 = .ok (.iload_n 1, 1) := by decide +kernel
theorem d_Pg_parent_5 : decode prog_1_method_7_code 5 = .ok (.invokevirtual 71, 3) := by decide +kernel
theorem d_Pg_parent_8 : decode prog_1_method_7_code 8 = .ok (.astore_n 2, 1) := by decide +kernel
theorem d_Pg_parent_9 : decode prog_1_method_7_code 9 = .ok (.aload_n 2, 1) := by decide +kernel
theorem d_Pg_parent_10 : decode prog_1_method_7_code 10 = .ok (.ifnull 10, 3) := by decide +kernel
theorem d_Pg_parent_13 : decode prog_1_method_7_code 13 = .ok (.aload_n 2, 1) := by decide +kernel
theorem d_Pg_parent_14 : decode prog_1_method_7_code 14 = .ok (.getfield 80, 3) := by decide +kernel
theorem d_Pg_parent_17 : decode prog_1_method_7_code 17 = .ok (.ifnonnull 7, 3) := by decide +kernel
theorem d_Pg_parent_20 : decode prog_1_method_7_code 20 = .ok (.iconst (-1), 1) := by decide +kernel
theorem d_Pg_parent_21 : decode prog_1_method_7_code 21 = .ok (.goto 10, 3) := by decide +kernel
theorem d_Pg_parent_24 : decode prog_1_method_7_code 24 = .ok (.aload_n 2, 1) := by decide +kernel
theorem d_Pg_parent_25 : decode prog_1_method_7_code 25 = .ok (.getfield 80, 3) := by decide +kernel
theorem d_Pg_parent_28 : decode prog_1_method_7_code 28 = .ok (.getfield 84, 3) := by decide +kernel
theorem d_Pg_parent_31 : decode prog_1_method_7_code 31 = .ok (.ireturn, 1) := by decide +kernel
def f_Pg_parent (a1 : Int32) (M : qM) : Option Int32 := q_bp (f_Tree_nodeAt a1 M) fun r1 => q_on r1 (some (-1)) fun o2 => (q_lt (M.2 o2 4) fun r3 => q_on r3 (some (-1)) fun o4 => (q_lt (M.2 o2 4) fun r5 => q_nn r5 fun o6 => some (M.1 o6 2)))
abbrev rm_Pg_parent : Room := { frames := 1, cells := 0, slots := 0, locals := 21 }
set_option maxRecDepth 100000 in
set_option maxHeartbeats 4000000 in
theorem c_Pg_parent {l : Launch} {D : va_G} {dA : Nat → ClassId} {b : Nat} {adK adV : Nat → Nat} (a1 : Int32)  (M : qM) (out : Int32) (hf : f_Pg_parent a1 M = some out) : CTi l y_Pg_parent w_Pg_parent rm_Pg_parent D (tysX dA) (enX dA b) 367 b (qX adK adV 367 b) [qr (some 0), qi a1] M (out, M) := by
  refine qm_i (cc := prog_1_method_7_code) (nL := 3) (by decide) rfl (Nat.le_of_ble_eq_true rfl) ?_
  intro p e s m args below meth c Q hx hb hts0 hown hml hK hs hret
  have hts : ∀ w ∈ lw_g, w.before args s = true := fun w h => hts0 w (List.mem_cons_of_mem _ h)
  show QJ p l e rm_Pg_parent s m args below meth c (qA 367 b) b 3 0 0 Q (qWd D (enX dA b) 367 b) M 0 [(0, qr (some 0)), (1, qi a1)] []
  unfold f_Pg_parent at hf
  refine qj_aload_n hx hb d_Pg_parent_0 rfl 0 rfl ?_
  refine qj_get hx hb hts hin_11 hown hK (q_in (rfl : tcX 0 = 0) (by decide)) (en_0 (rfl : tcX 0 = 0)) rfl 0 (by decide) (hts _ tw_240) (fun _ h => h) (qr (some 1)) rfl d_Pg_parent_1 ?_
  refine qj_iload_n hx hb d_Pg_parent_4 rfl 1 rfl ?_
  have hf9 := q_bp_s hf; clear hf; obtain ⟨r1, hr1, hf⟩ := hf9
  refine qc_Vr (st := []) hx hb hml hown hts hK (qX_ok _ _ _ _) hs (c_Tree_nodeAt a1 M _ hr1) ⟨(callB_of 1 hts (q_good tw_330) rfl rfl rfl (hts _ tw_54) (hts _ tw_331) (by decide +kernel) ⟨by decide, by decide⟩), (hts _ tw_332), (hts _ tw_333)⟩ (q_in (rfl : tcX 1 = 1) (by decide)) (en_1 (rfl : tcX 1 = 1)) rfl rfl rfl (Nat.le_of_ble_eq_true rfl) d_Pg_parent_5 (fun tr1 => ?_)
  refine qj_astore_n hx hb d_Pg_parent_8 rfl (by decide) rfl ?_
  refine qj_aload_n hx hb d_Pg_parent_9 rfl 0 rfl ?_
  refine qj_ifnull (tgt := 20) hx hb d_Pg_parent_10 (by decide) (fun hn8 => ?_) (fun o2 hn8 => ?_)
  · subst hn8
    replace hf := q_on_n hf
    refine qj_iconst (v := (-1)) hx hb d_Pg_parent_20 (by decide) ?_
    refine qj_goto (tgt := 31) hx hb d_Pg_parent_21 (by decide) ?_
    exact hret _ _ _ _ d_Pg_parent_31 (congrArg (fun z => (z, M)) (Option.some.inj hf))
  · subst hn8
    replace hf := q_on_s hf
    refine qj_aload_n hx hb d_Pg_parent_13 rfl 0 rfl ?_
    have hf9 := q_lt_s hf; clear hf; obtain ⟨r3, er3, hf⟩ := hf9
    refine qj_w fun w => ?_
    have tr3 : ∀ o, r3 = some o → tcX o = 7 := fun o h => (w _ _ o (er3.symm.trans h)).trans (by rw [(tr1 _ rfl)] <;> rfl)
    refine qj_get hx hb hts hin_3 hown hK (q_in (tr1 _ rfl) (by decide)) (en_7 (tr1 _ rfl)) rfl 4 (by decide) (hts _ tw_335) (fun _ h => h) (qr r3) (by rw [er3]; rfl) d_Pg_parent_14 ?_
    refine qj_ifnonnull (tgt := 24) hx hb d_Pg_parent_17 (by decide) (fun o4 hn7 => ?_) (fun hn7 => ?_)
    · subst hn7
      replace hf := q_on_s hf
      refine qj_aload_n hx hb d_Pg_parent_24 rfl 0 rfl ?_
      have hf9 := q_lt_s hf; clear hf; obtain ⟨r5, er5, hf⟩ := hf9
      refine qj_w fun w => ?_
      have tr5 : ∀ o, r5 = some o → tcX o = 7 := fun o h => (w _ _ o (er5.symm.trans h)).trans (by rw [(tr1 _ rfl)] <;> rfl)
      refine qj_get hx hb hts hin_3 hown hK (q_in (tr1 _ rfl) (by decide)) (en_7 (tr1 _ rfl)) rfl 4 (by decide) (hts _ tw_335) (fun _ h => h) (qr r5) (by rw [er5]; rfl) d_Pg_parent_25 ?_
      have hf9 := q_nn_s hf; clear hf; obtain ⟨o6, rfl, hf⟩ := hf9
      refine qj_get hx hb hts hin_3 hown hK (q_in (tr5 _ rfl) (by decide)) (en_7 (tr5 _ rfl)) rfl 2 (by decide) (hts _ tw_336) (fun _ h => h) (qi (M.1 o6 2)) rfl d_Pg_parent_28 ?_
      exact hret _ _ _ _ d_Pg_parent_31 (congrArg (fun z => (z, M)) (Option.some.inj hf))
    · subst hn7
      replace hf := q_on_n hf
      refine qj_iconst (v := (-1)) hx hb d_Pg_parent_20 (by decide) ?_
      refine qj_goto (tgt := 31) hx hb d_Pg_parent_21 (by decide) ?_
      exact hret _ _ _ _ d_Pg_parent_31 (congrArg (fun z => (z, M)) (Option.some.inj hf))
theorem d_Pg_classes_0 : decode prog_1_method_8_code 0 = .ok (.aload_n 0, 1) := by decide +kernel
theorem d_Pg_classes_1 : decode prog_1_method_8_code 1 = .ok (.getfield 10, 3) := by decide +kernel
theorem d_Pg_classes_4 : decode prog_1_method_8_code 4 = .ok (.iload_n 1, 1) := by decide +kernel
theorem d_Pg_classes_5 : decode prog_1_method_8_code 5 = .ok (.invokevirtual 71, 3) := by decide +kernel
theorem d_Pg_classes_8 : decode prog_1_method_8_code 8 = .ok (.astore_n 2, 1) := by decide +kernel
theorem d_Pg_classes_9 : decode prog_1_method_8_code 9 = .ok (.aload_n 2, 1) := by decide +kernel
theorem d_Pg_classes_10 : decode prog_1_method_8_code 10 = .ok (.ifnonnull 7, 3) := by decide +kernel
theorem d_Pg_classes_13 : decode prog_1_method_8_code 13 = .ok (.iconst (-1), 1) := by decide +kernel
theorem d_Pg_classes_14 : decode prog_1_method_8_code 14 = .ok (.goto 7, 3) := by decide +kernel
theorem d_Pg_classes_17 : decode prog_1_method_8_code 17 = .ok (.aload_n 2, 1) := by decide +kernel
theorem d_Pg_classes_18 : decode prog_1_method_8_code 18 = .ok (.getfield 86, 3) := by decide +kernel
theorem d_Pg_classes_21 : decode prog_1_method_8_code 21 = .ok (.ireturn, 1) := by decide +kernel
def f_Pg_classes (a1 : Int32) (M : qM) : Option Int32 := q_bp (f_Tree_nodeAt a1 M) fun r1 => q_on r1 (some (-1)) fun o2 => (some (M.1 o2 1))
abbrev rm_Pg_classes : Room := { frames := 1, cells := 0, slots := 0, locals := 21 }
set_option maxRecDepth 100000 in
set_option maxHeartbeats 4000000 in
theorem c_Pg_classes {l : Launch} {D : va_G} {dA : Nat → ClassId} {b : Nat} {adK adV : Nat → Nat} (a1 : Int32)  (M : qM) (out : Int32) (hf : f_Pg_classes a1 M = some out) : CTi l y_Pg_classes w_Pg_classes rm_Pg_classes D (tysX dA) (enX dA b) 367 b (qX adK adV 367 b) [qr (some 0), qi a1] M (out, M) := by
  refine qm_i (cc := prog_1_method_8_code) (nL := 3) (by decide) rfl (Nat.le_of_ble_eq_true rfl) ?_
  intro p e s m args below meth c Q hx hb hts0 hown hml hK hs hret
  have hts : ∀ w ∈ lw_g, w.before args s = true := fun w h => hts0 w (List.mem_cons_of_mem _ h)
  show QJ p l e rm_Pg_classes s m args below meth c (qA 367 b) b 3 0 0 Q (qWd D (enX dA b) 367 b) M 0 [(0, qr (some 0)), (1, qi a1)] []
  unfold f_Pg_classes at hf
  refine qj_aload_n hx hb d_Pg_classes_0 rfl 0 rfl ?_
  refine qj_get hx hb hts hin_11 hown hK (q_in (rfl : tcX 0 = 0) (by decide)) (en_0 (rfl : tcX 0 = 0)) rfl 0 (by decide) (hts _ tw_240) (fun _ h => h) (qr (some 1)) rfl d_Pg_classes_1 ?_
  refine qj_iload_n hx hb d_Pg_classes_4 rfl 1 rfl ?_
  have hf9 := q_bp_s hf; clear hf; obtain ⟨r1, hr1, hf⟩ := hf9
  refine qc_Vr (st := []) hx hb hml hown hts hK (qX_ok _ _ _ _) hs (c_Tree_nodeAt a1 M _ hr1) ⟨(callB_of 1 hts (q_good tw_330) rfl rfl rfl (hts _ tw_54) (hts _ tw_331) (by decide +kernel) ⟨by decide, by decide⟩), (hts _ tw_332), (hts _ tw_333)⟩ (q_in (rfl : tcX 1 = 1) (by decide)) (en_1 (rfl : tcX 1 = 1)) rfl rfl rfl (Nat.le_of_ble_eq_true rfl) d_Pg_classes_5 (fun tr1 => ?_)
  refine qj_astore_n hx hb d_Pg_classes_8 rfl (by decide) rfl ?_
  refine qj_aload_n hx hb d_Pg_classes_9 rfl 0 rfl ?_
  refine qj_ifnonnull (tgt := 17) hx hb d_Pg_classes_10 (by decide) (fun o2 hn3 => ?_) (fun hn3 => ?_)
  · subst hn3
    replace hf := q_on_s hf
    refine qj_aload_n hx hb d_Pg_classes_17 rfl 0 rfl ?_
    refine qj_get hx hb hts hin_3 hown hK (q_in (tr1 _ rfl) (by decide)) (en_7 (tr1 _ rfl)) rfl 1 (by decide) (hts _ tw_337) (fun _ h => h) (qi (M.1 o2 1)) rfl d_Pg_classes_18 ?_
    exact hret _ _ _ _ d_Pg_classes_21 (congrArg (fun z => (z, M)) (Option.some.inj hf))
  · subst hn3
    replace hf := q_on_n hf
    refine qj_iconst (v := (-1)) hx hb d_Pg_classes_13 (by decide) ?_
    refine qj_goto (tgt := 21) hx hb d_Pg_classes_14 (by decide) ?_
    exact hret _ _ _ _ d_Pg_classes_21 (congrArg (fun z => (z, M)) (Option.some.inj hf))
theorem d_Tree_letterAt_0 : decode prog_11_method_5_code 0 = .ok (.aload_n 0, 1) := by decide +kernel
theorem d_Tree_letterAt_1 : decode prog_11_method_5_code 1 = .ok (.iload_n 1, 1) := by decide +kernel
theorem d_Tree_letterAt_2 : decode prog_11_method_5_code 2 = .ok (.invokevirtual 70, 3) := by decide +kernel
theorem d_Tree_letterAt_5 : decode prog_11_method_5_code 5 = .ok (.astore_n 3, 1) := by decide +kernel
theorem d_Tree_letterAt_6 : decode prog_11_method_5_code 6 = .ok (.aload_n 3, 1) := by decide +kernel
theorem d_Tree_letterAt_7 : decode prog_11_method_5_code 7 = .ok (.ifnull 7, 3) := by decide +kernel
theorem d_Tree_letterAt_10 : decode prog_11_method_5_code 10 = .ok (.iload_n 2, 1) := by decide +kernel
theorem d_Tree_letterAt_11 : decode prog_11_method_5_code 11 = .ok (.ifCond .ge 5, 3) := by decide +kernel
theorem d_Tree_letterAt_14 : decode prog_11_method_5_code 14 = .ok (.aconst_null, 1) := by decide +kernel
theorem d_Tree_letterAt_15 : decode prog_11_method_5_code 15 = .ok (.areturn, 1) := by decide +kernel
theorem d_Tree_letterAt_16 : decode prog_11_method_5_code 16 = .ok (.aload_n 3, 1) := by decide +kernel
theorem d_Tree_letterAt_17 : decode prog_11_method_5_code 17 = .ok (.getfield 74, 3) := by decide +kernel
theorem d_Tree_letterAt_20 : decode prog_11_method_5_code 20 = .ok (.astore 4, 2) := by decide +kernel
theorem d_Tree_letterAt_22 : decode prog_11_method_5_code 22 = .ok (.iconst 0, 1) := by decide +kernel
theorem d_Tree_letterAt_23 : decode prog_11_method_5_code 23 = .ok (.istore 5, 2) := by decide +kernel
theorem d_Tree_letterAt_25 : decode prog_11_method_5_code 25 = .ok (.iload 5, 2) := by decide +kernel
theorem d_Tree_letterAt_27 : decode prog_11_method_5_code 27 = .ok (.iload_n 2, 1) := by decide +kernel
theorem d_Tree_letterAt_28 : decode prog_11_method_5_code 28 = .ok (.if_icmp .ge 21, 3) := by decide +kernel
theorem d_Tree_letterAt_31 : decode prog_11_method_5_code 31 = .ok (.aload 4, 2) := by decide +kernel
theorem d_Tree_letterAt_33 : decode prog_11_method_5_code 33 = .ok (.ifnull 16, 3) := by decide +kernel
theorem d_Tree_letterAt_36 : decode prog_11_method_5_code 36 = .ok (.aload 4, 2) := by decide +kernel
theorem d_Tree_letterAt_38 : decode prog_11_method_5_code 38 = .ok (.getfield 78, 3) := by decide +kernel
theorem d_Tree_letterAt_41 : decode prog_11_method_5_code 41 = .ok (.astore 4, 2) := by decide +kernel
theorem d_Tree_letterAt_43 : decode prog_11_method_5_code 43 = .ok (.iinc 5 1, 3) := by decide +kernel
theorem d_Tree_letterAt_46 : decode prog_11_method_5_code 46 = .ok (.goto (-21), 3) := by decide +kernel
theorem d_Tree_letterAt_49 : decode prog_11_method_5_code 49 = .ok (.aload 4, 2) := by decide +kernel
theorem d_Tree_letterAt_51 : decode prog_11_method_5_code 51 = .ok (.areturn, 1) := by decide +kernel
def f_Tree_letterAt_25 (a2 : Int32) (M : qM) : Nat → (Option Nat → Option (Option Nat)) → Option Nat → Int32 → Option (Option Nat)
  | 0, _, _, _ => none
  | n + 1, K7, r5, x6 => if a2 ≤ x6 then (K7 r5) else (q_on r5 (K7 none) fun o9 => (q_lt (M.2 o9 1) fun r10 => f_Tree_letterAt_25 a2 M n K7 r10 (x6 + 1)))
def f_Tree_letterAt (a1 : Int32) (a2 : Int32) (M : qM) : Option (Option Nat) := q_bp (f_Tree_nodeAt a1 M) fun r1 => q_on r1 (some none) fun o2 => (if 0 ≤ a2 then (q_lt (M.2 o2 9) fun r4 => f_Tree_letterAt_25 a2 M 1000 (fun (r12 : Option Nat) => some r12) r4 0) else (some none))
abbrev rm_Tree_letterAt : Room := { frames := 1, cells := 0, slots := 0, locals := 21 }
set_option maxRecDepth 100000 in
set_option maxHeartbeats 4000000 in
theorem c_Tree_letterAt {l : Launch} {D : va_G} {dA : Nat → ClassId} {b : Nat} {adK adV : Nat → Nat} (a1 : Int32) (a2 : Int32)  (M : qM) (out : Option Nat) (hf : f_Tree_letterAt a1 a2 M = some out) : CTr l y_Tree_letterAt w_Tree_letterAt rm_Tree_letterAt D (tysX dA) (enX dA b) 367 b (qX adK adV 367 b) 12 [qr (some 1), qi a1, qi a2] M (out, M) := by
  refine qm_r (tt := 12) (cc := prog_11_method_5_code) (nL := 6) (by decide) rfl (Or.inl ⟨_, rfl⟩) (Nat.le_of_ble_eq_true rfl) ?_
  intro p e s m args below meth c Q hx hb hts0 hown hml hK hs hret
  have hts : ∀ w ∈ lw_g, w.before args s = true := fun w h => hts0 w (List.mem_cons_of_mem _ h)
  show QJ p l e rm_Tree_letterAt s m args below meth c (qA 367 b) b 6 0 0 Q (qWd D (enX dA b) 367 b) M 0 [(0, qr (some 1)), (1, qi a1), (2, qi a2)] []
  unfold f_Tree_letterAt at hf
  refine qj_aload_n hx hb d_Tree_letterAt_0 rfl 0 rfl ?_
  refine qj_iload_n hx hb d_Tree_letterAt_1 rfl 1 rfl ?_
  have hf9 := q_bp_s hf; clear hf; obtain ⟨r1, hr1, hf⟩ := hf9
  refine qc_Vr (st := []) hx hb hml hown hts hK (qX_ok _ _ _ _) hs (c_Tree_nodeAt a1 M _ hr1) ⟨(callB_of 1 hts (q_good tw_330) rfl rfl rfl (hts _ tw_54) (hts _ tw_338) (by decide +kernel) ⟨by decide, by decide⟩), (hts _ tw_332), (hts _ tw_333)⟩ (q_in (rfl : tcX 1 = 1) (by decide)) (en_1 (rfl : tcX 1 = 1)) rfl rfl rfl (Nat.le_of_ble_eq_true rfl) d_Tree_letterAt_2 (fun tr1 => ?_)
  refine qj_astore_n hx hb d_Tree_letterAt_5 rfl (by decide) rfl ?_
  refine qj_aload_n hx hb d_Tree_letterAt_6 rfl 0 rfl ?_
  refine qj_ifnull (tgt := 14) hx hb d_Tree_letterAt_7 (by decide) (fun hn13 => ?_) (fun o2 hn13 => ?_)
  · subst hn13
    replace hf := q_on_n hf
    refine qj_null hx hb d_Tree_letterAt_14 ?_
    exact hret _ _ _ _ q_tn d_Tree_letterAt_15 (congrArg (fun z => (z, M)) (Option.some.inj hf))
  · subst hn13
    replace hf := q_on_s hf
    refine qj_iload_n hx hb d_Tree_letterAt_10 rfl 3 rfl ?_
    refine qj_if_ge (tgt := 16) hx hb d_Tree_letterAt_11 (by decide) (fun hc3 => ?_) (fun hc3 => ?_)
    · replace hf := q_if_t hc3 hf
      refine qj_aload_n hx hb d_Tree_letterAt_16 rfl 0 rfl ?_
      have hf9 := q_lt_s hf; clear hf; obtain ⟨r4, er4, hf⟩ := hf9
      refine qj_w fun w => ?_
      have tr4 : ∀ o, r4 = some o → tcX o = 12 := fun o h => (w _ _ o (er4.symm.trans h)).trans (by rw [(tr1 _ rfl)] <;> rfl)
      refine qj_get hx hb hts hin_3 hown hK (q_in (tr1 _ rfl) (by decide)) (en_7 (tr1 _ rfl)) rfl 9 (by decide) (hts _ tw_339) (fun _ h => h) (qr r4) (by rw [er4]; rfl) d_Tree_letterAt_17 ?_
      refine qj_astore hx hb d_Tree_letterAt_20 (by decide) rfl ?_
      refine qj_iconst (v := 0) hx hb d_Tree_letterAt_22 (by decide) ?_
      refine qj_istore hx hb d_Tree_letterAt_23 (by decide) rfl ?_
      have hL25 : ∀ (n : Nat) (K7 : Option Nat → Option (Option Nat)), (∀ (r12 : Option Nat), (∀ o, r12 = some o → tcX o = 12) → K7 r12 = some out → QJ p l e rm_Tree_letterAt s m args below meth c (qA 367 b) b 6 0 0 Q (qWd D (enX dA b) 367 b) M 49 [(4, qr r12)] []) → ∀ (r5 : Option Nat) (x6 : Int32), (∀ o, r5 = some o → tcX o = 12) → f_Tree_letterAt_25 a2 M n K7 r5 x6 = some out → QJ p l e rm_Tree_letterAt s m args below meth c (qA 367 b) b 6 0 0 Q (qWd D (enX dA b) 367 b) M 25 [(2, qi a2), (4, qr r5), (5, qi x6)] [] := by
        clear hf
        intro n
        induction n with
        | zero =>
          intro K7 hK7 r5 x6 tr5 hf
          exact absurd hf (by simp [f_Tree_letterAt_25])
        | succ n ih25 =>
          intro K7 hK7 r5 x6 tr5 hf
          rw [f_Tree_letterAt_25] at hf
          have ih25 := ih25 K7 hK7
          refine qj_iload hx hb d_Tree_letterAt_25 2 rfl ?_
          refine qj_iload_n hx hb d_Tree_letterAt_27 rfl 0 rfl ?_
          refine qj_icmp_ge (tgt := 49) hx hb d_Tree_letterAt_28 (by decide) (fun hc8 => ?_) (fun hc8 => ?_)
          · replace hf := q_if_t hc8 hf
            refine qj_sub [1] rfl ?_
            exact hK7 r5 tr5 hf
          · replace hf := q_if_f hc8 hf
            refine qj_aload hx hb d_Tree_letterAt_31 1 rfl ?_
            refine qj_ifnull (tgt := 49) hx hb d_Tree_letterAt_33 (by decide) (fun hn11 => ?_) (fun o9 hn11 => ?_)
            · subst hn11
              replace hf := q_on_n hf
              refine qj_sub [1] rfl ?_
              exact hK7 none q_tn hf
            · subst hn11
              replace hf := q_on_s hf
              refine qj_aload hx hb d_Tree_letterAt_36 1 rfl ?_
              have hf9 := q_lt_s hf; clear hf; obtain ⟨r10, er10, hf⟩ := hf9
              refine qj_w fun w => ?_
              have tr10 : ∀ o, r10 = some o → tcX o = 12 := fun o h => (w _ _ o (er10.symm.trans h)).trans (by rw [(tr5 _ rfl)] <;> rfl)
              refine qj_get hx hb hts hin_2 hown hK (q_in (tr5 _ rfl) (by decide)) (en_12 (tr5 _ rfl)) rfl 1 (by decide) (hts _ tw_99) (fun _ h => h) (qr r10) (by rw [er10]; rfl) d_Tree_letterAt_38 ?_
              refine qj_astore hx hb d_Tree_letterAt_41 (by decide) rfl ?_
              refine qj_iinc (j := 2) (v := x6 + 1) hx hb d_Tree_letterAt_43 rfl rfl (by decide) rfl ?_
              refine qj_goto (tgt := 25) hx hb d_Tree_letterAt_46 (by decide) ?_
              refine qj_sub [2, 1, 0] rfl ?_
              exact ih25 r10 (x6 + 1) tr10 hf
      refine qj_sub [5, 1, 0] rfl ?_
      refine hL25 _ _ (fun r12 tr12 hf9 => ?_) r4 0 tr4 hf
      clear hf; have hf := hf9; clear hf9
      refine qj_aload hx hb d_Tree_letterAt_49 0 rfl ?_
      exact hret _ _ _ _ tr12 d_Tree_letterAt_51 (congrArg (fun z => (z, M)) (Option.some.inj hf))
    · replace hf := q_if_f hc3 hf
      refine qj_null hx hb d_Tree_letterAt_14 ?_
      exact hret _ _ _ _ q_tn d_Tree_letterAt_15 (congrArg (fun z => (z, M)) (Option.some.inj hf))
theorem d_Pg_letter_0 : decode prog_1_method_9_code 0 = .ok (.aload_n 0, 1) := by decide +kernel
theorem d_Pg_letter_1 : decode prog_1_method_9_code 1 = .ok (.getfield 10, 3) := by decide +kernel
theorem d_Pg_letter_4 : decode prog_1_method_9_code 4 = .ok (.iload_n 1, 1) := by decide +kernel
theorem d_Pg_letter_5 : decode prog_1_method_9_code 5 = .ok (.iload_n 2, 1) := by decide +kernel
theorem d_Pg_letter_6 : decode prog_1_method_9_code 6 = .ok (.invokevirtual 89, 3) := by decide +kernel
theorem d_Pg_letter_9 : decode prog_1_method_9_code 9 = .ok (.astore_n 3, 1) := by decide +kernel
theorem d_Pg_letter_10 : decode prog_1_method_9_code 10 = .ok (.aload_n 3, 1) := by decide +kernel
theorem d_Pg_letter_11 : decode prog_1_method_9_code 11 = .ok (.ifnonnull 7, 3) := by decide +kernel
theorem d_Pg_letter_14 : decode prog_1_method_9_code 14 = .ok (.iconst (-1), 1) := by decide +kernel
theorem d_Pg_letter_15 : decode prog_1_method_9_code 15 = .ok (.goto 7, 3) := by decide +kernel
theorem d_Pg_letter_18 : decode prog_1_method_9_code 18 = .ok (.aload_n 3, 1) := by decide +kernel
theorem d_Pg_letter_19 : decode prog_1_method_9_code 19 = .ok (.getfield 93, 3) := by decide +kernel
theorem d_Pg_letter_22 : decode prog_1_method_9_code 22 = .ok (.ireturn, 1) := by decide +kernel
def f_Pg_letter (a1 : Int32) (a2 : Int32) (M : qM) : Option Int32 := q_bp (f_Tree_letterAt a1 a2 M) fun r1 => q_on r1 (some (-1)) fun o2 => (some (M.1 o2 0))
abbrev rm_Pg_letter : Room := { frames := 2, cells := 0, slots := 0, locals := 46 }
set_option maxRecDepth 100000 in
set_option maxHeartbeats 4000000 in
theorem c_Pg_letter {l : Launch} {D : va_G} {dA : Nat → ClassId} {b : Nat} {adK adV : Nat → Nat} (a1 : Int32) (a2 : Int32)  (M : qM) (out : Int32) (hf : f_Pg_letter a1 a2 M = some out) : CTi l y_Pg_letter w_Pg_letter rm_Pg_letter D (tysX dA) (enX dA b) 367 b (qX adK adV 367 b) [qr (some 0), qi a1, qi a2] M (out, M) := by
  refine qm_i (cc := prog_1_method_9_code) (nL := 4) (by decide) rfl (Nat.le_of_ble_eq_true rfl) ?_
  intro p e s m args below meth c Q hx hb hts0 hown hml hK hs hret
  have hts : ∀ w ∈ lw_g, w.before args s = true := fun w h => hts0 w (List.mem_cons_of_mem _ h)
  show QJ p l e rm_Pg_letter s m args below meth c (qA 367 b) b 4 0 0 Q (qWd D (enX dA b) 367 b) M 0 [(0, qr (some 0)), (1, qi a1), (2, qi a2)] []
  unfold f_Pg_letter at hf
  refine qj_aload_n hx hb d_Pg_letter_0 rfl 0 rfl ?_
  refine qj_get hx hb hts hin_11 hown hK (q_in (rfl : tcX 0 = 0) (by decide)) (en_0 (rfl : tcX 0 = 0)) rfl 0 (by decide) (hts _ tw_240) (fun _ h => h) (qr (some 1)) rfl d_Pg_letter_1 ?_
  refine qj_iload_n hx hb d_Pg_letter_4 rfl 1 rfl ?_
  refine qj_iload_n hx hb d_Pg_letter_5 rfl 2 rfl ?_
  have hf9 := q_bp_s hf; clear hf; obtain ⟨r1, hr1, hf⟩ := hf9
  refine qc_Vr (st := []) hx hb hml hown hts hK (qX_ok _ _ _ _) hs (c_Tree_letterAt a1 a2 M _ hr1) ⟨(callB_of 2 hts (q_good tw_340) rfl rfl rfl (hts _ tw_54) (hts _ tw_341) (by decide +kernel) ⟨by decide, by decide⟩), (hts _ tw_342), (hts _ tw_343)⟩ (q_in (rfl : tcX 1 = 1) (by decide)) (en_1 (rfl : tcX 1 = 1)) rfl rfl rfl (Nat.le_of_ble_eq_true rfl) d_Pg_letter_6 (fun tr1 => ?_)
  refine qj_astore_n hx hb d_Pg_letter_9 rfl (by decide) rfl ?_
  refine qj_aload_n hx hb d_Pg_letter_10 rfl 0 rfl ?_
  refine qj_ifnonnull (tgt := 18) hx hb d_Pg_letter_11 (by decide) (fun o2 hn3 => ?_) (fun hn3 => ?_)
  · subst hn3
    replace hf := q_on_s hf
    refine qj_aload_n hx hb d_Pg_letter_18 rfl 0 rfl ?_
    refine qj_get hx hb hts hin_2 hown hK (q_in (tr1 _ rfl) (by decide)) (en_12 (tr1 _ rfl)) rfl 0 (by decide) (hts _ tw_344) (fun _ h => h) (qi (M.1 o2 0)) rfl d_Pg_letter_19 ?_
    exact hret _ _ _ _ d_Pg_letter_22 (congrArg (fun z => (z, M)) (Option.some.inj hf))
  · subst hn3
    replace hf := q_on_n hf
    refine qj_iconst (v := (-1)) hx hb d_Pg_letter_14 (by decide) ?_
    refine qj_goto (tgt := 22) hx hb d_Pg_letter_15 (by decide) ?_
    exact hret _ _ _ _ d_Pg_letter_22 (congrArg (fun z => (z, M)) (Option.some.inj hf))
theorem d_Pg_open_0 : decode prog_1_method_10_code 0 = .ok (.aload_n 0, 1) := by decide +kernel
theorem d_Pg_open_1 : decode prog_1_method_10_code 1 = .ok (.getfield 10, 3) := by decide +kernel
theorem d_Pg_open_4 : decode prog_1_method_10_code 4 = .ok (.getfield 48, 3) := by decide +kernel
theorem d_Pg_open_7 : decode prog_1_method_10_code 7 = .ok (.ifCond .eq 7, 3) := by decide +kernel
theorem d_Pg_open_10 : decode prog_1_method_10_code 10 = .ok (.iconst (-1), 1) := by decide +kernel
theorem d_Pg_open_11 : decode prog_1_method_10_code 11 = .ok (.goto 13, 3) := by decide +kernel
theorem d_Pg_open_14 : decode prog_1_method_10_code 14 = .ok (.aload_n 0, 1) := by decide +kernel
theorem d_Pg_open_15 : decode prog_1_method_10_code 15 = .ok (.getfield 10, 3) := by decide +kernel
theorem d_Pg_open_18 : decode prog_1_method_10_code 18 = .ok (.getfield 98, 3) := by decide +kernel
theorem d_Pg_open_21 : decode prog_1_method_10_code 21 = .ok (.getfield 102, 3) := by decide +kernel
theorem d_Pg_open_24 : decode prog_1_method_10_code 24 = .ok (.ireturn, 1) := by decide +kernel
def f_Pg_open  (M : qM) : Option Int32 := if (M.1 1 7) = 0 then (some (M.1 5 1)) else (some (-1))
abbrev rm_Pg_open : Room := { frames := 0, cells := 0, slots := 0, locals := 0 }
set_option maxRecDepth 100000 in
set_option maxHeartbeats 4000000 in
theorem c_Pg_open {l : Launch} {D : va_G} {dA : Nat → ClassId} {b : Nat} {adK adV : Nat → Nat}   (M : qM) (out : Int32) (hf : f_Pg_open M = some out) : CTi l y_Pg_open w_Pg_open rm_Pg_open D (tysX dA) (enX dA b) 367 b (qX adK adV 367 b) [qr (some 0)] M (out, M) := by
  refine qm_i (cc := prog_1_method_10_code) (nL := 1) (by decide) rfl (Nat.le_of_ble_eq_true rfl) ?_
  intro p e s m args below meth c Q hx hb hts0 hown hml hK hs hret
  have hts : ∀ w ∈ lw_g, w.before args s = true := fun w h => hts0 w (List.mem_cons_of_mem _ h)
  show QJ p l e rm_Pg_open s m args below meth c (qA 367 b) b 1 0 0 Q (qWd D (enX dA b) 367 b) M 0 [(0, qr (some 0))] []
  unfold f_Pg_open at hf
  refine qj_aload_n hx hb d_Pg_open_0 rfl 0 rfl ?_
  refine qj_get hx hb hts hin_11 hown hK (q_in (rfl : tcX 0 = 0) (by decide)) (en_0 (rfl : tcX 0 = 0)) rfl 0 (by decide) (hts _ tw_240) (fun _ h => h) (qr (some 1)) rfl d_Pg_open_1 ?_
  refine qj_get hx hb hts hin_5 hown hK (q_in (rfl : tcX 1 = 1) (by decide)) (en_1 (rfl : tcX 1 = 1)) rfl 7 (by decide) (hts _ tw_241) (fun _ h => h) (qi (M.1 1 7)) rfl d_Pg_open_4 ?_
  refine qj_if_eq (tgt := 14) hx hb d_Pg_open_7 (by decide) (fun hc1 => ?_) (fun hc1 => ?_)
  · replace hf := q_if_t hc1 hf
    refine qj_aload_n hx hb d_Pg_open_14 rfl 0 rfl ?_
    refine qj_get hx hb hts hin_11 hown hK (q_in (rfl : tcX 0 = 0) (by decide)) (en_0 (rfl : tcX 0 = 0)) rfl 0 (by decide) (hts _ tw_240) (fun _ h => h) (qr (some 1)) rfl d_Pg_open_15 ?_
    refine qj_get hx hb hts hin_5 hown hK (q_in (rfl : tcX 1 = 1) (by decide)) (en_1 (rfl : tcX 1 = 1)) rfl 3 (by decide) (hts _ tw_345) (fun _ h => h) (qr (some 5)) rfl d_Pg_open_18 ?_
    refine qj_get hx hb hts hin_4 hown hK (q_in (rfl : tcX 5 = 5) (by decide)) (en_5 (rfl : tcX 5 = 5)) rfl 1 (by decide) (hts _ tw_346) (fun _ h => h) (qi (M.1 5 1)) rfl d_Pg_open_21 ?_
    exact hret _ _ _ _ d_Pg_open_24 (congrArg (fun z => (z, M)) (Option.some.inj hf))
  · replace hf := q_if_f hc1 hf
    refine qj_iconst (v := (-1)) hx hb d_Pg_open_10 (by decide) ?_
    refine qj_goto (tgt := 24) hx hb d_Pg_open_11 (by decide) ?_
    exact hret _ _ _ _ d_Pg_open_24 (congrArg (fun z => (z, M)) (Option.some.inj hf))
theorem d_Pg_rules_0 : decode prog_1_method_11_code 0 = .ok (.aload_n 0, 1) := by decide +kernel
theorem d_Pg_rules_1 : decode prog_1_method_11_code 1 = .ok (.getfield 26, 3) := by decide +kernel
theorem d_Pg_rules_4 : decode prog_1_method_11_code 4 = .ok (.getfield 107, 3) := by decide +kernel
theorem d_Pg_rules_7 : decode prog_1_method_11_code 7 = .ok (.ireturn, 1) := by decide +kernel
def f_Pg_rules  (M : qM) : Option Int32 := some (M.1 288 6)
abbrev rm_Pg_rules : Room := { frames := 0, cells := 0, slots := 0, locals := 0 }
set_option maxRecDepth 100000 in
set_option maxHeartbeats 4000000 in
theorem c_Pg_rules {l : Launch} {D : va_G} {dA : Nat → ClassId} {b : Nat} {adK adV : Nat → Nat}   (M : qM) (out : Int32) (hf : f_Pg_rules M = some out) : CTi l y_Pg_rules w_Pg_rules rm_Pg_rules D (tysX dA) (enX dA b) 367 b (qX adK adV 367 b) [qr (some 0)] M (out, M) := by
  refine qm_i (cc := prog_1_method_11_code) (nL := 1) (by decide) rfl (Nat.le_of_ble_eq_true rfl) ?_
  intro p e s m args below meth c Q hx hb hts0 hown hml hK hs hret
  have hts : ∀ w ∈ lw_g, w.before args s = true := fun w h => hts0 w (List.mem_cons_of_mem _ h)
  show QJ p l e rm_Pg_rules s m args below meth c (qA 367 b) b 1 0 0 Q (qWd D (enX dA b) 367 b) M 0 [(0, qr (some 0))] []
  unfold f_Pg_rules at hf
  refine qj_aload_n hx hb d_Pg_rules_0 rfl 0 rfl ?_
  refine qj_get hx hb hts hin_11 hown hK (q_in (rfl : tcX 0 = 0) (by decide)) (en_0 (rfl : tcX 0 = 0)) rfl 2 (by decide) (hts _ tw_307) (fun _ h => h) (qr (some 288)) rfl d_Pg_rules_1 ?_
  refine qj_get hx hb hts hin_8 hown hK (q_in (rfl : tcX 288 = 14) (by decide)) (en_14 (rfl : tcX 288 = 14)) rfl 6 (by decide) (hts _ tw_347) (fun _ h => h) (qi (M.1 288 6)) rfl d_Pg_rules_4 ?_
  exact hret _ _ _ _ d_Pg_rules_7 (congrArg (fun z => (z, M)) (Option.some.inj hf))
theorem d_Node_isElement_0 : decode prog_6_method_3_code 0 = .ok (.aload_n 0, 1) := by decide +kernel
theorem d_Node_isElement_1 : decode prog_6_method_3_code 1 = .ok (.getfield 29, 3) := by decide +kernel
theorem d_Node_isElement_4 : decode prog_6_method_3_code 4 = .ok (.ifCond .eq 15, 3) := by decide +kernel
theorem d_Node_isElement_7 : decode prog_6_method_3_code 7 = .ok (.aload_n 0, 1) := by decide +kernel
theorem d_Node_isElement_8 : decode prog_6_method_3_code 8 = .ok (.getfield 29, 3) := by decide +kernel
theorem d_Node_isElement_11 : decode prog_6_method_3_code 11 = .ok (.iconst 1, 1) := by decide +kernel
theorem d_Node_isElement_12 : decode prog_6_method_3_code 12 = .ok (.if_icmp .eq 7, 3) := by decide +kernel
theorem d_Node_isElement_15 : decode prog_6_method_3_code 15 = .ok (.iconst 1, 1) := by decide +kernel
theorem d_Node_isElement_16 : decode prog_6_method_3_code 16 = .ok (.goto 4, 3) := by decide +kernel
theorem d_Node_isElement_19 : decode prog_6_method_3_code 19 = .ok (.iconst 0, 1) := by decide +kernel
theorem d_Node_isElement_20 : decode prog_6_method_3_code 20 = .ok (.ireturn, 1) := by decide +kernel
def f_Node_isElement (q0 : Nat) (M : qM) : Option Int32 := if (M.1 q0 0) = 0 then (some 0) else (if (M.1 q0 0) = 1 then (some 0) else (some 1))
abbrev rm_Node_isElement : Room := { frames := 0, cells := 0, slots := 0, locals := 0 }
set_option maxRecDepth 100000 in
set_option maxHeartbeats 4000000 in
theorem c_Node_isElement {l : Launch} {D : va_G} {dA : Nat → ClassId} {b : Nat} {adK adV : Nat → Nat} (q0 : Nat) (tq0 : tcX q0 = 7) (M : qM) (out : Int32) (hf : f_Node_isElement q0 M = some out) : CTi l y_Node_isElement w_Node_isElement rm_Node_isElement D (tysX dA) (enX dA b) 367 b (qX adK adV 367 b) [qr (some q0)] M (out, M) := by
  refine qm_z (cc := prog_6_method_3_code) (nL := 1) (by decide) rfl (Nat.le_of_ble_eq_true rfl) ?_
  intro p e s m args below meth c Q hx hb hts0 hown hml hK hs hret
  have hts : ∀ w ∈ lw_g, w.before args s = true := fun w h => hts0 w (List.mem_cons_of_mem _ h)
  show QJ p l e rm_Node_isElement s m args below meth c (qA 367 b) b 1 0 0 Q (qWd D (enX dA b) 367 b) M 0 [(0, qr (some q0))] []
  unfold f_Node_isElement at hf
  refine qj_aload_n hx hb d_Node_isElement_0 rfl 0 rfl ?_
  refine qj_get hx hb hts hin_3 hown hK (q_in tq0 (by decide)) (en_7 tq0) rfl 0 (by decide) (hts _ tw_23) (fun _ h => h) (qi (M.1 q0 0)) rfl d_Node_isElement_1 ?_
  refine qj_if_eq (tgt := 19) hx hb d_Node_isElement_4 (by decide) (fun hc1 => ?_) (fun hc1 => ?_)
  · replace hf := q_if_t hc1 hf
    refine qj_iconst (v := 0) hx hb d_Node_isElement_19 (by decide) ?_
    exact hret _ _ _ _ (Or.inl rfl) d_Node_isElement_20 (congrArg (fun z => (z, M)) (Option.some.inj hf))
  · replace hf := q_if_f hc1 hf
    refine qj_aload_n hx hb d_Node_isElement_7 rfl 0 rfl ?_
    refine qj_get hx hb hts hin_3 hown hK (q_in tq0 (by decide)) (en_7 tq0) rfl 0 (by decide) (hts _ tw_23) (fun _ h => h) (qi (M.1 q0 0)) rfl d_Node_isElement_8 ?_
    refine qj_iconst (v := 1) hx hb d_Node_isElement_11 (by decide) ?_
    refine qj_icmp_eq (tgt := 19) hx hb d_Node_isElement_12 (by decide) (fun hc2 => ?_) (fun hc2 => ?_)
    · replace hf := q_if_t hc2 hf
      refine qj_iconst (v := 0) hx hb d_Node_isElement_19 (by decide) ?_
      exact hret _ _ _ _ (Or.inl rfl) d_Node_isElement_20 (congrArg (fun z => (z, M)) (Option.some.inj hf))
    · replace hf := q_if_f hc2 hf
      refine qj_iconst (v := 1) hx hb d_Node_isElement_15 (by decide) ?_
      refine qj_goto (tgt := 20) hx hb d_Node_isElement_16 (by decide) ?_
      exact hret _ _ _ _ (Or.inr rfl) d_Node_isElement_20 (congrArg (fun z => (z, M)) (Option.some.inj hf))
theorem d_Sheet_setDefaults_0 : decode prog_10_method_6_code 0 = .ok (.aload_n 0, 1) := by decide +kernel
theorem d_Sheet_setDefaults_1 : decode prog_10_method_6_code 1 = .ok (.getfield 76, 3) := by decide +kernel
theorem d_Sheet_setDefaults_4 : decode prog_10_method_6_code 4 = .ok (.astore_n 1, 1) := by decide +kernel
theorem d_Sheet_setDefaults_5 : decode prog_10_method_6_code 5 = .ok (.aload_n 0, 1) := by decide +kernel
theorem d_Sheet_setDefaults_6 : decode prog_10_method_6_code 6 = .ok (.getfield 80, 3) := by decide +kernel
theorem d_Sheet_setDefaults_9 : decode prog_10_method_6_code 9 = .ok (.astore_n 2, 1) := by decide +kernel
theorem d_Sheet_setDefaults_10 : decode prog_10_method_6_code 10 = .ok (.aload_n 1, 1) := by decide +kernel
theorem d_Sheet_setDefaults_11 : decode prog_10_method_6_code 11 = .ok (.iconst 0, 1) := by decide +kernel
theorem d_Sheet_setDefaults_12 : decode prog_10_method_6_code 12 = .ok (.aload_n 2, 1) := by decide +kernel
theorem d_Sheet_setDefaults_13 : decode prog_10_method_6_code 13 = .ok (.ifnonnull 7, 3) := by decide +kernel
theorem d_Sheet_setDefaults_16 : decode prog_10_method_6_code 16 = .ok (.iconst 1, 1) := by decide +kernel
theorem d_Sheet_setDefaults_17 : decode prog_10_method_6_code 17 = .ok (.goto 9, 3) := by decide +kernel
theorem d_Sheet_setDefaults_20 : decode prog_10_method_6_code 20 = .ok (.aload_n 2, 1) := by decide +kernel
theorem d_Sheet_setDefaults_21 : decode prog_10_method_6_code 21 = .ok (.getfield 76, 3) := by decide +kernel
theorem d_Sheet_setDefaults_24 : decode prog_10_method_6_code 24 = .ok (.iconst 0, 1) := by decide +kernel
theorem d_Sheet_setDefaults_25 : decode prog_10_method_6_code 25 = .ok (.iaload, 1) := by decide +kernel
theorem d_Sheet_setDefaults_26 : decode prog_10_method_6_code 26 = .ok (.iastore, 1) := by decide +kernel
theorem d_Sheet_setDefaults_27 : decode prog_10_method_6_code 27 = .ok (.aload_n 1, 1) := by decide +kernel
theorem d_Sheet_setDefaults_28 : decode prog_10_method_6_code 28 = .ok (.iconst 1, 1) := by decide +kernel
theorem d_Sheet_setDefaults_29 : decode prog_10_method_6_code 29 = .ok (.iconst 0, 1) := by decide +kernel
theorem d_Sheet_setDefaults_30 : decode prog_10_method_6_code 30 = .ok (.iastore, 1) := by decide +kernel
theorem d_Sheet_setDefaults_31 : decode prog_10_method_6_code 31 = .ok (.aload_n 1, 1) := by decide +kernel
theorem d_Sheet_setDefaults_32 : decode prog_10_method_6_code 32 = .ok (.iconst 2, 1) := by decide +kernel
theorem d_Sheet_setDefaults_33 : decode prog_10_method_6_code 33 = .ok (.aload_n 2, 1) := by decide +kernel
theorem d_Sheet_setDefaults_34 : decode prog_10_method_6_code 34 = .ok (.ifnonnull 7, 3) := by decide +kernel
theorem d_Sheet_setDefaults_37 : decode prog_10_method_6_code 37 = .ok (.iconst 1, 1) := by decide +kernel
theorem d_Sheet_setDefaults_38 : decode prog_10_method_6_code 38 = .ok (.goto 9, 3) := by decide +kernel
theorem d_Sheet_setDefaults_41 : decode prog_10_method_6_code 41 = .ok (.aload_n 2, 1) := by decide +kernel
theorem d_Sheet_setDefaults_42 : decode prog_10_method_6_code 42 = .ok (.getfield 76, 3) := by decide +kernel
theorem d_Sheet_setDefaults_45 : decode prog_10_method_6_code 45 = .ok (.iconst 2, 1) := by decide +kernel
theorem d_Sheet_setDefaults_46 : decode prog_10_method_6_code 46 = .ok (.iaload, 1) := by decide +kernel
theorem d_Sheet_setDefaults_47 : decode prog_10_method_6_code 47 = .ok (.iastore, 1) := by decide +kernel
theorem d_Sheet_setDefaults_48 : decode prog_10_method_6_code 48 = .ok (.aload_n 1, 1) := by decide +kernel
theorem d_Sheet_setDefaults_49 : decode prog_10_method_6_code 49 = .ok (.iconst 3, 1) := by decide +kernel
theorem d_Sheet_setDefaults_50 : decode prog_10_method_6_code 50 = .ok (.aload_n 0, 1) := by decide +kernel
theorem d_Sheet_setDefaults_51 : decode prog_10_method_6_code 51 = .ok (.getfield 60, 3) := by decide +kernel
theorem d_Sheet_setDefaults_54 : decode prog_10_method_6_code 54 = .ok (.ifCond .eq 15, 3) := by decide +kernel
theorem d_Sheet_setDefaults_57 : decode prog_10_method_6_code 57 = .ok (.aload_n 0, 1) := by decide +kernel
theorem d_Sheet_setDefaults_58 : decode prog_10_method_6_code 58 = .ok (.getfield 60, 3) := by decide +kernel
theorem d_Sheet_setDefaults_61 : decode prog_10_method_6_code 61 = .ok (.ldc 84, 2) := by decide +kernel
theorem d_Sheet_setDefaults_63 : decode prog_10_method_6_code 63 = .ok (.invokestatic 86, 3) := by decide +kernel
theorem d_Sheet_setDefaults_66 : decode prog_10_method_6_code 66 = .ok (.ifCond .eq 8, 3) := by decide +kernel
theorem d_Sheet_setDefaults_69 : decode prog_10_method_6_code 69 = .ok (.bipush 98, 2) := by decide +kernel
theorem d_Sheet_setDefaults_71 : decode prog_10_method_6_code 71 = .ok (.goto 5, 3) := by decide +kernel
theorem d_Sheet_setDefaults_74 : decode prog_10_method_6_code 74 = .ok (.bipush 105, 2) := by decide +kernel
theorem d_Sheet_setDefaults_76 : decode prog_10_method_6_code 76 = .ok (.iastore, 1) := by decide +kernel
theorem d_Sheet_setDefaults_77 : decode prog_10_method_6_code 77 = .ok (.aload_n 1, 1) := by decide +kernel
theorem d_Sheet_setDefaults_78 : decode prog_10_method_6_code 78 = .ok (.iconst 4, 1) := by decide +kernel
theorem d_Sheet_setDefaults_79 : decode prog_10_method_6_code 79 = .ok (.iconst 0, 1) := by decide +kernel
theorem d_Sheet_setDefaults_80 : decode prog_10_method_6_code 80 = .ok (.iastore, 1) := by decide +kernel
theorem d_Sheet_setDefaults_81 : decode prog_10_method_6_code 81 = .ok (.aload_n 1, 1) := by decide +kernel
theorem d_Sheet_setDefaults_82 : decode prog_10_method_6_code 82 = .ok (.iconst 5, 1) := by decide +kernel
theorem d_Sheet_setDefaults_83 : decode prog_10_method_6_code 83 = .ok (.iconst 0, 1) := by decide +kernel
theorem d_Sheet_setDefaults_84 : decode prog_10_method_6_code 84 = .ok (.iastore, 1) := by decide +kernel
theorem d_Sheet_setDefaults_85 : decode prog_10_method_6_code 85 = .ok (.aload_n 1, 1) := by decide +kernel
theorem d_Sheet_setDefaults_86 : decode prog_10_method_6_code 86 = .ok (.bipush 6, 2) := by decide +kernel
theorem d_Sheet_setDefaults_88 : decode prog_10_method_6_code 88 = .ok (.iconst (-1), 1) := by decide +kernel
theorem d_Sheet_setDefaults_89 : decode prog_10_method_6_code 89 = .ok (.iastore, 1) := by decide +kernel
theorem d_Sheet_setDefaults_90 : decode prog_10_method_6_code 90 = .ok (.return_, 1) := by decide +kernel
def f_Sheet_setDefaults (q0 : Nat) (M : qM) : Option qM := q_lt (M.2 q0 4) fun r1 => q_lt (fun (x2 : Int32) => q_ix (0 : Int32) 7 <| q_lt (qsI M (q0 + 3) (0 : Int32).toNatClampNeg x2) fun M4 => q_ix (1 : Int32) 7 <| q_lt (qsI M4 (q0 + 3) (1 : Int32).toNatClampNeg 0) fun M6 => q_lt (fun (x7 : Int32) => q_ix (2 : Int32) 7 <| q_lt (qsI M6 (q0 + 3) (2 : Int32).toNatClampNeg x7) fun M9 => q_lt (fun (x10 : Int32) => q_ix (3 : Int32) 7 <| q_lt (qsI M9 (q0 + 3) (3 : Int32).toNatClampNeg x10) fun M12 => q_ix (4 : Int32) 7 <| q_lt (qsI M12 (q0 + 3) (4 : Int32).toNatClampNeg 0) fun M14 => q_ix (5 : Int32) 7 <| q_lt (qsI M14 (q0 + 3) (5 : Int32).toNatClampNeg 0) fun M16 => q_ix (6 : Int32) 7 <| q_lt (qsI M16 (q0 + 3) (6 : Int32).toNatClampNeg (-1)) fun M18 => some M18) fun (j19 : Int32 → Option qM) => q_lt (j19 98) fun (j20 : Option qM) => if (M9.1 q0 0) = 0 then (j20) else (q_bp (f_Pg_isOneOf (M9.1 q0 0) 8 M9) fun x22 => if x22 = 0 then (j19 105) else (j20))) fun (j24 : Int32 → Option qM) => q_on r1 (j24 1) fun o25 => (q_ix (2 : Int32) 7 <| j24 (M6.1 (o25 + 3) (2 : Int32).toNatClampNeg))) fun (j28 : Int32 → Option qM) => q_on r1 (j28 1) fun o29 => (q_ix (0 : Int32) 7 <| j28 (M.1 (o29 + 3) (0 : Int32).toNatClampNeg))
abbrev rm_Sheet_setDefaults : Room := { frames := 11, cells := 0, slots := 0, locals := 442 }
set_option maxRecDepth 100000 in
set_option maxHeartbeats 4000000 in
theorem c_Sheet_setDefaults {l : Launch} {D : va_G} {dA : Nat → ClassId} {b : Nat} {adK adV : Nat → Nat} (q0 : Nat) (tq0 : tcX q0 = 7) (M : qM) (out : qM) (hf : f_Sheet_setDefaults q0 M = some out) : CTv l y_Sheet_setDefaults w_Sheet_setDefaults rm_Sheet_setDefaults D (tysX dA) (enX dA b) 367 b (qX adK adV 367 b) [qr (some q0)] M out := by
  refine qm_v (cc := prog_10_method_6_code) (nL := 3) (by decide) rfl (Nat.le_of_ble_eq_true rfl) ?_
  intro p e s m args below meth c Q hx hb hts0 hown hml hK hs hret
  have hts : ∀ w ∈ lw_g, w.before args s = true := fun w h => hts0 w (List.mem_cons_of_mem _ h)
  show QJ p l e rm_Sheet_setDefaults s m args below meth c (qA 367 b) b 3 0 0 Q (qWd D (enX dA b) 367 b) M 0 [(0, qr (some q0))] []
  unfold f_Sheet_setDefaults at hf
  refine qj_aload_n hx hb d_Sheet_setDefaults_0 rfl 0 rfl ?_
  refine qj_get hx hb hts hin_3 hown hK (q_in tq0 (by decide)) (en_7 tq0) rfl 12 (by decide) (hts _ tw_348) (fun _ h => h) (qr (some (q0 + 3))) rfl d_Sheet_setDefaults_1 ?_
  refine qj_astore_n hx hb d_Sheet_setDefaults_4 rfl (by decide) rfl ?_
  refine qj_aload_n hx hb d_Sheet_setDefaults_5 rfl 1 rfl ?_
  have hf9 := q_lt_s hf; clear hf; obtain ⟨r1, er1, hf⟩ := hf9
  refine qj_w fun w => ?_
  have tr1 : ∀ o, r1 = some o → tcX o = 7 := fun o h => (w _ _ o (er1.symm.trans h)).trans (by rw [tq0] <;> rfl)
  refine qj_get hx hb hts hin_3 hown hK (q_in tq0 (by decide)) (en_7 tq0) rfl 4 (by decide) (hts _ tw_349) (fun _ h => h) (qr r1) (by rw [er1]; rfl) d_Sheet_setDefaults_6 ?_
  refine qj_astore_n hx hb d_Sheet_setDefaults_9 rfl (by decide) rfl ?_
  refine qj_aload_n hx hb d_Sheet_setDefaults_10 rfl 1 rfl ?_
  refine qj_iconst (v := 0) hx hb d_Sheet_setDefaults_11 (by decide) ?_
  refine qj_aload_n hx hb d_Sheet_setDefaults_12 rfl 0 rfl ?_
  have hf9 := q_lt_s hf; clear hf; obtain ⟨j28, ej28, hf⟩ := hf9
  have hj28 : ∀ (x2 : Int32), j28 x2 = some out → QJ p l e rm_Sheet_setDefaults s m args below meth c (qA 367 b) b 3 0 0 Q (qWd D (enX dA b) 367 b) M 26 [(0, qr (some q0)), (1, qr (some (q0 + 3))), (2, qr r1)] [qi x2, qi 0, qr (some (q0 + 3))] := by
    clear hf
    intro x2 hf
    rw [ej28] at hf
    have hf9 := q_ix_s hf; clear hf; obtain ⟨hi3, hf⟩ := hf9
    have hf9 := q_lt_s hf; clear hf; obtain ⟨M4, eM4, hf⟩ := hf9
    refine qj_iast (t0 := 0) hx hb hK (q_in (tc_7_3 tq0) (by decide)) (en_10 (tc_7_3 tq0)) rfl hi3 eM4 d_Sheet_setDefaults_26 ?_
    refine qj_aload_n hx hb d_Sheet_setDefaults_27 rfl 1 rfl ?_
    refine qj_iconst (v := 1) hx hb d_Sheet_setDefaults_28 (by decide) ?_
    refine qj_iconst (v := 0) hx hb d_Sheet_setDefaults_29 (by decide) ?_
    have hf9 := q_ix_s hf; clear hf; obtain ⟨hi5, hf⟩ := hf9
    have hf9 := q_lt_s hf; clear hf; obtain ⟨M6, eM6, hf⟩ := hf9
    refine qj_iast (t0 := 0) hx hb hK (q_in (tc_7_3 tq0) (by decide)) (en_10 (tc_7_3 tq0)) rfl hi5 eM6 d_Sheet_setDefaults_30 ?_
    refine qj_aload_n hx hb d_Sheet_setDefaults_31 rfl 1 rfl ?_
    refine qj_iconst (v := 2) hx hb d_Sheet_setDefaults_32 (by decide) ?_
    refine qj_aload_n hx hb d_Sheet_setDefaults_33 rfl 2 rfl ?_
    have hf9 := q_lt_s hf; clear hf; obtain ⟨j24, ej24, hf⟩ := hf9
    have hj24 : ∀ (x7 : Int32), j24 x7 = some out → QJ p l e rm_Sheet_setDefaults s m args below meth c (qA 367 b) b 3 0 0 Q (qWd D (enX dA b) 367 b) M6 47 [(0, qr (some q0)), (1, qr (some (q0 + 3)))] [qi x7, qi 2, qr (some (q0 + 3))] := by
      clear hf
      intro x7 hf
      rw [ej24] at hf
      have hf9 := q_ix_s hf; clear hf; obtain ⟨hi8, hf⟩ := hf9
      have hf9 := q_lt_s hf; clear hf; obtain ⟨M9, eM9, hf⟩ := hf9
      refine qj_iast (t0 := 0) hx hb hK (q_in (tc_7_3 tq0) (by decide)) (en_10 (tc_7_3 tq0)) rfl hi8 eM9 d_Sheet_setDefaults_47 ?_
      refine qj_aload_n hx hb d_Sheet_setDefaults_48 rfl 1 rfl ?_
      refine qj_iconst (v := 3) hx hb d_Sheet_setDefaults_49 (by decide) ?_
      refine qj_aload_n hx hb d_Sheet_setDefaults_50 rfl 0 rfl ?_
      refine qj_get hx hb hts hin_3 hown hK (q_in tq0 (by decide)) (en_7 tq0) rfl 0 (by decide) (hts _ tw_350) (fun _ h => h) (qi (M9.1 q0 0)) rfl d_Sheet_setDefaults_51 ?_
      have hf9 := q_lt_s hf; clear hf; obtain ⟨j19, ej19, hf⟩ := hf9
      have hj19 : ∀ (x10 : Int32), j19 x10 = some out → QJ p l e rm_Sheet_setDefaults s m args below meth c (qA 367 b) b 3 0 0 Q (qWd D (enX dA b) 367 b) M9 76 [(1, qr (some (q0 + 3)))] [qi x10, qi 3, qr (some (q0 + 3))] := by
        clear hf
        intro x10 hf
        rw [ej19] at hf
        have hf9 := q_ix_s hf; clear hf; obtain ⟨hi11, hf⟩ := hf9
        have hf9 := q_lt_s hf; clear hf; obtain ⟨M12, eM12, hf⟩ := hf9
        refine qj_iast (t0 := 0) hx hb hK (q_in (tc_7_3 tq0) (by decide)) (en_10 (tc_7_3 tq0)) rfl hi11 eM12 d_Sheet_setDefaults_76 ?_
        refine qj_aload_n hx hb d_Sheet_setDefaults_77 rfl 0 rfl ?_
        refine qj_iconst (v := 4) hx hb d_Sheet_setDefaults_78 (by decide) ?_
        refine qj_iconst (v := 0) hx hb d_Sheet_setDefaults_79 (by decide) ?_
        have hf9 := q_ix_s hf; clear hf; obtain ⟨hi13, hf⟩ := hf9
        have hf9 := q_lt_s hf; clear hf; obtain ⟨M14, eM14, hf⟩ := hf9
        refine qj_iast (t0 := 0) hx hb hK (q_in (tc_7_3 tq0) (by decide)) (en_10 (tc_7_3 tq0)) rfl hi13 eM14 d_Sheet_setDefaults_80 ?_
        refine qj_aload_n hx hb d_Sheet_setDefaults_81 rfl 0 rfl ?_
        refine qj_iconst (v := 5) hx hb d_Sheet_setDefaults_82 (by decide) ?_
        refine qj_iconst (v := 0) hx hb d_Sheet_setDefaults_83 (by decide) ?_
        have hf9 := q_ix_s hf; clear hf; obtain ⟨hi15, hf⟩ := hf9
        have hf9 := q_lt_s hf; clear hf; obtain ⟨M16, eM16, hf⟩ := hf9
        refine qj_iast (t0 := 0) hx hb hK (q_in (tc_7_3 tq0) (by decide)) (en_10 (tc_7_3 tq0)) rfl hi15 eM16 d_Sheet_setDefaults_84 ?_
        refine qj_aload_n hx hb d_Sheet_setDefaults_85 rfl 0 rfl ?_
        refine qj_bipush (v := 6) hx hb d_Sheet_setDefaults_86 (by decide) ?_
        refine qj_iconst (v := (-1)) hx hb d_Sheet_setDefaults_88 (by decide) ?_
        have hf9 := q_ix_s hf; clear hf; obtain ⟨hi17, hf⟩ := hf9
        have hf9 := q_lt_s hf; clear hf; obtain ⟨M18, eM18, hf⟩ := hf9
        refine qj_iast (t0 := 0) hx hb hK (q_in (tc_7_3 tq0) (by decide)) (en_10 (tc_7_3 tq0)) rfl hi17 eM18 d_Sheet_setDefaults_89 ?_
        exact hret _ _ _ d_Sheet_setDefaults_90 (Option.some.inj hf)
      have hf9 := q_lt_s hf; clear hf; obtain ⟨j20, ej20, hf⟩ := hf9
      have hj20 : j20 = some out → QJ p l e rm_Sheet_setDefaults s m args below meth c (qA 367 b) b 3 0 0 Q (qWd D (enX dA b) 367 b) M9 69 [(1, qr (some (q0 + 3)))] [qi 3, qr (some (q0 + 3))] := by
        clear hf
        intro hf
        rw [ej20] at hf
        refine qj_bipush (v := 98) hx hb d_Sheet_setDefaults_69 (by decide) ?_
        refine qj_goto (tgt := 76) hx hb d_Sheet_setDefaults_71 (by decide) ?_
        exact hj19 98 hf
      refine qj_if_eq (tgt := 69) hx hb d_Sheet_setDefaults_54 (by decide) (fun hc21 => ?_) (fun hc21 => ?_)
      · replace hf := q_if_t hc21 hf
        refine qj_sub [1] rfl ?_
        exact hj20  hf
      · replace hf := q_if_f hc21 hf
        refine qj_aload_n hx hb d_Sheet_setDefaults_57 rfl 0 rfl ?_
        refine qj_get hx hb hts hin_3 hown hK (q_in tq0 (by decide)) (en_7 tq0) rfl 0 (by decide) (hts _ tw_350) (fun _ h => h) (qi (M9.1 q0 0)) rfl d_Sheet_setDefaults_58 ?_
        refine qj_ldcS hx hb hown (hs.2.1 ("PlainPage$Sheet", 84, "pdulhtrc", 8) (by decide +kernel)) d_Sheet_setDefaults_61 ?_
        have hf9 := q_bp_s hf; clear hf; obtain ⟨x22, hx22, hf⟩ := hf9
        refine qc_SNi (st := [qi 3, qr (some (q0 + 3))]) hx hb hml hown hts hK (qX_ok _ _ _ _) hs (c_Pg_isOneOf (M9.1 q0 0) 8 M9 _ hx22) ⟨(va_cnB 2 hts (q_good tw_5) rfl rfl rfl (hs.2.2.1 ("PlainPage$Sheet", 86, y_Pg_isOneOf, "PlainPage") (by decide +kernel)) (hts _ tw_4) (by decide +kernel) ⟨by decide, by decide⟩), (hts _ tw_6), trivial⟩ rfl rfl (Nat.le_of_ble_eq_true rfl) d_Sheet_setDefaults_63 ?_
        refine qj_if_eq (tgt := 74) hx hb d_Sheet_setDefaults_66 (by decide) (fun hc23 => ?_) (fun hc23 => ?_)
        · replace hf := q_if_t hc23 hf
          refine qj_bipush (v := 105) hx hb d_Sheet_setDefaults_74 (by decide) ?_
          refine qj_sub [1] rfl ?_
          exact hj19 105 hf
        · replace hf := q_if_f hc23 hf
          refine qj_sub [1] rfl ?_
          exact hj20  hf
    refine qj_ifnonnull (tgt := 41) hx hb d_Sheet_setDefaults_34 (by decide) (fun o25 hn27 => ?_) (fun hn27 => ?_)
    · subst hn27
      replace hf := q_on_s hf
      refine qj_aload_n hx hb d_Sheet_setDefaults_41 rfl 2 rfl ?_
      refine qj_get hx hb hts hin_3 hown hK (q_in (tr1 _ rfl) (by decide)) (en_7 (tr1 _ rfl)) rfl 12 (by decide) (hts _ tw_348) (fun _ h => h) (qr (some (o25 + 3))) rfl d_Sheet_setDefaults_42 ?_
      refine qj_iconst (v := 2) hx hb d_Sheet_setDefaults_45 (by decide) ?_
      have hf9 := q_ix_s hf; clear hf; obtain ⟨hi26, hf⟩ := hf9
      refine qj_iald (t0 := 0) hx hb hK (q_in (tc_7_3 (tr1 _ rfl)) (by decide)) (en_10 (tc_7_3 (tr1 _ rfl))) rfl hi26 d_Sheet_setDefaults_46 ?_
      refine qj_sub [0, 1] rfl ?_
      exact hj24 (M6.1 (o25 + 3) (2 : Int32).toNatClampNeg) hf
    · subst hn27
      replace hf := q_on_n hf
      refine qj_iconst (v := 1) hx hb d_Sheet_setDefaults_37 (by decide) ?_
      refine qj_goto (tgt := 47) hx hb d_Sheet_setDefaults_38 (by decide) ?_
      refine qj_sub [0, 1] rfl ?_
      exact hj24 1 hf
  refine qj_ifnonnull (tgt := 20) hx hb d_Sheet_setDefaults_13 (by decide) (fun o29 hn31 => ?_) (fun hn31 => ?_)
  · subst hn31
    replace hf := q_on_s hf
    refine qj_aload_n hx hb d_Sheet_setDefaults_20 rfl 0 rfl ?_
    refine qj_get hx hb hts hin_3 hown hK (q_in (tr1 _ rfl) (by decide)) (en_7 (tr1 _ rfl)) rfl 12 (by decide) (hts _ tw_348) (fun _ h => h) (qr (some (o29 + 3))) rfl d_Sheet_setDefaults_21 ?_
    refine qj_iconst (v := 0) hx hb d_Sheet_setDefaults_24 (by decide) ?_
    have hf9 := q_ix_s hf; clear hf; obtain ⟨hi30, hf⟩ := hf9
    refine qj_iald (t0 := 0) hx hb hK (q_in (tc_7_3 (tr1 _ rfl)) (by decide)) (en_10 (tc_7_3 (tr1 _ rfl))) rfl hi30 d_Sheet_setDefaults_25 ?_
    refine qj_sub [2, 1, 0] rfl ?_
    exact hj28 (M.1 (o29 + 3) (0 : Int32).toNatClampNeg) hf
  · subst hn31
    replace hf := q_on_n hf
    refine qj_iconst (v := 1) hx hb d_Sheet_setDefaults_16 (by decide) ?_
    refine qj_goto (tgt := 26) hx hb d_Sheet_setDefaults_17 (by decide) ?_
    refine qj_sub [2, 1, 0] rfl ?_
    exact hj28 1 hf
theorem d_Rule_partFits_0 : decode prog_8_method_13_code 0 = .ok (.aload_n 2, 1) := by decide +kernel
theorem d_Rule_partFits_1 : decode prog_8_method_13_code 1 = .ok (.invokevirtual 104, 3) := by decide +kernel
theorem d_Rule_partFits_4 : decode prog_8_method_13_code 4 = .ok (.ifCond .eq 46, 3) := by decide +kernel
theorem d_Rule_partFits_7 : decode prog_8_method_13_code 7 = .ok (.aload_n 0, 1) := by decide +kernel
theorem d_Rule_partFits_8 : decode prog_8_method_13_code 8 = .ok (.getfield 9, 3) := by decide +kernel
theorem d_Rule_partFits_11 : decode prog_8_method_13_code 11 = .ok (.iload_n 1, 1) := by decide +kernel
theorem d_Rule_partFits_12 : decode prog_8_method_13_code 12 = .ok (.iaload, 1) := by decide +kernel
theorem d_Rule_partFits_13 : decode prog_8_method_13_code 13 = .ok (.iconst (-1), 1) := by decide +kernel
theorem d_Rule_partFits_14 : decode prog_8_method_13_code 14 = .ok (.if_icmp .eq 16, 3) := by decide +kernel
theorem d_Rule_partFits_17 : decode prog_8_method_13_code 17 = .ok (.aload_n 0, 1) := by decide +kernel
theorem d_Rule_partFits_18 : decode prog_8_method_13_code 18 = .ok (.getfield 9, 3) := by decide +kernel
theorem d_Rule_partFits_21 : decode prog_8_method_13_code 21 = .ok (.iload_n 1, 1) := by decide +kernel
theorem d_Rule_partFits_22 : decode prog_8_method_13_code 22 = .ok (.iaload, 1) := by decide +kernel
theorem d_Rule_partFits_23 : decode prog_8_method_13_code 23 = .ok (.aload_n 2, 1) := by decide +kernel
theorem d_Rule_partFits_24 : decode prog_8_method_13_code 24 = .ok (.getfield 108, 3) := by decide +kernel
theorem d_Rule_partFits_27 : decode prog_8_method_13_code 27 = .ok (.if_icmp .ne 23, 3) := by decide +kernel
theorem d_Rule_partFits_30 : decode prog_8_method_13_code 30 = .ok (.aload_n 0, 1) := by decide +kernel
theorem d_Rule_partFits_31 : decode prog_8_method_13_code 31 = .ok (.getfield 15, 3) := by decide +kernel
theorem d_Rule_partFits_34 : decode prog_8_method_13_code 34 = .ok (.iload_n 1, 1) := by decide +kernel
theorem d_Rule_partFits_35 : decode prog_8_method_13_code 35 = .ok (.iaload, 1) := by decide +kernel
theorem d_Rule_partFits_36 : decode prog_8_method_13_code 36 = .ok (.aload_n 2, 1) := by decide +kernel
theorem d_Rule_partFits_37 : decode prog_8_method_13_code 37 = .ok (.getfield 111, 3) := by decide +kernel
theorem d_Rule_partFits_40 : decode prog_8_method_13_code 40 = .ok (.iconst (-1), 1) := by decide +kernel
theorem d_Rule_partFits_41 : decode prog_8_method_13_code 41 = .ok (.ixor, 1) := by decide +kernel
theorem d_Rule_partFits_42 : decode prog_8_method_13_code 42 = .ok (.iand, 1) := by decide +kernel
theorem d_Rule_partFits_43 : decode prog_8_method_13_code 43 = .ok (.ifCond .ne 7, 3) := by decide +kernel
theorem d_Rule_partFits_46 : decode prog_8_method_13_code 46 = .ok (.iconst 1, 1) := by decide +kernel
theorem d_Rule_partFits_47 : decode prog_8_method_13_code 47 = .ok (.goto 4, 3) := by decide +kernel
theorem d_Rule_partFits_50 : decode prog_8_method_13_code 50 = .ok (.iconst 0, 1) := by decide +kernel
theorem d_Rule_partFits_51 : decode prog_8_method_13_code 51 = .ok (.ireturn, 1) := by decide +kernel
def f_Rule_partFits (q0 : Nat) (a1 : Int32) (q2 : Nat) (M : qM) : Option Int32 := q_bp (f_Node_isElement q2 M) fun x1 => if x1 = 0 then (some 0) else (q_ix a1 4 <| q_lt (q_ix a1 4 <| if ((M.1 (q0 + 2) a1.toNatClampNeg) &&& ((M.1 q2 1) ^^^ (-1))) = 0 then (some 1) else (some 0)) fun (j6 : Option Int32) => if (M.1 (q0 + 1) a1.toNatClampNeg) = (-1) then (j6) else (q_ix a1 4 <| if (M.1 (q0 + 1) a1.toNatClampNeg) = (M.1 q2 0) then (j6) else (some 0)))
abbrev rm_Rule_partFits : Room := { frames := 1, cells := 0, slots := 0, locals := 20 }
set_option maxRecDepth 100000 in
set_option maxHeartbeats 4000000 in
theorem c_Rule_partFits {l : Launch} {D : va_G} {dA : Nat → ClassId} {b : Nat} {adK adV : Nat → Nat} (q0 : Nat) (a1 : Int32) (q2 : Nat) (tq0 : tcX q0 = 18) (tq2 : tcX q2 = 7) (M : qM) (out : Int32) (hf : f_Rule_partFits q0 a1 q2 M = some out) : CTi l y_Rule_partFits w_Rule_partFits rm_Rule_partFits D (tysX dA) (enX dA b) 367 b (qX adK adV 367 b) [qr (some q0), qi a1, qr (some q2)] M (out, M) := by
  refine qm_z (cc := prog_8_method_13_code) (nL := 3) (by decide) rfl (Nat.le_of_ble_eq_true rfl) ?_
  intro p e s m args below meth c Q hx hb hts0 hown hml hK hs hret
  have hts : ∀ w ∈ lw_g, w.before args s = true := fun w h => hts0 w (List.mem_cons_of_mem _ h)
  show QJ p l e rm_Rule_partFits s m args below meth c (qA 367 b) b 3 0 0 Q (qWd D (enX dA b) 367 b) M 0 [(0, qr (some q0)), (1, qi a1), (2, qr (some q2))] []
  unfold f_Rule_partFits at hf
  refine qj_aload_n hx hb d_Rule_partFits_0 rfl 2 rfl ?_
  have hf9 := q_bp_s hf; clear hf; obtain ⟨x1, hx1, hf⟩ := hf9
  refine qc_Vi (st := []) hx hb hml hown hts hK (qX_ok _ _ _ _) hs (c_Node_isElement q2 tq2 M _ hx1) ⟨(callB_of 0 hts (q_good tw_351) rfl rfl rfl (hts _ tw_37) (hts _ tw_352) (by decide +kernel) ⟨by decide, by decide⟩), (hts _ tw_353), (hts _ tw_354)⟩ (q_in tq2 (by decide)) (en_7 tq2) rfl rfl rfl (Nat.le_of_ble_eq_true rfl) d_Rule_partFits_1 ?_
  refine qj_if_eq (tgt := 50) hx hb d_Rule_partFits_4 (by decide) (fun hc2 => ?_) (fun hc2 => ?_)
  · replace hf := q_if_t hc2 hf
    refine qj_iconst (v := 0) hx hb d_Rule_partFits_50 (by decide) ?_
    exact hret _ _ _ _ (Or.inl rfl) d_Rule_partFits_51 (congrArg (fun z => (z, M)) (Option.some.inj hf))
  · replace hf := q_if_f hc2 hf
    refine qj_aload_n hx hb d_Rule_partFits_7 rfl 0 rfl ?_
    refine qj_get hx hb hts hin_7 hown hK (q_in tq0 (by decide)) (en_18 tq0) rfl 0 (by decide) (hts _ tw_256) (fun _ h => h) (qr (some (q0 + 1))) rfl d_Rule_partFits_8 ?_
    refine qj_iload_n hx hb d_Rule_partFits_11 rfl 1 rfl ?_
    have hf9 := q_ix_s hf; clear hf; obtain ⟨hi3, hf⟩ := hf9
    refine qj_iald (t0 := 0) hx hb hK (q_in (tc_18_1 tq0) (by decide)) (en_19 (tc_18_1 tq0)) rfl hi3 d_Rule_partFits_12 ?_
    refine qj_iconst (v := (-1)) hx hb d_Rule_partFits_13 (by decide) ?_
    have hf9 := q_lt_s hf; clear hf; obtain ⟨j6, ej6, hf⟩ := hf9
    have hj6 : j6 = some out → QJ p l e rm_Rule_partFits s m args below meth c (qA 367 b) b 3 0 0 Q (qWd D (enX dA b) 367 b) M 30 [(0, qr (some q0)), (1, qi a1), (2, qr (some q2))] [] := by
      clear hf
      intro hf
      rw [ej6] at hf
      refine qj_aload_n hx hb d_Rule_partFits_30 rfl 0 rfl ?_
      refine qj_get hx hb hts hin_7 hown hK (q_in tq0 (by decide)) (en_18 tq0) rfl 1 (by decide) (hts _ tw_258) (fun _ h => h) (qr (some (q0 + 2))) rfl d_Rule_partFits_31 ?_
      refine qj_iload_n hx hb d_Rule_partFits_34 rfl 1 rfl ?_
      have hf9 := q_ix_s hf; clear hf; obtain ⟨hi4, hf⟩ := hf9
      refine qj_iald (t0 := 0) hx hb hK (q_in (tc_18_2 tq0) (by decide)) (en_20 (tc_18_2 tq0)) rfl hi4 d_Rule_partFits_35 ?_
      refine qj_aload_n hx hb d_Rule_partFits_36 rfl 2 rfl ?_
      refine qj_get hx hb hts hin_3 hown hK (q_in tq2 (by decide)) (en_7 tq2) rfl 1 (by decide) (hts _ tw_355) (fun _ h => h) (qi (M.1 q2 1)) rfl d_Rule_partFits_37 ?_
      refine qj_iconst (v := (-1)) hx hb d_Rule_partFits_40 (by decide) ?_
      refine qj_ixor hx hb d_Rule_partFits_41 ?_
      refine qj_iand hx hb d_Rule_partFits_42 ?_
      refine qj_if_ne (tgt := 50) hx hb d_Rule_partFits_43 (by decide) (fun hc5 => ?_) (fun hc5 => ?_)
      · replace hf := q_if_f hc5 hf
        refine qj_iconst (v := 0) hx hb d_Rule_partFits_50 (by decide) ?_
        exact hret _ _ _ _ (Or.inl rfl) d_Rule_partFits_51 (congrArg (fun z => (z, M)) (Option.some.inj hf))
      · replace hf := q_if_t hc5 hf
        refine qj_iconst (v := 1) hx hb d_Rule_partFits_46 (by decide) ?_
        refine qj_goto (tgt := 51) hx hb d_Rule_partFits_47 (by decide) ?_
        exact hret _ _ _ _ (Or.inr rfl) d_Rule_partFits_51 (congrArg (fun z => (z, M)) (Option.some.inj hf))
    refine qj_icmp_eq (tgt := 30) hx hb d_Rule_partFits_14 (by decide) (fun hc7 => ?_) (fun hc7 => ?_)
    · replace hf := q_if_t hc7 hf
      exact hj6  hf
    · replace hf := q_if_f hc7 hf
      refine qj_aload_n hx hb d_Rule_partFits_17 rfl 0 rfl ?_
      refine qj_get hx hb hts hin_7 hown hK (q_in tq0 (by decide)) (en_18 tq0) rfl 0 (by decide) (hts _ tw_256) (fun _ h => h) (qr (some (q0 + 1))) rfl d_Rule_partFits_18 ?_
      refine qj_iload_n hx hb d_Rule_partFits_21 rfl 1 rfl ?_
      have hf9 := q_ix_s hf; clear hf; obtain ⟨hi8, hf⟩ := hf9
      refine qj_iald (t0 := 0) hx hb hK (q_in (tc_18_1 tq0) (by decide)) (en_19 (tc_18_1 tq0)) rfl hi8 d_Rule_partFits_22 ?_
      refine qj_aload_n hx hb d_Rule_partFits_23 rfl 2 rfl ?_
      refine qj_get hx hb hts hin_3 hown hK (q_in tq2 (by decide)) (en_7 tq2) rfl 0 (by decide) (hts _ tw_356) (fun _ h => h) (qi (M.1 q2 0)) rfl d_Rule_partFits_24 ?_
      refine qj_icmp_ne (tgt := 50) hx hb d_Rule_partFits_27 (by decide) (fun hc9 => ?_) (fun hc9 => ?_)
      · replace hf := q_if_f hc9 hf
        refine qj_iconst (v := 0) hx hb d_Rule_partFits_50 (by decide) ?_
        exact hret _ _ _ _ (Or.inl rfl) d_Rule_partFits_51 (congrArg (fun z => (z, M)) (Option.some.inj hf))
      · replace hf := q_if_t hc9 hf
        exact hj6  hf
theorem d_Rule_declared_0 : decode prog_8_method_9_code 0 = .ok (.iload_n 2, 1) := by decide +kernel
theorem d_Rule_declared_1 : decode prog_8_method_9_code 1 = .ok (.ifCond .eq 12, 3) := by decide +kernel
theorem d_Rule_declared_4 : decode prog_8_method_9_code 4 = .ok (.aload_n 0, 1) := by decide +kernel
theorem d_Rule_declared_5 : decode prog_8_method_9_code 5 = .ok (.getfield 25, 3) := by decide +kernel
theorem d_Rule_declared_8 : decode prog_8_method_9_code 8 = .ok (.iload_n 1, 1) := by decide +kernel
theorem d_Rule_declared_9 : decode prog_8_method_9_code 9 = .ok (.iaload, 1) := by decide +kernel
theorem d_Rule_declared_10 : decode prog_8_method_9_code 10 = .ok (.goto 9, 3) := by decide +kernel
theorem d_Rule_declared_13 : decode prog_8_method_9_code 13 = .ok (.aload_n 0, 1) := by decide +kernel
theorem d_Rule_declared_14 : decode prog_8_method_9_code 14 = .ok (.getfield 22, 3) := by decide +kernel
theorem d_Rule_declared_17 : decode prog_8_method_9_code 17 = .ok (.iload_n 1, 1) := by decide +kernel
theorem d_Rule_declared_18 : decode prog_8_method_9_code 18 = .ok (.iaload, 1) := by decide +kernel
theorem d_Rule_declared_19 : decode prog_8_method_9_code 19 = .ok (.ireturn, 1) := by decide +kernel
def f_Rule_declared (q0 : Nat) (a1 : Int32) (a2 : Int32) (M : qM) : Option Int32 := if a2 = 0 then (q_ix a1 7 <| some (M.1 (q0 + 4) a1.toNatClampNeg)) else (q_ix a1 7 <| some (M.1 (q0 + 5) a1.toNatClampNeg))
abbrev rm_Rule_declared : Room := { frames := 0, cells := 0, slots := 0, locals := 0 }
set_option maxRecDepth 100000 in
set_option maxHeartbeats 4000000 in
theorem c_Rule_declared {l : Launch} {D : va_G} {dA : Nat → ClassId} {b : Nat} {adK adV : Nat → Nat} (q0 : Nat) (a1 : Int32) (a2 : Int32) (tq0 : tcX q0 = 18) (M : qM) (out : Int32) (hf : f_Rule_declared q0 a1 a2 M = some out) : CTi l y_Rule_declared w_Rule_declared rm_Rule_declared D (tysX dA) (enX dA b) 367 b (qX adK adV 367 b) [qr (some q0), qi a1, qi a2] M (out, M) := by
  refine qm_i (cc := prog_8_method_9_code) (nL := 3) (by decide) rfl (Nat.le_of_ble_eq_true rfl) ?_
  intro p e s m args below meth c Q hx hb hts0 hown hml hK hs hret
  have hts : ∀ w ∈ lw_g, w.before args s = true := fun w h => hts0 w (List.mem_cons_of_mem _ h)
  show QJ p l e rm_Rule_declared s m args below meth c (qA 367 b) b 3 0 0 Q (qWd D (enX dA b) 367 b) M 0 [(0, qr (some q0)), (1, qi a1), (2, qi a2)] []
  unfold f_Rule_declared at hf
  refine qj_iload_n hx hb d_Rule_declared_0 rfl 2 rfl ?_
  refine qj_if_eq (tgt := 13) hx hb d_Rule_declared_1 (by decide) (fun hc1 => ?_) (fun hc1 => ?_)
  · replace hf := q_if_t hc1 hf
    refine qj_aload_n hx hb d_Rule_declared_13 rfl 0 rfl ?_
    refine qj_get hx hb hts hin_7 hown hK (q_in tq0 (by decide)) (en_18 tq0) rfl 3 (by decide) (hts _ tw_280) (fun _ h => h) (qr (some (q0 + 4))) rfl d_Rule_declared_14 ?_
    refine qj_iload_n hx hb d_Rule_declared_17 rfl 1 rfl ?_
    have hf9 := q_ix_s hf; clear hf; obtain ⟨hi2, hf⟩ := hf9
    refine qj_iald (t0 := 0) hx hb hK (q_in (tc_18_4 tq0) (by decide)) (en_22 (tc_18_4 tq0)) rfl hi2 d_Rule_declared_18 ?_
    exact hret _ _ _ _ d_Rule_declared_19 (congrArg (fun z => (z, M)) (Option.some.inj hf))
  · replace hf := q_if_f hc1 hf
    refine qj_aload_n hx hb d_Rule_declared_4 rfl 0 rfl ?_
    refine qj_get hx hb hts hin_7 hown hK (q_in tq0 (by decide)) (en_18 tq0) rfl 4 (by decide) (hts _ tw_281) (fun _ h => h) (qr (some (q0 + 5))) rfl d_Rule_declared_5 ?_
    refine qj_iload_n hx hb d_Rule_declared_8 rfl 1 rfl ?_
    have hf9 := q_ix_s hf; clear hf; obtain ⟨hi3, hf⟩ := hf9
    refine qj_iald (t0 := 0) hx hb hK (q_in (tc_18_5 tq0) (by decide)) (en_23 (tc_18_5 tq0)) rfl hi3 d_Rule_declared_9 ?_
    refine qj_goto (tgt := 19) hx hb d_Rule_declared_10 (by decide) ?_
    exact hret _ _ _ _ d_Rule_declared_19 (congrArg (fun z => (z, M)) (Option.some.inj hf))
theorem d_Rule_weighsMoreThan_0 : decode prog_8_method_10_code 0 = .ok (.aload_n 0, 1) := by decide +kernel
theorem d_Rule_weighsMoreThan_1 : decode prog_8_method_10_code 1 = .ok (.getfield 28, 3) := by decide +kernel
theorem d_Rule_weighsMoreThan_4 : decode prog_8_method_10_code 4 = .ok (.aload_n 1, 1) := by decide +kernel
theorem d_Rule_weighsMoreThan_5 : decode prog_8_method_10_code 5 = .ok (.getfield 28, 3) := by decide +kernel
theorem d_Rule_weighsMoreThan_8 : decode prog_8_method_10_code 8 = .ok (.if_icmp .eq 20, 3) := by decide +kernel
theorem d_Rule_weighsMoreThan_11 : decode prog_8_method_10_code 11 = .ok (.aload_n 0, 1) := by decide +kernel
theorem d_Rule_weighsMoreThan_12 : decode prog_8_method_10_code 12 = .ok (.getfield 28, 3) := by decide +kernel
theorem d_Rule_weighsMoreThan_15 : decode prog_8_method_10_code 15 = .ok (.aload_n 1, 1) := by decide +kernel
theorem d_Rule_weighsMoreThan_16 : decode prog_8_method_10_code 16 = .ok (.getfield 28, 3) := by decide +kernel
theorem d_Rule_weighsMoreThan_19 : decode prog_8_method_10_code 19 = .ok (.if_icmp .le 7, 3) := by decide +kernel
theorem d_Rule_weighsMoreThan_22 : decode prog_8_method_10_code 22 = .ok (.iconst 1, 1) := by decide +kernel
theorem d_Rule_weighsMoreThan_23 : decode prog_8_method_10_code 23 = .ok (.goto 4, 3) := by decide +kernel
theorem d_Rule_weighsMoreThan_26 : decode prog_8_method_10_code 26 = .ok (.iconst 0, 1) := by decide +kernel
theorem d_Rule_weighsMoreThan_27 : decode prog_8_method_10_code 27 = .ok (.ireturn, 1) := by decide +kernel
theorem d_Rule_weighsMoreThan_28 : decode prog_8_method_10_code 28 = .ok (.aload_n 0, 1) := by decide +kernel
theorem d_Rule_weighsMoreThan_29 : decode prog_8_method_10_code 29 = .ok (.getfield 32, 3) := by decide +kernel
theorem d_Rule_weighsMoreThan_32 : decode prog_8_method_10_code 32 = .ok (.aload_n 1, 1) := by decide +kernel
theorem d_Rule_weighsMoreThan_33 : decode prog_8_method_10_code 33 = .ok (.getfield 32, 3) := by decide +kernel
theorem d_Rule_weighsMoreThan_36 : decode prog_8_method_10_code 36 = .ok (.if_icmp .le 7, 3) := by decide +kernel
theorem d_Rule_weighsMoreThan_39 : decode prog_8_method_10_code 39 = .ok (.iconst 1, 1) := by decide +kernel
theorem d_Rule_weighsMoreThan_40 : decode prog_8_method_10_code 40 = .ok (.goto 4, 3) := by decide +kernel
theorem d_Rule_weighsMoreThan_43 : decode prog_8_method_10_code 43 = .ok (.iconst 0, 1) := by decide +kernel
theorem d_Rule_weighsMoreThan_44 : decode prog_8_method_10_code 44 = .ok (.ireturn, 1) := by decide +kernel
def f_Rule_weighsMoreThan (q0 : Nat) (q1 : Nat) (M : qM) : Option Int32 := if (M.1 q0 6) = (M.1 q1 6) then (if (M.1 q0 7) ≤ (M.1 q1 7) then (some 0) else (some 1)) else (if (M.1 q0 6) ≤ (M.1 q1 6) then (some 0) else (some 1))
abbrev rm_Rule_weighsMoreThan : Room := { frames := 0, cells := 0, slots := 0, locals := 0 }
set_option maxRecDepth 100000 in
set_option maxHeartbeats 4000000 in
theorem c_Rule_weighsMoreThan {l : Launch} {D : va_G} {dA : Nat → ClassId} {b : Nat} {adK adV : Nat → Nat} (q0 : Nat) (q1 : Nat) (tq0 : tcX q0 = 18) (tq1 : tcX q1 = 18) (M : qM) (out : Int32) (hf : f_Rule_weighsMoreThan q0 q1 M = some out) : CTi l y_Rule_weighsMoreThan w_Rule_weighsMoreThan rm_Rule_weighsMoreThan D (tysX dA) (enX dA b) 367 b (qX adK adV 367 b) [qr (some q0), qr (some q1)] M (out, M) := by
  refine qm_z (cc := prog_8_method_10_code) (nL := 2) (by decide) rfl (Nat.le_of_ble_eq_true rfl) ?_
  intro p e s m args below meth c Q hx hb hts0 hown hml hK hs hret
  have hts : ∀ w ∈ lw_g, w.before args s = true := fun w h => hts0 w (List.mem_cons_of_mem _ h)
  show QJ p l e rm_Rule_weighsMoreThan s m args below meth c (qA 367 b) b 2 0 0 Q (qWd D (enX dA b) 367 b) M 0 [(0, qr (some q0)), (1, qr (some q1))] []
  unfold f_Rule_weighsMoreThan at hf
  refine qj_aload_n hx hb d_Rule_weighsMoreThan_0 rfl 0 rfl ?_
  refine qj_get hx hb hts hin_7 hown hK (q_in tq0 (by decide)) (en_18 tq0) rfl 6 (by decide) (hts _ tw_259) (fun _ h => h) (qi (M.1 q0 6)) rfl d_Rule_weighsMoreThan_1 ?_
  refine qj_aload_n hx hb d_Rule_weighsMoreThan_4 rfl 1 rfl ?_
  refine qj_get hx hb hts hin_7 hown hK (q_in tq1 (by decide)) (en_18 tq1) rfl 6 (by decide) (hts _ tw_259) (fun _ h => h) (qi (M.1 q1 6)) rfl d_Rule_weighsMoreThan_5 ?_
  refine qj_icmp_eq (tgt := 28) hx hb d_Rule_weighsMoreThan_8 (by decide) (fun hc1 => ?_) (fun hc1 => ?_)
  · replace hf := q_if_t hc1 hf
    refine qj_aload_n hx hb d_Rule_weighsMoreThan_28 rfl 0 rfl ?_
    refine qj_get hx hb hts hin_7 hown hK (q_in tq0 (by decide)) (en_18 tq0) rfl 7 (by decide) (hts _ tw_260) (fun _ h => h) (qi (M.1 q0 7)) rfl d_Rule_weighsMoreThan_29 ?_
    refine qj_aload_n hx hb d_Rule_weighsMoreThan_32 rfl 1 rfl ?_
    refine qj_get hx hb hts hin_7 hown hK (q_in tq1 (by decide)) (en_18 tq1) rfl 7 (by decide) (hts _ tw_260) (fun _ h => h) (qi (M.1 q1 7)) rfl d_Rule_weighsMoreThan_33 ?_
    refine qj_icmp_le (tgt := 43) hx hb d_Rule_weighsMoreThan_36 (by decide) (fun hc2 => ?_) (fun hc2 => ?_)
    · replace hf := q_if_t hc2 hf
      refine qj_iconst (v := 0) hx hb d_Rule_weighsMoreThan_43 (by decide) ?_
      exact hret _ _ _ _ (Or.inl rfl) d_Rule_weighsMoreThan_44 (congrArg (fun z => (z, M)) (Option.some.inj hf))
    · replace hf := q_if_f hc2 hf
      refine qj_iconst (v := 1) hx hb d_Rule_weighsMoreThan_39 (by decide) ?_
      refine qj_goto (tgt := 44) hx hb d_Rule_weighsMoreThan_40 (by decide) ?_
      exact hret _ _ _ _ (Or.inr rfl) d_Rule_weighsMoreThan_44 (congrArg (fun z => (z, M)) (Option.some.inj hf))
  · replace hf := q_if_f hc1 hf
    refine qj_aload_n hx hb d_Rule_weighsMoreThan_11 rfl 0 rfl ?_
    refine qj_get hx hb hts hin_7 hown hK (q_in tq0 (by decide)) (en_18 tq0) rfl 6 (by decide) (hts _ tw_259) (fun _ h => h) (qi (M.1 q0 6)) rfl d_Rule_weighsMoreThan_12 ?_
    refine qj_aload_n hx hb d_Rule_weighsMoreThan_15 rfl 1 rfl ?_
    refine qj_get hx hb hts hin_7 hown hK (q_in tq1 (by decide)) (en_18 tq1) rfl 6 (by decide) (hts _ tw_259) (fun _ h => h) (qi (M.1 q1 6)) rfl d_Rule_weighsMoreThan_16 ?_
    refine qj_icmp_le (tgt := 26) hx hb d_Rule_weighsMoreThan_19 (by decide) (fun hc3 => ?_) (fun hc3 => ?_)
    · replace hf := q_if_t hc3 hf
      refine qj_iconst (v := 0) hx hb d_Rule_weighsMoreThan_26 (by decide) ?_
      exact hret _ _ _ _ (Or.inl rfl) d_Rule_weighsMoreThan_27 (congrArg (fun z => (z, M)) (Option.some.inj hf))
    · replace hf := q_if_f hc3 hf
      refine qj_iconst (v := 1) hx hb d_Rule_weighsMoreThan_22 (by decide) ?_
      refine qj_goto (tgt := 27) hx hb d_Rule_weighsMoreThan_23 (by decide) ?_
      exact hret _ _ _ _ (Or.inr rfl) d_Rule_weighsMoreThan_27 (congrArg (fun z => (z, M)) (Option.some.inj hf))
theorem d_Sheet_strongest_0 : decode prog_10_method_8_code 0 = .ok (.aconst_null, 1) := by decide +kernel
theorem d_Sheet_strongest_1 : decode prog_10_method_8_code 1 = .ok (.astore_n 3, 1) := by decide +kernel
theorem d_Sheet_strongest_2 : decode prog_10_method_8_code 2 = .ok (.iconst 0, 1) := by decide +kernel
theorem d_Sheet_strongest_3 : decode prog_10_method_8_code 3 = .ok (.istore 4, 2) := by decide +kernel
theorem d_Sheet_strongest_5 : decode prog_10_method_8_code 5 = .ok (.iload 4, 2) := by decide +kernel
theorem d_Sheet_strongest_7 : decode prog_10_method_8_code 7 = .ok (.aload_n 0, 1) := by decide +kernel
theorem d_Sheet_strongest_8 : decode prog_10_method_8_code 8 = .ok (.getfield 34, 3) := by decide +kernel
theorem d_Sheet_strongest_11 : decode prog_10_method_8_code 11 = .ok (.if_icmp .ge 55, 3) := by decide +kernel
theorem d_Sheet_strongest_14 : decode prog_10_method_8_code 14 = .ok (.aload_n 0, 1) := by decide +kernel
theorem d_Sheet_strongest_15 : decode prog_10_method_8_code 15 = .ok (.getfield 11, 3) := by decide +kernel
theorem d_Sheet_strongest_18 : decode prog_10_method_8_code 18 = .ok (.iload 4, 2) := by decide +kernel
theorem d_Sheet_strongest_20 : decode prog_10_method_8_code 20 = .ok (.aaload, 1) := by decide +kernel
theorem d_Sheet_strongest_21 : decode prog_10_method_8_code 21 = .ok (.astore 5, 2) := by decide +kernel
theorem d_Sheet_strongest_23 : decode prog_10_method_8_code 23 = .ok (.aload_n 0, 1) := by decide +kernel
theorem d_Sheet_strongest_24 : decode prog_10_method_8_code 24 = .ok (.getfield 17, 3) := by decide +kernel
theorem d_Sheet_strongest_27 : decode prog_10_method_8_code 27 = .ok (.iload 4, 2) := by decide +kernel
theorem d_Sheet_strongest_29 : decode prog_10_method_8_code 29 = .ok (.baload, 1) := by decide +kernel
theorem d_Sheet_strongest_30 : decode prog_10_method_8_code 30 = .ok (.ifCond .eq 30, 3) := by decide +kernel
theorem d_Sheet_strongest_33 : decode prog_10_method_8_code 33 = .ok (.aload 5, 2) := by decide +kernel
theorem d_Sheet_strongest_35 : decode prog_10_method_8_code 35 = .ok (.iload_n 1, 1) := by decide +kernel
theorem d_Sheet_strongest_36 : decode prog_10_method_8_code 36 = .ok (.iload_n 2, 1) := by decide +kernel
theorem d_Sheet_strongest_37 : decode prog_10_method_8_code 37 = .ok (.invokevirtual 100, 3) := by decide +kernel
theorem d_Sheet_strongest_40 : decode prog_10_method_8_code 40 = .ok (.iconst (-1), 1) := by decide +kernel
theorem d_Sheet_strongest_41 : decode prog_10_method_8_code 41 = .ok (.if_icmp .eq 19, 3) := by decide +kernel
theorem d_Sheet_strongest_44 : decode prog_10_method_8_code 44 = .ok (.aload_n 3, 1) := by decide +kernel
theorem d_Sheet_strongest_45 : decode prog_10_method_8_code 45 = .ok (.ifnull 12, 3) := by decide +kernel
theorem d_Sheet_strongest_48 : decode prog_10_method_8_code 48 = .ok (.aload_n 3, 1) := by decide +kernel
theorem d_Sheet_strongest_49 : decode prog_10_method_8_code 49 = .ok (.aload 5, 2) := by decide +kernel
theorem d_Sheet_strongest_51 : decode prog_10_method_8_code 51 = .ok (.invokevirtual 103, 3) := by decide +kernel
theorem d_Sheet_strongest_54 : decode prog_10_method_8_code 54 = .ok (.ifCond .ne 6, 3) := by decide +kernel
theorem d_Sheet_strongest_57 : decode prog_10_method_8_code 57 = .ok (.aload 5, 2) := by decide +kernel
theorem d_Sheet_strongest_59 : decode prog_10_method_8_code 59 = .ok (.astore_n 3, 1) := by decide +kernel
theorem d_Sheet_strongest_60 : decode prog_10_method_8_code 60 = .ok (.iinc 4 1, 3) := by decide +kernel
theorem d_Sheet_strongest_63 : decode prog_10_method_8_code 63 = .ok (.goto (-58), 3) := by decide +kernel
theorem d_Sheet_strongest_66 : decode prog_10_method_8_code 66 = .ok (.aload_n 3, 1) := by decide +kernel
theorem d_Sheet_strongest_67 : decode prog_10_method_8_code 67 = .ok (.ifnonnull 7, 3) := by decide +kernel
theorem d_Sheet_strongest_70 : decode prog_10_method_8_code 70 = .ok (.iconst (-1), 1) := by decide +kernel
theorem d_Sheet_strongest_71 : decode prog_10_method_8_code 71 = .ok (.goto 9, 3) := by decide +kernel
theorem d_Sheet_strongest_74 : decode prog_10_method_8_code 74 = .ok (.aload_n 3, 1) := by decide +kernel
theorem d_Sheet_strongest_75 : decode prog_10_method_8_code 75 = .ok (.iload_n 1, 1) := by decide +kernel
theorem d_Sheet_strongest_76 : decode prog_10_method_8_code 76 = .ok (.iload_n 2, 1) := by decide +kernel
theorem d_Sheet_strongest_77 : decode prog_10_method_8_code 77 = .ok (.invokevirtual 100, 3) := by decide +kernel
theorem d_Sheet_strongest_80 : decode prog_10_method_8_code 80 = .ok (.ireturn, 1) := by decide +kernel
def f_Sheet_strongest_5 (M : qM) (a1 : Int32) (a2 : Int32) : Nat → (Option Nat → Option Int32) → Option Nat → Int32 → Option Int32
  | 0, _, _, _ => none
  | n + 1, K3, r1, x2 => if (M.1 288 6) ≤ x2 then (K3 r1) else (q_ix x2 12 <| q_lt (292 + 6 * x2.toNatClampNeg) fun o6 => q_ix x2 12 <| if (M.1 290 x2.toNatClampNeg) = 0 then (f_Sheet_strongest_5 M a1 a2 n K3 r1 (x2 + 1)) else (q_bp (f_Rule_declared o6 a1 a2 M) fun x9 => if x9 = (-1) then (f_Sheet_strongest_5 M a1 a2 n K3 r1 (x2 + 1)) else (q_on r1 (f_Sheet_strongest_5 M a1 a2 n K3 (some o6) (x2 + 1)) fun o11 => (q_bp (f_Rule_weighsMoreThan o11 o6 M) fun x12 => if x12 = 0 then (f_Sheet_strongest_5 M a1 a2 n K3 (some o6) (x2 + 1)) else (f_Sheet_strongest_5 M a1 a2 n K3 (some o11) (x2 + 1))))))
def f_Sheet_strongest (a1 : Int32) (a2 : Int32) (M : qM) : Option Int32 := f_Sheet_strongest_5 M a1 a2 1000 (fun (r15 : Option Nat) => q_on r15 (some (-1)) fun o16 => (q_bp (f_Rule_declared o16 a1 a2 M) fun x17 => some x17)) none 0
abbrev rm_Sheet_strongest : Room := { frames := 1, cells := 0, slots := 0, locals := 22 }
set_option maxRecDepth 100000 in
set_option maxHeartbeats 4000000 in
theorem c_Sheet_strongest {l : Launch} {D : va_G} {dA : Nat → ClassId} {b : Nat} {adK adV : Nat → Nat} (a1 : Int32) (a2 : Int32)  (M : qM) (out : Int32) (hf : f_Sheet_strongest a1 a2 M = some out) : CTi l y_Sheet_strongest w_Sheet_strongest rm_Sheet_strongest D (tysX dA) (enX dA b) 367 b (qX adK adV 367 b) [qr (some 288), qi a1, qi a2] M (out, M) := by
  refine qm_i (cc := prog_10_method_8_code) (nL := 6) (by decide) rfl (Nat.le_of_ble_eq_true rfl) ?_
  intro p e s m args below meth c Q hx hb hts0 hown hml hK hs hret
  have hts : ∀ w ∈ lw_g, w.before args s = true := fun w h => hts0 w (List.mem_cons_of_mem _ h)
  show QJ p l e rm_Sheet_strongest s m args below meth c (qA 367 b) b 6 0 0 Q (qWd D (enX dA b) 367 b) M 0 [(0, qr (some 288)), (1, qi a1), (2, qi a2)] []
  unfold f_Sheet_strongest at hf
  refine qj_null hx hb d_Sheet_strongest_0 ?_
  refine qj_astore_n hx hb d_Sheet_strongest_1 rfl (by decide) rfl ?_
  refine qj_iconst (v := 0) hx hb d_Sheet_strongest_2 (by decide) ?_
  refine qj_istore hx hb d_Sheet_strongest_3 (by decide) rfl ?_
  have hL5 : ∀ (n : Nat) (K3 : Option Nat → Option Int32), (∀ (r15 : Option Nat), (∀ o, r15 = some o → tcX o = 18) → K3 r15 = some out → QJ p l e rm_Sheet_strongest s m args below meth c (qA 367 b) b 6 0 0 Q (qWd D (enX dA b) 367 b) M 66 [(1, qi a1), (2, qi a2), (3, qr r15)] []) → ∀ (r1 : Option Nat) (x2 : Int32), (∀ o, r1 = some o → tcX o = 18) → f_Sheet_strongest_5 M a1 a2 n K3 r1 x2 = some out → QJ p l e rm_Sheet_strongest s m args below meth c (qA 367 b) b 6 0 0 Q (qWd D (enX dA b) 367 b) M 5 [(0, qr (some 288)), (1, qi a1), (2, qi a2), (3, qr r1), (4, qi x2)] [] := by
    clear hf
    intro n
    induction n with
    | zero =>
      intro K3 hK3 r1 x2 tr1 hf
      exact absurd hf (by simp [f_Sheet_strongest_5])
    | succ n ih5 =>
      intro K3 hK3 r1 x2 tr1 hf
      rw [f_Sheet_strongest_5] at hf
      have ih5 := ih5 K3 hK3
      refine qj_iload hx hb d_Sheet_strongest_5 4 rfl ?_
      refine qj_aload_n hx hb d_Sheet_strongest_7 rfl 0 rfl ?_
      refine qj_get hx hb hts hin_8 hown hK (q_in (rfl : tcX 288 = 14) (by decide)) (en_14 (rfl : tcX 288 = 14)) rfl 6 (by decide) (hts _ tw_290) (fun _ h => h) (qi (M.1 288 6)) rfl d_Sheet_strongest_8 ?_
      refine qj_icmp_ge (tgt := 66) hx hb d_Sheet_strongest_11 (by decide) (fun hc4 => ?_) (fun hc4 => ?_)
      · replace hf := q_if_t hc4 hf
        refine qj_sub [1, 2, 3] rfl ?_
        exact hK3 r1 tr1 hf
      · replace hf := q_if_f hc4 hf
        refine qj_aload_n hx hb d_Sheet_strongest_14 rfl 0 rfl ?_
        refine qj_get hx hb hts hin_8 hown hK (q_in (rfl : tcX 288 = 14) (by decide)) (en_14 (rfl : tcX 288 = 14)) rfl 0 (by decide) (hts _ tw_291) (fun _ h => h) (qr (some 289)) rfl d_Sheet_strongest_15 ?_
        refine qj_iload hx hb d_Sheet_strongest_18 4 rfl ?_
        have hf9 := q_ix_s hf; clear hf; obtain ⟨hi5, hf⟩ := hf9
        have hf9 := q_lt_s hf; clear hf; obtain ⟨o6, eo6, hf⟩ := hf9
        have to6 : tcX o6 = 18 := by rw [eo6]; exact tc_e15 hi5
        refine qj_aald (t0 := 5) (f := fun j => some (292 + 6 * j)) hx hb hK (q_in (rfl : tcX 289 = 15) (by decide)) (en_15 (rfl : tcX 289 = 15) _ _) rfl hi5 d_Sheet_strongest_20 ?_
        rw [← eo6]
        refine qj_astore hx hb d_Sheet_strongest_21 (by decide) rfl ?_
        refine qj_aload_n hx hb d_Sheet_strongest_23 rfl 1 rfl ?_
        refine qj_get hx hb hts hin_8 hown hK (q_in (rfl : tcX 288 = 14) (by decide)) (en_14 (rfl : tcX 288 = 14)) rfl 1 (by decide) (hts _ tw_357) (fun _ h => h) (qr (some 290)) rfl d_Sheet_strongest_24 ?_
        refine qj_iload hx hb d_Sheet_strongest_27 5 rfl ?_
        have hf9 := q_ix_s hf; clear hf; obtain ⟨hi7, hf⟩ := hf9
        refine qj_zald (t0 := 2) hx hb hK (q_in (rfl : tcX 290 = 16) (by decide)) (en_16 (rfl : tcX 290 = 16)) rfl hi7 d_Sheet_strongest_29 ?_
        refine qj_if_eq (tgt := 60) hx hb d_Sheet_strongest_30 (by decide) (fun hc8 => ?_) (fun hc8 => ?_)
        · replace hf := q_if_t hc8 hf
          refine qj_iinc (j := 5) (v := x2 + 1) hx hb d_Sheet_strongest_60 rfl rfl (by decide) rfl ?_
          refine qj_goto (tgt := 5) hx hb d_Sheet_strongest_63 (by decide) ?_
          refine qj_sub [2, 3, 4, 5, 0] rfl ?_
          exact ih5 r1 (x2 + 1) tr1 hf
        · replace hf := q_if_f hc8 hf
          refine qj_aload hx hb d_Sheet_strongest_33 0 rfl ?_
          refine qj_iload_n hx hb d_Sheet_strongest_35 rfl 2 rfl ?_
          refine qj_iload_n hx hb d_Sheet_strongest_36 rfl 3 rfl ?_
          have hf9 := q_bp_s hf; clear hf; obtain ⟨x9, hx9, hf⟩ := hf9
          refine qc_Vi (st := []) hx hb hml hown hts hK (qX_ok _ _ _ _) hs (c_Rule_declared o6 a1 a2 to6 M _ hx9) ⟨(callB_of 2 hts (q_good tw_358) rfl rfl rfl (hts _ tw_261) (hts _ tw_359) (by decide +kernel) ⟨by decide, by decide⟩), (hts _ tw_360), (hts _ tw_361)⟩ (q_in to6 (by decide)) (en_18 to6) rfl rfl rfl (Nat.le_of_ble_eq_true rfl) d_Sheet_strongest_37 ?_
          refine qj_iconst (v := (-1)) hx hb d_Sheet_strongest_40 (by decide) ?_
          refine qj_icmp_eq (tgt := 60) hx hb d_Sheet_strongest_41 (by decide) (fun hc10 => ?_) (fun hc10 => ?_)
          · replace hf := q_if_t hc10 hf
            refine qj_iinc (j := 5) (v := x2 + 1) hx hb d_Sheet_strongest_60 rfl rfl (by decide) rfl ?_
            refine qj_goto (tgt := 5) hx hb d_Sheet_strongest_63 (by decide) ?_
            refine qj_sub [2, 3, 4, 5, 0] rfl ?_
            exact ih5 r1 (x2 + 1) tr1 hf
          · replace hf := q_if_f hc10 hf
            refine qj_aload_n hx hb d_Sheet_strongest_44 rfl 4 rfl ?_
            refine qj_ifnull (tgt := 57) hx hb d_Sheet_strongest_45 (by decide) (fun hn14 => ?_) (fun o11 hn14 => ?_)
            · subst hn14
              replace hf := q_on_n hf
              refine qj_aload hx hb d_Sheet_strongest_57 0 rfl ?_
              refine qj_astore_n hx hb d_Sheet_strongest_59 rfl (by decide) rfl ?_
              refine qj_iinc (j := 5) (v := x2 + 1) hx hb d_Sheet_strongest_60 rfl rfl (by decide) rfl ?_
              refine qj_goto (tgt := 5) hx hb d_Sheet_strongest_63 (by decide) ?_
              refine qj_sub [3, 4, 5, 1, 0] rfl ?_
              exact ih5 (some o6) (x2 + 1) (q_ts to6) hf
            · subst hn14
              replace hf := q_on_s hf
              refine qj_aload_n hx hb d_Sheet_strongest_48 rfl 4 rfl ?_
              refine qj_aload hx hb d_Sheet_strongest_49 0 rfl ?_
              have hf9 := q_bp_s hf; clear hf; obtain ⟨x12, hx12, hf⟩ := hf9
              refine qc_Vi (st := []) hx hb hml hown hts hK (qX_ok _ _ _ _) hs (c_Rule_weighsMoreThan o11 o6 (tr1 _ rfl) to6 M _ hx12) ⟨(callB_of 1 hts (q_good tw_362) rfl rfl rfl (hts _ tw_261) (hts _ tw_363) (by decide +kernel) ⟨by decide, by decide⟩), (hts _ tw_364), (hts _ tw_365)⟩ (q_in (tr1 _ rfl) (by decide)) (en_18 (tr1 _ rfl)) rfl rfl rfl (Nat.le_of_ble_eq_true rfl) d_Sheet_strongest_51 ?_
              refine qj_if_ne (tgt := 60) hx hb d_Sheet_strongest_54 (by decide) (fun hc13 => ?_) (fun hc13 => ?_)
              · replace hf := q_if_f hc13 hf
                refine qj_iinc (j := 5) (v := x2 + 1) hx hb d_Sheet_strongest_60 rfl rfl (by decide) rfl ?_
                refine qj_goto (tgt := 5) hx hb d_Sheet_strongest_63 (by decide) ?_
                refine qj_sub [2, 3, 4, 5, 0] rfl ?_
                exact ih5 (some o11) (x2 + 1) (q_ts (tr1 _ rfl)) hf
              · replace hf := q_if_t hc13 hf
                refine qj_aload hx hb d_Sheet_strongest_57 0 rfl ?_
                refine qj_astore_n hx hb d_Sheet_strongest_59 rfl (by decide) rfl ?_
                refine qj_iinc (j := 5) (v := x2 + 1) hx hb d_Sheet_strongest_60 rfl rfl (by decide) rfl ?_
                refine qj_goto (tgt := 5) hx hb d_Sheet_strongest_63 (by decide) ?_
                refine qj_sub [3, 4, 5, 1, 0] rfl ?_
                exact ih5 (some o6) (x2 + 1) (q_ts to6) hf
  refine qj_sub [2, 3, 4, 1, 0] rfl ?_
  refine hL5 _ _ (fun r15 tr15 hf9 => ?_) none 0 q_tn hf
  clear hf; have hf := hf9; clear hf9
  refine qj_aload_n hx hb d_Sheet_strongest_66 rfl 2 rfl ?_
  refine qj_ifnonnull (tgt := 74) hx hb d_Sheet_strongest_67 (by decide) (fun o16 hn18 => ?_) (fun hn18 => ?_)
  · subst hn18
    replace hf := q_on_s hf
    refine qj_aload_n hx hb d_Sheet_strongest_74 rfl 2 rfl ?_
    refine qj_iload_n hx hb d_Sheet_strongest_75 rfl 0 rfl ?_
    refine qj_iload_n hx hb d_Sheet_strongest_76 rfl 1 rfl ?_
    have hf9 := q_bp_s hf; clear hf; obtain ⟨x17, hx17, hf⟩ := hf9
    refine qc_Vi (st := []) hx hb hml hown hts hK (qX_ok _ _ _ _) hs (c_Rule_declared o16 a1 a2 (tr15 _ rfl) M _ hx17) ⟨(callB_of 2 hts (q_good tw_358) rfl rfl rfl (hts _ tw_261) (hts _ tw_359) (by decide +kernel) ⟨by decide, by decide⟩), (hts _ tw_360), (hts _ tw_361)⟩ (q_in (tr15 _ rfl) (by decide)) (en_18 (tr15 _ rfl)) rfl rfl rfl (Nat.le_of_ble_eq_true rfl) d_Sheet_strongest_77 ?_
    exact hret _ _ _ _ d_Sheet_strongest_80 (congrArg (fun z => (z, M)) (Option.some.inj hf))
  · subst hn18
    replace hf := q_on_n hf
    refine qj_iconst (v := (-1)) hx hb d_Sheet_strongest_70 (by decide) ?_
    refine qj_goto (tgt := 80) hx hb d_Sheet_strongest_71 (by decide) ?_
    exact hret _ _ _ _ d_Sheet_strongest_80 (congrArg (fun z => (z, M)) (Option.some.inj hf))
theorem d_Layout_isBox_0 : decode prog_4_method_5_code 0 = .ok (.aload_n 0, 1) := by decide +kernel
theorem d_Layout_isBox_1 : decode prog_4_method_5_code 1 = .ok (.invokevirtual 129, 3) := by decide +kernel
theorem d_Layout_isBox_4 : decode prog_4_method_5_code 4 = .ok (.ifCond .eq 18, 3) := by decide +kernel
theorem d_Layout_isBox_7 : decode prog_4_method_5_code 7 = .ok (.aload_n 0, 1) := by decide +kernel
theorem d_Layout_isBox_8 : decode prog_4_method_5_code 8 = .ok (.getfield 66, 3) := by decide +kernel
theorem d_Layout_isBox_11 : decode prog_4_method_5_code 11 = .ok (.iconst 3, 1) := by decide +kernel
theorem d_Layout_isBox_12 : decode prog_4_method_5_code 12 = .ok (.iaload, 1) := by decide +kernel
theorem d_Layout_isBox_13 : decode prog_4_method_5_code 13 = .ok (.bipush 98, 2) := by decide +kernel
theorem d_Layout_isBox_15 : decode prog_4_method_5_code 15 = .ok (.if_icmp .ne 7, 3) := by decide +kernel
theorem d_Layout_isBox_18 : decode prog_4_method_5_code 18 = .ok (.iconst 1, 1) := by decide +kernel
theorem d_Layout_isBox_19 : decode prog_4_method_5_code 19 = .ok (.goto 4, 3) := by decide +kernel
theorem d_Layout_isBox_22 : decode prog_4_method_5_code 22 = .ok (.iconst 0, 1) := by decide +kernel
theorem d_Layout_isBox_23 : decode prog_4_method_5_code 23 = .ok (.ireturn, 1) := by decide +kernel
def f_Layout_isBox (q0 : Nat) (M : qM) : Option Int32 := q_bp (f_Node_isElement q0 M) fun x1 => if x1 = 0 then (some 0) else (q_ix (3 : Int32) 7 <| if (M.1 (q0 + 3) (3 : Int32).toNatClampNeg) = 98 then (some 1) else (some 0))
abbrev rm_Layout_isBox : Room := { frames := 1, cells := 0, slots := 0, locals := 20 }
set_option maxRecDepth 100000 in
set_option maxHeartbeats 4000000 in
theorem c_Layout_isBox {l : Launch} {D : va_G} {dA : Nat → ClassId} {b : Nat} {adK adV : Nat → Nat} (q0 : Nat) (tq0 : tcX q0 = 7) (M : qM) (out : Int32) (hf : f_Layout_isBox q0 M = some out) : CTi l y_Layout_isBox w_Layout_isBox rm_Layout_isBox D (tysX dA) (enX dA b) 367 b (qX adK adV 367 b) [qr (some q0)] M (out, M) := by
  refine qm_z (cc := prog_4_method_5_code) (nL := 1) (by decide) rfl (Nat.le_of_ble_eq_true rfl) ?_
  intro p e s m args below meth c Q hx hb hts0 hown hml hK hs hret
  have hts : ∀ w ∈ lw_g, w.before args s = true := fun w h => hts0 w (List.mem_cons_of_mem _ h)
  show QJ p l e rm_Layout_isBox s m args below meth c (qA 367 b) b 1 0 0 Q (qWd D (enX dA b) 367 b) M 0 [(0, qr (some q0))] []
  unfold f_Layout_isBox at hf
  refine qj_aload_n hx hb d_Layout_isBox_0 rfl 0 rfl ?_
  have hf9 := q_bp_s hf; clear hf; obtain ⟨x1, hx1, hf⟩ := hf9
  refine qc_Vi (st := []) hx hb hml hown hts hK (qX_ok _ _ _ _) hs (c_Node_isElement q0 tq0 M _ hx1) ⟨(callB_of 0 hts (q_good tw_351) rfl rfl rfl (hts _ tw_37) (hts _ tw_366) (by decide +kernel) ⟨by decide, by decide⟩), (hts _ tw_353), (hts _ tw_354)⟩ (q_in tq0 (by decide)) (en_7 tq0) rfl rfl rfl (Nat.le_of_ble_eq_true rfl) d_Layout_isBox_1 ?_
  refine qj_if_eq (tgt := 22) hx hb d_Layout_isBox_4 (by decide) (fun hc2 => ?_) (fun hc2 => ?_)
  · replace hf := q_if_t hc2 hf
    refine qj_iconst (v := 0) hx hb d_Layout_isBox_22 (by decide) ?_
    exact hret _ _ _ _ (Or.inl rfl) d_Layout_isBox_23 (congrArg (fun z => (z, M)) (Option.some.inj hf))
  · replace hf := q_if_f hc2 hf
    refine qj_aload_n hx hb d_Layout_isBox_7 rfl 0 rfl ?_
    refine qj_get hx hb hts hin_3 hown hK (q_in tq0 (by decide)) (en_7 tq0) rfl 12 (by decide) (hts _ tw_367) (fun _ h => h) (qr (some (q0 + 3))) rfl d_Layout_isBox_8 ?_
    refine qj_iconst (v := 3) hx hb d_Layout_isBox_11 (by decide) ?_
    have hf9 := q_ix_s hf; clear hf; obtain ⟨hi3, hf⟩ := hf9
    refine qj_iald (t0 := 0) hx hb hK (q_in (tc_7_3 tq0) (by decide)) (en_10 (tc_7_3 tq0)) rfl hi3 d_Layout_isBox_12 ?_
    refine qj_bipush (v := 98) hx hb d_Layout_isBox_13 (by decide) ?_
    refine qj_icmp_ne (tgt := 22) hx hb d_Layout_isBox_15 (by decide) (fun hc4 => ?_) (fun hc4 => ?_)
    · replace hf := q_if_f hc4 hf
      refine qj_iconst (v := 0) hx hb d_Layout_isBox_22 (by decide) ?_
      exact hret _ _ _ _ (Or.inl rfl) d_Layout_isBox_23 (congrArg (fun z => (z, M)) (Option.some.inj hf))
    · replace hf := q_if_t hc4 hf
      refine qj_iconst (v := 1) hx hb d_Layout_isBox_18 (by decide) ?_
      refine qj_goto (tgt := 23) hx hb d_Layout_isBox_19 (by decide) ?_
      exact hret _ _ _ _ (Or.inr rfl) d_Layout_isBox_23 (congrArg (fun z => (z, M)) (Option.some.inj hf))
theorem d_Run_beginIn_0 : decode prog_9_method_2_code 0 = .ok (.aload_n 0, 1) := by decide +kernel
theorem d_Run_beginIn_1 : decode prog_9_method_2_code 1 = .ok (.aload_n 1, 1) := by decide +kernel
theorem d_Run_beginIn_2 : decode prog_9_method_2_code 2 = .ok (.getfield 17, 3) := by decide +kernel
theorem d_Run_beginIn_5 : decode prog_9_method_2_code 5 = .ok (.putfield 23, 3) := by decide +kernel
theorem d_Run_beginIn_8 : decode prog_9_method_2_code 8 = .ok (.aload_n 0, 1) := by decide +kernel
theorem d_Run_beginIn_9 : decode prog_9_method_2_code 9 = .ok (.aload_n 1, 1) := by decide +kernel
theorem d_Run_beginIn_10 : decode prog_9_method_2_code 10 = .ok (.getfield 26, 3) := by decide +kernel
theorem d_Run_beginIn_13 : decode prog_9_method_2_code 13 = .ok (.aload_n 1, 1) := by decide +kernel
theorem d_Run_beginIn_14 : decode prog_9_method_2_code 14 = .ok (.getfield 29, 3) := by decide +kernel
theorem d_Run_beginIn_17 : decode prog_9_method_2_code 17 = .ok (.iadd, 1) := by decide +kernel
theorem d_Run_beginIn_18 : decode prog_9_method_2_code 18 = .ok (.putfield 32, 3) := by decide +kernel
theorem d_Run_beginIn_21 : decode prog_9_method_2_code 21 = .ok (.aload_n 0, 1) := by decide +kernel
theorem d_Run_beginIn_22 : decode prog_9_method_2_code 22 = .ok (.aload_n 1, 1) := by decide +kernel
theorem d_Run_beginIn_23 : decode prog_9_method_2_code 23 = .ok (.getfield 35, 3) := by decide +kernel
theorem d_Run_beginIn_26 : decode prog_9_method_2_code 26 = .ok (.putfield 38, 3) := by decide +kernel
theorem d_Run_beginIn_29 : decode prog_9_method_2_code 29 = .ok (.aload_n 0, 1) := by decide +kernel
theorem d_Run_beginIn_30 : decode prog_9_method_2_code 30 = .ok (.iconst 0, 1) := by decide +kernel
theorem d_Run_beginIn_31 : decode prog_9_method_2_code 31 = .ok (.putfield 41, 3) := by decide +kernel
theorem d_Run_beginIn_34 : decode prog_9_method_2_code 34 = .ok (.aload_n 0, 1) := by decide +kernel
theorem d_Run_beginIn_35 : decode prog_9_method_2_code 35 = .ok (.iconst 0, 1) := by decide +kernel
theorem d_Run_beginIn_36 : decode prog_9_method_2_code 36 = .ok (.putfield 44, 3) := by decide +kernel
theorem d_Run_beginIn_39 : decode prog_9_method_2_code 39 = .ok (.aload_n 0, 1) := by decide +kernel
theorem d_Run_beginIn_40 : decode prog_9_method_2_code 40 = .ok (.iconst 0, 1) := by decide +kernel
theorem d_Run_beginIn_41 : decode prog_9_method_2_code 41 = .ok (.putfield 47, 3) := by decide +kernel
theorem d_Run_beginIn_44 : decode prog_9_method_2_code 44 = .ok (.aload_n 0, 1) := by decide +kernel
theorem d_Run_beginIn_45 : decode prog_9_method_2_code 45 = .ok (.iconst 0, 1) := by decide +kernel
theorem d_Run_beginIn_46 : decode prog_9_method_2_code 46 = .ok (.putfield 50, 3) := by decide +kernel
theorem d_Run_beginIn_49 : decode prog_9_method_2_code 49 = .ok (.aload_n 0, 1) := by decide +kernel
theorem d_Run_beginIn_50 : decode prog_9_method_2_code 50 = .ok (.iconst 0, 1) := by decide +kernel
theorem d_Run_beginIn_51 : decode prog_9_method_2_code 51 = .ok (.putfield 53, 3) := by decide +kernel
theorem d_Run_beginIn_54 : decode prog_9_method_2_code 54 = .ok (.aload_n 0, 1) := by decide +kernel
theorem d_Run_beginIn_55 : decode prog_9_method_2_code 55 = .ok (.iconst 0, 1) := by decide +kernel
theorem d_Run_beginIn_56 : decode prog_9_method_2_code 56 = .ok (.putfield 56, 3) := by decide +kernel
theorem d_Run_beginIn_59 : decode prog_9_method_2_code 59 = .ok (.aload_n 0, 1) := by decide +kernel
theorem d_Run_beginIn_60 : decode prog_9_method_2_code 60 = .ok (.iconst (-1), 1) := by decide +kernel
theorem d_Run_beginIn_61 : decode prog_9_method_2_code 61 = .ok (.putfield 59, 3) := by decide +kernel
theorem d_Run_beginIn_64 : decode prog_9_method_2_code 64 = .ok (.aload_n 0, 1) := by decide +kernel
theorem d_Run_beginIn_65 : decode prog_9_method_2_code 65 = .ok (.iconst 0, 1) := by decide +kernel
theorem d_Run_beginIn_66 : decode prog_9_method_2_code 66 = .ok (.putfield 62, 3) := by decide +kernel
theorem d_Run_beginIn_69 : decode prog_9_method_2_code 69 = .ok (.return_, 1) := by decide +kernel
def f_Run_beginIn (q1 : Nat) (M : qM) : Option qM := q_lt (qsI M 365 4 (M.1 q1 5)) fun M1 => q_lt (qsI M1 365 11 ((M1.1 q1 8) + (M1.1 q1 9))) fun M2 => q_lt (qsI M2 365 5 (M2.1 q1 7)) fun M3 => q_lt (qsI M3 365 1 0) fun M4 => q_lt (qsI M4 365 2 0) fun M5 => q_lt (qsI M5 365 3 0) fun M6 => q_lt (qsI M6 365 6 0) fun M7 => q_lt (qsI M7 365 7 0) fun M8 => q_lt (qsI M8 365 8 0) fun M9 => q_lt (qsI M9 365 9 (-1)) fun M10 => q_lt (qsI M10 365 10 0) fun M11 => some M11
abbrev rm_Run_beginIn : Room := { frames := 0, cells := 0, slots := 0, locals := 0 }
set_option maxRecDepth 100000 in
set_option maxHeartbeats 4000000 in
theorem c_Run_beginIn {l : Launch} {D : va_G} {dA : Nat → ClassId} {b : Nat} {adK adV : Nat → Nat} (q1 : Nat) (tq1 : tcX q1 = 11) (M : qM) (out : qM) (hf : f_Run_beginIn q1 M = some out) : CTv l y_Run_beginIn w_Run_beginIn rm_Run_beginIn D (tysX dA) (enX dA b) 367 b (qX adK adV 367 b) [qr (some 365), qr (some q1)] M out := by
  refine qm_v (cc := prog_9_method_2_code) (nL := 2) (by decide) rfl (Nat.le_of_ble_eq_true rfl) ?_
  intro p e s m args below meth c Q hx hb hts0 hown hml hK hs hret
  have hts : ∀ w ∈ lw_g, w.before args s = true := fun w h => hts0 w (List.mem_cons_of_mem _ h)
  show QJ p l e rm_Run_beginIn s m args below meth c (qA 367 b) b 2 0 0 Q (qWd D (enX dA b) 367 b) M 0 [(0, qr (some 365)), (1, qr (some q1))] []
  unfold f_Run_beginIn at hf
  refine qj_aload_n hx hb d_Run_beginIn_0 rfl 0 rfl ?_
  refine qj_aload_n hx hb d_Run_beginIn_1 rfl 1 rfl ?_
  refine qj_get hx hb hts hin_0 hown hK (q_in tq1 (by decide)) (en_11 tq1) rfl 5 (by decide) (hts _ tw_368) (fun _ h => h) (qi (M.1 q1 5)) rfl d_Run_beginIn_2 ?_
  have hf9 := q_lt_s hf; clear hf; obtain ⟨M1, eM1, hf⟩ := hf9
  refine qj_puti (ty := .int) hx hb hts hin_9 ty_9 tyok_9 nm_9 hown hK (q_in (rfl : tcX 365 = 25) (by decide)) (en_25 (rfl : tcX 365 = 25)) rfl 4 (by decide) (hts _ tw_369) (fun _ h => h) rfl (by decide +kernel) rfl rfl (Nat.le_of_ble_eq_true rfl) (sp_25_4 (rfl : tcX 365 = 25)) eM1 d_Run_beginIn_5 ?_
  refine qj_aload_n hx hb d_Run_beginIn_8 rfl 0 rfl ?_
  refine qj_aload_n hx hb d_Run_beginIn_9 rfl 1 rfl ?_
  refine qj_get hx hb hts hin_0 hown hK (q_in tq1 (by decide)) (en_11 tq1) rfl 8 (by decide) (hts _ tw_370) (fun _ h => h) (qi (M1.1 q1 8)) rfl d_Run_beginIn_10 ?_
  refine qj_aload_n hx hb d_Run_beginIn_13 rfl 1 rfl ?_
  refine qj_get hx hb hts hin_0 hown hK (q_in tq1 (by decide)) (en_11 tq1) rfl 9 (by decide) (hts _ tw_371) (fun _ h => h) (qi (M1.1 q1 9)) rfl d_Run_beginIn_14 ?_
  refine qj_iadd hx hb d_Run_beginIn_17 ?_
  have hf9 := q_lt_s hf; clear hf; obtain ⟨M2, eM2, hf⟩ := hf9
  refine qj_puti (ty := .int) hx hb hts hin_9 ty_9 tyok_9 nm_9 hown hK (q_in (rfl : tcX 365 = 25) (by decide)) (en_25 (rfl : tcX 365 = 25)) rfl 11 (by decide) (hts _ tw_372) (fun _ h => h) rfl (by decide +kernel) rfl rfl (Nat.le_of_ble_eq_true rfl) (sp_25_11 (rfl : tcX 365 = 25)) eM2 d_Run_beginIn_18 ?_
  refine qj_aload_n hx hb d_Run_beginIn_21 rfl 0 rfl ?_
  refine qj_aload_n hx hb d_Run_beginIn_22 rfl 1 rfl ?_
  refine qj_get hx hb hts hin_0 hown hK (q_in tq1 (by decide)) (en_11 tq1) rfl 7 (by decide) (hts _ tw_373) (fun _ h => h) (qi (M2.1 q1 7)) rfl d_Run_beginIn_23 ?_
  have hf9 := q_lt_s hf; clear hf; obtain ⟨M3, eM3, hf⟩ := hf9
  refine qj_puti (ty := .int) hx hb hts hin_9 ty_9 tyok_9 nm_9 hown hK (q_in (rfl : tcX 365 = 25) (by decide)) (en_25 (rfl : tcX 365 = 25)) rfl 5 (by decide) (hts _ tw_374) (fun _ h => h) rfl (by decide +kernel) rfl rfl (Nat.le_of_ble_eq_true rfl) (sp_25_5 (rfl : tcX 365 = 25)) eM3 d_Run_beginIn_26 ?_
  refine qj_aload_n hx hb d_Run_beginIn_29 rfl 0 rfl ?_
  refine qj_iconst (v := 0) hx hb d_Run_beginIn_30 (by decide) ?_
  have hf9 := q_lt_s hf; clear hf; obtain ⟨M4, eM4, hf⟩ := hf9
  refine qj_puti (ty := .int) hx hb hts hin_9 ty_9 tyok_9 nm_9 hown hK (q_in (rfl : tcX 365 = 25) (by decide)) (en_25 (rfl : tcX 365 = 25)) rfl 1 (by decide) (hts _ tw_375) (fun _ h => h) rfl (by decide +kernel) rfl rfl (Nat.le_of_ble_eq_true rfl) (sp_25_1 (rfl : tcX 365 = 25)) eM4 d_Run_beginIn_31 ?_
  refine qj_aload_n hx hb d_Run_beginIn_34 rfl 0 rfl ?_
  refine qj_iconst (v := 0) hx hb d_Run_beginIn_35 (by decide) ?_
  have hf9 := q_lt_s hf; clear hf; obtain ⟨M5, eM5, hf⟩ := hf9
  refine qj_puti (ty := .int) hx hb hts hin_9 ty_9 tyok_9 nm_9 hown hK (q_in (rfl : tcX 365 = 25) (by decide)) (en_25 (rfl : tcX 365 = 25)) rfl 2 (by decide) (hts _ tw_376) (fun _ h => h) rfl (by decide +kernel) rfl rfl (Nat.le_of_ble_eq_true rfl) (sp_25_2 (rfl : tcX 365 = 25)) eM5 d_Run_beginIn_36 ?_
  refine qj_aload_n hx hb d_Run_beginIn_39 rfl 0 rfl ?_
  refine qj_iconst (v := 0) hx hb d_Run_beginIn_40 (by decide) ?_
  have hf9 := q_lt_s hf; clear hf; obtain ⟨M6, eM6, hf⟩ := hf9
  refine qj_puti (ty := .int) hx hb hts hin_9 ty_9 tyok_9 nm_9 hown hK (q_in (rfl : tcX 365 = 25) (by decide)) (en_25 (rfl : tcX 365 = 25)) rfl 3 (by decide) (hts _ tw_377) (fun _ h => h) rfl (by decide +kernel) rfl rfl (Nat.le_of_ble_eq_true rfl) (sp_25_3 (rfl : tcX 365 = 25)) eM6 d_Run_beginIn_41 ?_
  refine qj_aload_n hx hb d_Run_beginIn_44 rfl 0 rfl ?_
  refine qj_iconst (v := 0) hx hb d_Run_beginIn_45 (by decide) ?_
  have hf9 := q_lt_s hf; clear hf; obtain ⟨M7, eM7, hf⟩ := hf9
  refine qj_puti (ty := .int) hx hb hts hin_9 ty_9 tyok_9 nm_9 hown hK (q_in (rfl : tcX 365 = 25) (by decide)) (en_25 (rfl : tcX 365 = 25)) rfl 6 (by decide) (hts _ tw_378) (fun _ h => h) rfl (by decide +kernel) rfl rfl (Nat.le_of_ble_eq_true rfl) (sp_25_6 (rfl : tcX 365 = 25)) eM7 d_Run_beginIn_46 ?_
  refine qj_aload_n hx hb d_Run_beginIn_49 rfl 0 rfl ?_
  refine qj_iconst (v := 0) hx hb d_Run_beginIn_50 (by decide) ?_
  have hf9 := q_lt_s hf; clear hf; obtain ⟨M8, eM8, hf⟩ := hf9
  refine qj_puti (ty := .int) hx hb hts hin_9 ty_9 tyok_9 nm_9 hown hK (q_in (rfl : tcX 365 = 25) (by decide)) (en_25 (rfl : tcX 365 = 25)) rfl 7 (by decide) (hts _ tw_379) (fun _ h => h) rfl (by decide +kernel) rfl rfl (Nat.le_of_ble_eq_true rfl) (sp_25_7 (rfl : tcX 365 = 25)) eM8 d_Run_beginIn_51 ?_
  refine qj_aload_n hx hb d_Run_beginIn_54 rfl 0 rfl ?_
  refine qj_iconst (v := 0) hx hb d_Run_beginIn_55 (by decide) ?_
  have hf9 := q_lt_s hf; clear hf; obtain ⟨M9, eM9, hf⟩ := hf9
  refine qj_puti (ty := .int) hx hb hts hin_9 ty_9 tyok_9 nm_9 hown hK (q_in (rfl : tcX 365 = 25) (by decide)) (en_25 (rfl : tcX 365 = 25)) rfl 8 (by decide) (hts _ tw_380) (fun _ h => h) rfl (by decide +kernel) rfl rfl (Nat.le_of_ble_eq_true rfl) (sp_25_8 (rfl : tcX 365 = 25)) eM9 d_Run_beginIn_56 ?_
  refine qj_aload_n hx hb d_Run_beginIn_59 rfl 0 rfl ?_
  refine qj_iconst (v := (-1)) hx hb d_Run_beginIn_60 (by decide) ?_
  have hf9 := q_lt_s hf; clear hf; obtain ⟨M10, eM10, hf⟩ := hf9
  refine qj_puti (ty := .int) hx hb hts hin_9 ty_9 tyok_9 nm_9 hown hK (q_in (rfl : tcX 365 = 25) (by decide)) (en_25 (rfl : tcX 365 = 25)) rfl 9 (by decide) (hts _ tw_381) (fun _ h => h) rfl (by decide +kernel) rfl rfl (Nat.le_of_ble_eq_true rfl) (sp_25_9 (rfl : tcX 365 = 25)) eM10 d_Run_beginIn_61 ?_
  refine qj_aload_n hx hb d_Run_beginIn_64 rfl 0 rfl ?_
  refine qj_iconst (v := 0) hx hb d_Run_beginIn_65 (by decide) ?_
  have hf9 := q_lt_s hf; clear hf; obtain ⟨M11, eM11, hf⟩ := hf9
  refine qj_puti (ty := .boolean) hx hb hts hin_9 ty_9 tyok_9 nm_9 hown hK (q_in (rfl : tcX 365 = 25) (by decide)) (en_25 (rfl : tcX 365 = 25)) rfl 10 (by decide) (hts _ tw_382) (fun _ h => h) rfl (by decide +kernel) rfl rfl (Nat.le_of_ble_eq_true rfl) (sp_25_10 (rfl : tcX 365 = 25)) eM11 d_Run_beginIn_66 ?_
  exact hret _ _ _ d_Run_beginIn_69 (Option.some.inj hf)
theorem d_Run_endLine_0 : decode prog_9_method_7_code 0 = .ok (.aload_n 0, 1) := by decide +kernel
theorem d_Run_endLine_1 : decode prog_9_method_7_code 1 = .ok (.getfield 41, 3) := by decide +kernel
theorem d_Run_endLine_4 : decode prog_9_method_7_code 4 = .ok (.istore_n 1, 1) := by decide +kernel
theorem d_Run_endLine_5 : decode prog_9_method_7_code 5 = .ok (.iload_n 1, 1) := by decide +kernel
theorem d_Run_endLine_6 : decode prog_9_method_7_code 6 = .ok (.aload_n 0, 1) := by decide +kernel
theorem d_Run_endLine_7 : decode prog_9_method_7_code 7 = .ok (.getfield 44, 3) := by decide +kernel
theorem d_Run_endLine_10 : decode prog_9_method_7_code 10 = .ok (.if_icmp .ge 37, 3) := by decide +kernel
theorem d_Run_endLine_13 : decode prog_9_method_7_code 13 = .ok (.aload_n 0, 1) := by decide +kernel
theorem d_Run_endLine_14 : decode prog_9_method_7_code 14 = .ok (.getfield 11, 3) := by decide +kernel
theorem d_Run_endLine_17 : decode prog_9_method_7_code 17 = .ok (.iload_n 1, 1) := by decide +kernel
theorem d_Run_endLine_18 : decode prog_9_method_7_code 18 = .ok (.aaload, 1) := by decide +kernel
theorem d_Run_endLine_19 : decode prog_9_method_7_code 19 = .ok (.aload_n 0, 1) := by decide +kernel
theorem d_Run_endLine_20 : decode prog_9_method_7_code 20 = .ok (.getfield 32, 3) := by decide +kernel
theorem d_Run_endLine_23 : decode prog_9_method_7_code 23 = .ok (.aload_n 0, 1) := by decide +kernel
theorem d_Run_endLine_24 : decode prog_9_method_7_code 24 = .ok (.getfield 56, 3) := by decide +kernel
theorem d_Run_endLine_27 : decode prog_9_method_7_code 27 = .ok (.iadd, 1) := by decide +kernel
theorem d_Run_endLine_28 : decode prog_9_method_7_code 28 = .ok (.aload_n 0, 1) := by decide +kernel
theorem d_Run_endLine_29 : decode prog_9_method_7_code 29 = .ok (.getfield 11, 3) := by decide +kernel
theorem d_Run_endLine_32 : decode prog_9_method_7_code 32 = .ok (.iload_n 1, 1) := by decide +kernel
theorem d_Run_endLine_33 : decode prog_9_method_7_code 33 = .ok (.aaload, 1) := by decide +kernel
theorem d_Run_endLine_34 : decode prog_9_method_7_code 34 = .ok (.getfield 78, 3) := by decide +kernel
theorem d_Run_endLine_37 : decode prog_9_method_7_code 37 = .ok (.isub, 1) := by decide +kernel
theorem d_Run_endLine_38 : decode prog_9_method_7_code 38 = .ok (.putfield 97, 3) := by decide +kernel
theorem d_Run_endLine_41 : decode prog_9_method_7_code 41 = .ok (.iinc 1 1, 3) := by decide +kernel
theorem d_Run_endLine_44 : decode prog_9_method_7_code 44 = .ok (.goto (-39), 3) := by decide +kernel
theorem d_Run_endLine_47 : decode prog_9_method_7_code 47 = .ok (.aload_n 0, 1) := by decide +kernel
theorem d_Run_endLine_48 : decode prog_9_method_7_code 48 = .ok (.dup, 1) := by decide +kernel
theorem d_Run_endLine_49 : decode prog_9_method_7_code 49 = .ok (.getfield 32, 3) := by decide +kernel
theorem d_Run_endLine_52 : decode prog_9_method_7_code 52 = .ok (.aload_n 0, 1) := by decide +kernel
theorem d_Run_endLine_53 : decode prog_9_method_7_code 53 = .ok (.getfield 56, 3) := by decide +kernel
theorem d_Run_endLine_56 : decode prog_9_method_7_code 56 = .ok (.iadd, 1) := by decide +kernel
theorem d_Run_endLine_57 : decode prog_9_method_7_code 57 = .ok (.putfield 32, 3) := by decide +kernel
theorem d_Run_endLine_60 : decode prog_9_method_7_code 60 = .ok (.aload_n 0, 1) := by decide +kernel
theorem d_Run_endLine_61 : decode prog_9_method_7_code 61 = .ok (.aload_n 0, 1) := by decide +kernel
theorem d_Run_endLine_62 : decode prog_9_method_7_code 62 = .ok (.getfield 44, 3) := by decide +kernel
theorem d_Run_endLine_65 : decode prog_9_method_7_code 65 = .ok (.putfield 41, 3) := by decide +kernel
theorem d_Run_endLine_68 : decode prog_9_method_7_code 68 = .ok (.aload_n 0, 1) := by decide +kernel
theorem d_Run_endLine_69 : decode prog_9_method_7_code 69 = .ok (.iconst 0, 1) := by decide +kernel
theorem d_Run_endLine_70 : decode prog_9_method_7_code 70 = .ok (.putfield 50, 3) := by decide +kernel
theorem d_Run_endLine_73 : decode prog_9_method_7_code 73 = .ok (.aload_n 0, 1) := by decide +kernel
theorem d_Run_endLine_74 : decode prog_9_method_7_code 74 = .ok (.iconst 0, 1) := by decide +kernel
theorem d_Run_endLine_75 : decode prog_9_method_7_code 75 = .ok (.putfield 56, 3) := by decide +kernel
theorem d_Run_endLine_78 : decode prog_9_method_7_code 78 = .ok (.aload_n 0, 1) := by decide +kernel
theorem d_Run_endLine_79 : decode prog_9_method_7_code 79 = .ok (.iconst 1, 1) := by decide +kernel
theorem d_Run_endLine_80 : decode prog_9_method_7_code 80 = .ok (.putfield 62, 3) := by decide +kernel
theorem d_Run_endLine_83 : decode prog_9_method_7_code 83 = .ok (.aload_n 0, 1) := by decide +kernel
theorem d_Run_endLine_84 : decode prog_9_method_7_code 84 = .ok (.dup, 1) := by decide +kernel
theorem d_Run_endLine_85 : decode prog_9_method_7_code 85 = .ok (.getfield 98, 3) := by decide +kernel
theorem d_Run_endLine_88 : decode prog_9_method_7_code 88 = .ok (.iconst 1, 1) := by decide +kernel
theorem d_Run_endLine_89 : decode prog_9_method_7_code 89 = .ok (.iadd, 1) := by decide +kernel
theorem d_Run_endLine_90 : decode prog_9_method_7_code 90 = .ok (.putfield 98, 3) := by decide +kernel
theorem d_Run_endLine_93 : decode prog_9_method_7_code 93 = .ok (.return_, 1) := by decide +kernel
def f_Run_endLine_5  : Nat → (qM → Option qM) → Int32 → qM → Option qM
  | 0, _, _, _ => none
  | n + 1, K3, x1, M2 => if (M2.1 365 2) ≤ x1 then (K3 M2) else (q_ix x1 160 <| q_lt (M2.2 366 x1.toNatClampNeg) fun r6 => q_ix x1 160 <| q_lt (M2.2 366 x1.toNatClampNeg) fun r8 => q_nn r8 fun o9 => q_nn r6 fun o10 => q_lt (qsI M2 o10 5 (((M2.1 365 11) + (M2.1 365 8)) - (M2.1 o9 3))) fun M11 => f_Run_endLine_5 n K3 (x1 + 1) M11)
def f_Run_endLine  (M : qM) : Option qM := f_Run_endLine_5 1000 (fun (M12 : qM) => q_lt (qsI M12 365 11 ((M12.1 365 11) + (M12.1 365 8))) fun M13 => q_lt (qsI M13 365 1 (M13.1 365 2)) fun M14 => q_lt (qsI M14 365 6 0) fun M15 => q_lt (qsI M15 365 8 0) fun M16 => q_lt (qsI M16 365 10 1) fun M17 => q_lt (qsI M17 365 12 ((M17.1 365 12) + 1)) fun M18 => some M18) (M.1 365 1) M
abbrev rm_Run_endLine : Room := { frames := 0, cells := 0, slots := 0, locals := 0 }
set_option maxRecDepth 100000 in
set_option maxHeartbeats 4000000 in
theorem c_Run_endLine {l : Launch} {D : va_G} {dA : Nat → ClassId} {b : Nat} {adK adV : Nat → Nat}   (M : qM) (out : qM) (hf : f_Run_endLine M = some out) : CTv l y_Run_endLine w_Run_endLine rm_Run_endLine D (tysX dA) (enX dA b) 367 b (qX adK adV 367 b) [qr (some 365)] M out := by
  refine qm_v (cc := prog_9_method_7_code) (nL := 2) (by decide) rfl (Nat.le_of_ble_eq_true rfl) ?_
  intro p e s m args below meth c Q hx hb hts0 hown hml hK hs hret
  have hts : ∀ w ∈ lw_g, w.before args s = true := fun w h => hts0 w (List.mem_cons_of_mem _ h)
  show QJ p l e rm_Run_endLine s m args below meth c (qA 367 b) b 2 0 0 Q (qWd D (enX dA b) 367 b) M 0 [(0, qr (some 365))] []
  unfold f_Run_endLine at hf
  refine qj_aload_n hx hb d_Run_endLine_0 rfl 0 rfl ?_
  refine qj_get hx hb hts hin_9 hown hK (q_in (rfl : tcX 365 = 25) (by decide)) (en_25 (rfl : tcX 365 = 25)) rfl 1 (by decide) (hts _ tw_375) (fun _ h => h) (qi (M.1 365 1)) rfl d_Run_endLine_1 ?_
  refine qj_istore_n hx hb d_Run_endLine_4 rfl (by decide) rfl ?_
  have hL5 : ∀ (n : Nat) (K3 : qM → Option qM), (∀ (M12 : qM), K3 M12 = some out → QJ p l e rm_Run_endLine s m args below meth c (qA 367 b) b 2 0 0 Q (qWd D (enX dA b) 367 b) M12 47 [(0, qr (some 365))] []) → ∀ (x1 : Int32) (M2 : qM), f_Run_endLine_5 n K3 x1 M2 = some out → QJ p l e rm_Run_endLine s m args below meth c (qA 367 b) b 2 0 0 Q (qWd D (enX dA b) 367 b) M2 5 [(0, qr (some 365)), (1, qi x1)] [] := by
    clear hf
    intro n
    induction n with
    | zero =>
      intro K3 hK3 x1 M2 hf
      exact absurd hf (by simp [f_Run_endLine_5])
    | succ n ih5 =>
      intro K3 hK3 x1 M2 hf
      rw [f_Run_endLine_5] at hf
      have ih5 := ih5 K3 hK3
      refine qj_iload_n hx hb d_Run_endLine_5 rfl 1 rfl ?_
      refine qj_aload_n hx hb d_Run_endLine_6 rfl 0 rfl ?_
      refine qj_get hx hb hts hin_9 hown hK (q_in (rfl : tcX 365 = 25) (by decide)) (en_25 (rfl : tcX 365 = 25)) rfl 2 (by decide) (hts _ tw_376) (fun _ h => h) (qi (M2.1 365 2)) rfl d_Run_endLine_7 ?_
      refine qj_icmp_ge (tgt := 47) hx hb d_Run_endLine_10 (by decide) (fun hc4 => ?_) (fun hc4 => ?_)
      · replace hf := q_if_t hc4 hf
        refine qj_sub [0] rfl ?_
        exact hK3 M2 hf
      · replace hf := q_if_f hc4 hf
        refine qj_aload_n hx hb d_Run_endLine_13 rfl 0 rfl ?_
        refine qj_get hx hb hts hin_9 hown hK (q_in (rfl : tcX 365 = 25) (by decide)) (en_25 (rfl : tcX 365 = 25)) rfl 0 (by decide) (hts _ tw_383) (fun _ h => h) (qr (some 366)) rfl d_Run_endLine_14 ?_
        refine qj_iload_n hx hb d_Run_endLine_17 rfl 1 rfl ?_
        have hf9 := q_ix_s hf; clear hf; obtain ⟨hi5, hf⟩ := hf9
        have hf9 := q_lt_s hf; clear hf; obtain ⟨r6, er6, hf⟩ := hf9
        refine qj_w fun w => ?_
        have tr6 : ∀ o, r6 = some o → tcX o = 12 := fun o h => (w _ _ o (er6.symm.trans h)).trans (by rw [(rfl : tcX 366 = 26)] <;> rfl)
        refine qj_aald (t0 := 4) (f := M2.2 366) hx hb hK (q_in (rfl : tcX 366 = 26) (by decide)) (en_26 (rfl : tcX 366 = 26) _ _) rfl hi5 d_Run_endLine_18 ?_
        rw [← er6]
        refine qj_aload_n hx hb d_Run_endLine_19 rfl 0 rfl ?_
        refine qj_get hx hb hts hin_9 hown hK (q_in (rfl : tcX 365 = 25) (by decide)) (en_25 (rfl : tcX 365 = 25)) rfl 11 (by decide) (hts _ tw_372) (fun _ h => h) (qi (M2.1 365 11)) rfl d_Run_endLine_20 ?_
        refine qj_aload_n hx hb d_Run_endLine_23 rfl 0 rfl ?_
        refine qj_get hx hb hts hin_9 hown hK (q_in (rfl : tcX 365 = 25) (by decide)) (en_25 (rfl : tcX 365 = 25)) rfl 8 (by decide) (hts _ tw_380) (fun _ h => h) (qi (M2.1 365 8)) rfl d_Run_endLine_24 ?_
        refine qj_iadd hx hb d_Run_endLine_27 ?_
        refine qj_aload_n hx hb d_Run_endLine_28 rfl 0 rfl ?_
        refine qj_get hx hb hts hin_9 hown hK (q_in (rfl : tcX 365 = 25) (by decide)) (en_25 (rfl : tcX 365 = 25)) rfl 0 (by decide) (hts _ tw_383) (fun _ h => h) (qr (some 366)) rfl d_Run_endLine_29 ?_
        refine qj_iload_n hx hb d_Run_endLine_32 rfl 1 rfl ?_
        have hf9 := q_ix_s hf; clear hf; obtain ⟨hi7, hf⟩ := hf9
        have hf9 := q_lt_s hf; clear hf; obtain ⟨r8, er8, hf⟩ := hf9
        refine qj_w fun w => ?_
        have tr8 : ∀ o, r8 = some o → tcX o = 12 := fun o h => (w _ _ o (er8.symm.trans h)).trans (by rw [(rfl : tcX 366 = 26)] <;> rfl)
        refine qj_aald (t0 := 4) (f := M2.2 366) hx hb hK (q_in (rfl : tcX 366 = 26) (by decide)) (en_26 (rfl : tcX 366 = 26) _ _) rfl hi7 d_Run_endLine_33 ?_
        rw [← er8]
        have hf9 := q_nn_s hf; clear hf; obtain ⟨o9, rfl, hf⟩ := hf9
        refine qj_get hx hb hts hin_2 hown hK (q_in (tr8 _ rfl) (by decide)) (en_12 (tr8 _ rfl)) rfl 3 (by decide) (hts _ tw_384) (fun _ h => h) (qi (M2.1 o9 3)) rfl d_Run_endLine_34 ?_
        refine qj_isub hx hb d_Run_endLine_37 ?_
        have hf9 := q_nn_s hf; clear hf; obtain ⟨o10, rfl, hf⟩ := hf9
        have hf9 := q_lt_s hf; clear hf; obtain ⟨M11, eM11, hf⟩ := hf9
        refine qj_puti (ty := .int) hx hb hts hin_2 ty_2 tyok_2 nm_2 hown hK (q_in (tr6 _ rfl) (by decide)) (en_12 (tr6 _ rfl)) rfl 5 (by decide) (hts _ tw_385) (fun _ h => h) rfl (by decide +kernel) rfl rfl (Nat.le_of_ble_eq_true rfl) (sp_12_5 (tr6 _ rfl)) eM11 d_Run_endLine_38 ?_
        refine qj_iinc (j := 1) (v := x1 + 1) hx hb d_Run_endLine_41 rfl rfl (by decide) rfl ?_
        refine qj_goto (tgt := 5) hx hb d_Run_endLine_44 (by decide) ?_
        refine qj_sub [1, 0] rfl ?_
        exact ih5 (x1 + 1) M11 hf
  refine qj_sub [1, 0] rfl ?_
  refine hL5 _ _ (fun M12 hf9 => ?_) (M.1 365 1) M hf
  clear hf; have hf := hf9; clear hf9
  refine qj_aload_n hx hb d_Run_endLine_47 rfl 0 rfl ?_
  refine qj_dup hx hb d_Run_endLine_48 ?_
  refine qj_get hx hb hts hin_9 hown hK (q_in (rfl : tcX 365 = 25) (by decide)) (en_25 (rfl : tcX 365 = 25)) rfl 11 (by decide) (hts _ tw_372) (fun _ h => h) (qi (M12.1 365 11)) rfl d_Run_endLine_49 ?_
  refine qj_aload_n hx hb d_Run_endLine_52 rfl 0 rfl ?_
  refine qj_get hx hb hts hin_9 hown hK (q_in (rfl : tcX 365 = 25) (by decide)) (en_25 (rfl : tcX 365 = 25)) rfl 8 (by decide) (hts _ tw_380) (fun _ h => h) (qi (M12.1 365 8)) rfl d_Run_endLine_53 ?_
  refine qj_iadd hx hb d_Run_endLine_56 ?_
  have hf9 := q_lt_s hf; clear hf; obtain ⟨M13, eM13, hf⟩ := hf9
  refine qj_puti (ty := .int) hx hb hts hin_9 ty_9 tyok_9 nm_9 hown hK (q_in (rfl : tcX 365 = 25) (by decide)) (en_25 (rfl : tcX 365 = 25)) rfl 11 (by decide) (hts _ tw_372) (fun _ h => h) rfl (by decide +kernel) rfl rfl (Nat.le_of_ble_eq_true rfl) (sp_25_11 (rfl : tcX 365 = 25)) eM13 d_Run_endLine_57 ?_
  refine qj_aload_n hx hb d_Run_endLine_60 rfl 0 rfl ?_
  refine qj_aload_n hx hb d_Run_endLine_61 rfl 0 rfl ?_
  refine qj_get hx hb hts hin_9 hown hK (q_in (rfl : tcX 365 = 25) (by decide)) (en_25 (rfl : tcX 365 = 25)) rfl 2 (by decide) (hts _ tw_376) (fun _ h => h) (qi (M13.1 365 2)) rfl d_Run_endLine_62 ?_
  have hf9 := q_lt_s hf; clear hf; obtain ⟨M14, eM14, hf⟩ := hf9
  refine qj_puti (ty := .int) hx hb hts hin_9 ty_9 tyok_9 nm_9 hown hK (q_in (rfl : tcX 365 = 25) (by decide)) (en_25 (rfl : tcX 365 = 25)) rfl 1 (by decide) (hts _ tw_375) (fun _ h => h) rfl (by decide +kernel) rfl rfl (Nat.le_of_ble_eq_true rfl) (sp_25_1 (rfl : tcX 365 = 25)) eM14 d_Run_endLine_65 ?_
  refine qj_aload_n hx hb d_Run_endLine_68 rfl 0 rfl ?_
  refine qj_iconst (v := 0) hx hb d_Run_endLine_69 (by decide) ?_
  have hf9 := q_lt_s hf; clear hf; obtain ⟨M15, eM15, hf⟩ := hf9
  refine qj_puti (ty := .int) hx hb hts hin_9 ty_9 tyok_9 nm_9 hown hK (q_in (rfl : tcX 365 = 25) (by decide)) (en_25 (rfl : tcX 365 = 25)) rfl 6 (by decide) (hts _ tw_378) (fun _ h => h) rfl (by decide +kernel) rfl rfl (Nat.le_of_ble_eq_true rfl) (sp_25_6 (rfl : tcX 365 = 25)) eM15 d_Run_endLine_70 ?_
  refine qj_aload_n hx hb d_Run_endLine_73 rfl 0 rfl ?_
  refine qj_iconst (v := 0) hx hb d_Run_endLine_74 (by decide) ?_
  have hf9 := q_lt_s hf; clear hf; obtain ⟨M16, eM16, hf⟩ := hf9
  refine qj_puti (ty := .int) hx hb hts hin_9 ty_9 tyok_9 nm_9 hown hK (q_in (rfl : tcX 365 = 25) (by decide)) (en_25 (rfl : tcX 365 = 25)) rfl 8 (by decide) (hts _ tw_380) (fun _ h => h) rfl (by decide +kernel) rfl rfl (Nat.le_of_ble_eq_true rfl) (sp_25_8 (rfl : tcX 365 = 25)) eM16 d_Run_endLine_75 ?_
  refine qj_aload_n hx hb d_Run_endLine_78 rfl 0 rfl ?_
  refine qj_iconst (v := 1) hx hb d_Run_endLine_79 (by decide) ?_
  have hf9 := q_lt_s hf; clear hf; obtain ⟨M17, eM17, hf⟩ := hf9
  refine qj_puti (ty := .boolean) hx hb hts hin_9 ty_9 tyok_9 nm_9 hown hK (q_in (rfl : tcX 365 = 25) (by decide)) (en_25 (rfl : tcX 365 = 25)) rfl 10 (by decide) (hts _ tw_382) (fun _ h => h) rfl (by decide +kernel) rfl rfl (Nat.le_of_ble_eq_true rfl) (sp_25_10 (rfl : tcX 365 = 25)) eM17 d_Run_endLine_80 ?_
  refine qj_aload_n hx hb d_Run_endLine_83 rfl 0 rfl ?_
  refine qj_dup hx hb d_Run_endLine_84 ?_
  refine qj_get hx hb hts hin_9 hown hK (q_in (rfl : tcX 365 = 25) (by decide)) (en_25 (rfl : tcX 365 = 25)) rfl 12 (by decide) (hts _ tw_386) (fun _ h => h) (qi (M17.1 365 12)) rfl d_Run_endLine_85 ?_
  refine qj_iconst (v := 1) hx hb d_Run_endLine_88 (by decide) ?_
  refine qj_iadd hx hb d_Run_endLine_89 ?_
  have hf9 := q_lt_s hf; clear hf; obtain ⟨M18, eM18, hf⟩ := hf9
  refine qj_puti (ty := .int) hx hb hts hin_9 ty_9 tyok_9 nm_9 hown hK (q_in (rfl : tcX 365 = 25) (by decide)) (en_25 (rfl : tcX 365 = 25)) rfl 12 (by decide) (hts _ tw_386) (fun _ h => h) rfl (by decide +kernel) rfl rfl (Nat.le_of_ble_eq_true rfl) (sp_25_12 (rfl : tcX 365 = 25)) eM18 d_Run_endLine_90 ?_
  exact hret _ _ _ d_Run_endLine_93 (Option.some.inj hf)
