theorem d_Md_reset_0 : decode prog_14_method_5_code 0 = .ok (.aload_n 0, 1) := by decide +kernel
theorem d_Md_reset_1 : decode prog_14_method_5_code 1 = .ok (.iconst 0, 1) := by decide +kernel
theorem d_Md_reset_2 : decode prog_14_method_5_code 2 = .ok (.putfield 129, 3) := by decide +kernel
theorem d_Md_reset_5 : decode prog_14_method_5_code 5 = .ok (.aload_n 0, 1) := by decide +kernel
theorem d_Md_reset_6 : decode prog_14_method_5_code 6 = .ok (.iconst 1, 1) := by decide +kernel
theorem d_Md_reset_7 : decode prog_14_method_5_code 7 = .ok (.putfield 142, 3) := by decide +kernel
theorem d_Md_reset_10 : decode prog_14_method_5_code 10 = .ok (.aload_n 0, 1) := by decide +kernel
theorem d_Md_reset_11 : decode prog_14_method_5_code 11 = .ok (.getfield 16, 3) := by decide +kernel
theorem d_Md_reset_14 : decode prog_14_method_5_code 14 = .ok (.iconst 0, 1) := by decide +kernel
theorem d_Md_reset_15 : decode prog_14_method_5_code 15 = .ok (.iconst 0, 1) := by decide +kernel
theorem d_Md_reset_16 : decode prog_14_method_5_code 16 = .ok (.iastore, 1) := by decide +kernel
theorem d_Md_reset_17 : decode prog_14_method_5_code 17 = .ok (.aload_n 0, 1) := by decide +kernel
theorem d_Md_reset_18 : decode prog_14_method_5_code 18 = .ok (.iconst 1, 1) := by decide +kernel
theorem d_Md_reset_19 : decode prog_14_method_5_code 19 = .ok (.putfield 145, 3) := by decide +kernel
theorem d_Md_reset_22 : decode prog_14_method_5_code 22 = .ok (.aload_n 0, 1) := by decide +kernel
theorem d_Md_reset_23 : decode prog_14_method_5_code 23 = .ok (.getfield 19, 3) := by decide +kernel
theorem d_Md_reset_26 : decode prog_14_method_5_code 26 = .ok (.iconst 0, 1) := by decide +kernel
theorem d_Md_reset_27 : decode prog_14_method_5_code 27 = .ok (.iconst 0, 1) := by decide +kernel
theorem d_Md_reset_28 : decode prog_14_method_5_code 28 = .ok (.iastore, 1) := by decide +kernel
theorem d_Md_reset_29 : decode prog_14_method_5_code 29 = .ok (.aload_n 0, 1) := by decide +kernel
theorem d_Md_reset_30 : decode prog_14_method_5_code 30 = .ok (.getfield 22, 3) := by decide +kernel
theorem d_Md_reset_33 : decode prog_14_method_5_code 33 = .ok (.iconst 0, 1) := by decide +kernel
theorem d_Md_reset_34 : decode prog_14_method_5_code 34 = .ok (.iconst 0, 1) := by decide +kernel
theorem d_Md_reset_35 : decode prog_14_method_5_code 35 = .ok (.iastore, 1) := by decide +kernel
theorem d_Md_reset_36 : decode prog_14_method_5_code 36 = .ok (.aload_n 0, 1) := by decide +kernel
theorem d_Md_reset_37 : decode prog_14_method_5_code 37 = .ok (.getfield 25, 3) := by decide +kernel
theorem d_Md_reset_40 : decode prog_14_method_5_code 40 = .ok (.iconst 0, 1) := by decide +kernel
theorem d_Md_reset_41 : decode prog_14_method_5_code 41 = .ok (.iconst 0, 1) := by decide +kernel
theorem d_Md_reset_42 : decode prog_14_method_5_code 42 = .ok (.iastore, 1) := by decide +kernel
theorem d_Md_reset_43 : decode prog_14_method_5_code 43 = .ok (.aload_n 0, 1) := by decide +kernel
theorem d_Md_reset_44 : decode prog_14_method_5_code 44 = .ok (.getfield 31, 3) := by decide +kernel
theorem d_Md_reset_47 : decode prog_14_method_5_code 47 = .ok (.iconst 0, 1) := by decide +kernel
theorem d_Md_reset_48 : decode prog_14_method_5_code 48 = .ok (.iconst 0, 1) := by decide +kernel
theorem d_Md_reset_49 : decode prog_14_method_5_code 49 = .ok (.iastore, 1) := by decide +kernel
theorem d_Md_reset_50 : decode prog_14_method_5_code 50 = .ok (.aload_n 0, 1) := by decide +kernel
theorem d_Md_reset_51 : decode prog_14_method_5_code 51 = .ok (.iconst 1, 1) := by decide +kernel
theorem d_Md_reset_52 : decode prog_14_method_5_code 52 = .ok (.putfield 148, 3) := by decide +kernel
theorem d_Md_reset_55 : decode prog_14_method_5_code 55 = .ok (.aload_n 0, 1) := by decide +kernel
theorem d_Md_reset_56 : decode prog_14_method_5_code 56 = .ok (.iconst 0, 1) := by decide +kernel
theorem d_Md_reset_57 : decode prog_14_method_5_code 57 = .ok (.putfield 151, 3) := by decide +kernel
theorem d_Md_reset_60 : decode prog_14_method_5_code 60 = .ok (.aload_n 0, 1) := by decide +kernel
theorem d_Md_reset_61 : decode prog_14_method_5_code 61 = .ok (.iconst 0, 1) := by decide +kernel
theorem d_Md_reset_62 : decode prog_14_method_5_code 62 = .ok (.putfield 154, 3) := by decide +kernel
theorem d_Md_reset_65 : decode prog_14_method_5_code 65 = .ok (.return_, 1) := by decide +kernel
def f_Md_reset  (M : qM) : Option qM := q_lt (qsI M 0 4 0) fun M1 => q_lt (qsI M1 0 5 1) fun M2 => q_ix (0 : Int32) 40 <| q_lt (qsI M2 3 (0 : Int32).toNatClampNeg 0) fun M4 => q_lt (qsI M4 0 7 1) fun M5 => q_ix (0 : Int32) 40 <| q_lt (qsI M5 4 (0 : Int32).toNatClampNeg 0) fun M7 => q_ix (0 : Int32) 40 <| q_lt (qsI M7 5 (0 : Int32).toNatClampNeg 0) fun M9 => q_ix (0 : Int32) 40 <| q_lt (qsI M9 6 (0 : Int32).toNatClampNeg 0) fun M11 => q_ix (0 : Int32) 40 <| q_lt (qsI M11 8 (0 : Int32).toNatClampNeg 0) fun M13 => q_lt (qsI M13 0 13 1) fun M14 => q_lt (qsI M14 0 16 0) fun M15 => q_lt (qsI M15 0 17 0) fun M16 => some M16
abbrev rm_Md_reset : Room := { frames := 0, cells := 0, slots := 0, locals := 0 }
set_option maxRecDepth 100000 in
set_option maxHeartbeats 4000000 in
theorem c_Md_reset {l : Launch} {D : va_G} {dA : Nat → ClassId} {b : Nat}   (M : qM) (out : qM) (hf : f_Md_reset M = some out) : CTv l y_Md_reset w_Md_reset rm_Md_reset D (tysX dA) (enM dA b) 38 b (fun _ => True) [qr (some 0)] M out := by
  refine qm_v (cc := prog_14_method_5_code) (nL := 1) (by decide) rfl (Nat.le_of_ble_eq_true rfl) ?_
  intro p e s m args below meth c Q hx hb hts0 hown hml hK hs hret
  have hts : ∀ w ∈ lw_g, w.before args s = true := fun w h => hts0 w (List.mem_cons_of_mem _ h)
  show QJ p l e rm_Md_reset s m args below meth c (qA 38 b) b 1 0 0 Q (qWd D (enM dA b) 38 b) M 0 [(0, qr (some 0))] []
  unfold f_Md_reset at hf
  refine qj_aload_n hx hb d_Md_reset_0 rfl 0 rfl ?_
  refine qj_iconst (v := 0) hx hb d_Md_reset_1 (by decide) ?_
  have hf9 := q_lt_s hf; clear hf; obtain ⟨M1, eM1, hf⟩ := hf9
  refine qj_puti (ty := .boolean) hx hb hts hin_12 ty_12 tyok_12 nm_12 hown hK (by decide) rfl rfl 4 (by decide) (hts _ tw_446) (fun _ h => h) rfl (by decide +kernel) rfl rfl (Nat.le_of_ble_eq_true rfl) sm_4 eM1 d_Md_reset_2 ?_
  refine qj_aload_n hx hb d_Md_reset_5 rfl 0 rfl ?_
  refine qj_iconst (v := 1) hx hb d_Md_reset_6 (by decide) ?_
  have hf9 := q_lt_s hf; clear hf; obtain ⟨M2, eM2, hf⟩ := hf9
  refine qj_puti (ty := .int) hx hb hts hin_12 ty_12 tyok_12 nm_12 hown hK (by decide) rfl rfl 5 (by decide) (hts _ tw_447) (fun _ h => h) rfl (by decide +kernel) rfl rfl (Nat.le_of_ble_eq_true rfl) sm_5 eM2 d_Md_reset_7 ?_
  refine qj_aload_n hx hb d_Md_reset_10 rfl 0 rfl ?_
  refine qj_get hx hb hts hin_12 hown hK (by decide) rfl rfl 6 (by decide) (hts _ tw_448) (fun _ h => h) (qr (some 3)) rfl d_Md_reset_11 ?_
  refine qj_iconst (v := 0) hx hb d_Md_reset_14 (by decide) ?_
  refine qj_iconst (v := 0) hx hb d_Md_reset_15 (by decide) ?_
  have hf9 := q_ix_s hf; clear hf; obtain ⟨hi3, hf⟩ := hf9
  have hf9 := q_lt_s hf; clear hf; obtain ⟨M4, eM4, hf⟩ := hf9
  refine qj_iast (t0 := 0) hx hb hK (by decide) (fun _ _ => rfl) rfl hi3 eM4 d_Md_reset_16 ?_
  refine qj_aload_n hx hb d_Md_reset_17 rfl 0 rfl ?_
  refine qj_iconst (v := 1) hx hb d_Md_reset_18 (by decide) ?_
  have hf9 := q_lt_s hf; clear hf; obtain ⟨M5, eM5, hf⟩ := hf9
  refine qj_puti (ty := .int) hx hb hts hin_12 ty_12 tyok_12 nm_12 hown hK (by decide) rfl rfl 7 (by decide) (hts _ tw_449) (fun _ h => h) rfl (by decide +kernel) rfl rfl (Nat.le_of_ble_eq_true rfl) sm_7 eM5 d_Md_reset_19 ?_
  refine qj_aload_n hx hb d_Md_reset_22 rfl 0 rfl ?_
  refine qj_get hx hb hts hin_12 hown hK (by decide) rfl rfl 8 (by decide) (hts _ tw_450) (fun _ h => h) (qr (some 4)) rfl d_Md_reset_23 ?_
  refine qj_iconst (v := 0) hx hb d_Md_reset_26 (by decide) ?_
  refine qj_iconst (v := 0) hx hb d_Md_reset_27 (by decide) ?_
  have hf9 := q_ix_s hf; clear hf; obtain ⟨hi6, hf⟩ := hf9
  have hf9 := q_lt_s hf; clear hf; obtain ⟨M7, eM7, hf⟩ := hf9
  refine qj_iast (t0 := 0) hx hb hK (by decide) (fun _ _ => rfl) rfl hi6 eM7 d_Md_reset_28 ?_
  refine qj_aload_n hx hb d_Md_reset_29 rfl 0 rfl ?_
  refine qj_get hx hb hts hin_12 hown hK (by decide) rfl rfl 9 (by decide) (hts _ tw_451) (fun _ h => h) (qr (some 5)) rfl d_Md_reset_30 ?_
  refine qj_iconst (v := 0) hx hb d_Md_reset_33 (by decide) ?_
  refine qj_iconst (v := 0) hx hb d_Md_reset_34 (by decide) ?_
  have hf9 := q_ix_s hf; clear hf; obtain ⟨hi8, hf⟩ := hf9
  have hf9 := q_lt_s hf; clear hf; obtain ⟨M9, eM9, hf⟩ := hf9
  refine qj_iast (t0 := 0) hx hb hK (by decide) (fun _ _ => rfl) rfl hi8 eM9 d_Md_reset_35 ?_
  refine qj_aload_n hx hb d_Md_reset_36 rfl 0 rfl ?_
  refine qj_get hx hb hts hin_12 hown hK (by decide) rfl rfl 10 (by decide) (hts _ tw_452) (fun _ h => h) (qr (some 6)) rfl d_Md_reset_37 ?_
  refine qj_iconst (v := 0) hx hb d_Md_reset_40 (by decide) ?_
  refine qj_iconst (v := 0) hx hb d_Md_reset_41 (by decide) ?_
  have hf9 := q_ix_s hf; clear hf; obtain ⟨hi10, hf⟩ := hf9
  have hf9 := q_lt_s hf; clear hf; obtain ⟨M11, eM11, hf⟩ := hf9
  refine qj_iast (t0 := 0) hx hb hK (by decide) (fun _ _ => rfl) rfl hi10 eM11 d_Md_reset_42 ?_
  refine qj_aload_n hx hb d_Md_reset_43 rfl 0 rfl ?_
  refine qj_get hx hb hts hin_12 hown hK (by decide) rfl rfl 12 (by decide) (hts _ tw_453) (fun _ h => h) (qr (some 8)) rfl d_Md_reset_44 ?_
  refine qj_iconst (v := 0) hx hb d_Md_reset_47 (by decide) ?_
  refine qj_iconst (v := 0) hx hb d_Md_reset_48 (by decide) ?_
  have hf9 := q_ix_s hf; clear hf; obtain ⟨hi12, hf⟩ := hf9
  have hf9 := q_lt_s hf; clear hf; obtain ⟨M13, eM13, hf⟩ := hf9
  refine qj_iast (t0 := 0) hx hb hK (by decide) (fun _ _ => rfl) rfl hi12 eM13 d_Md_reset_49 ?_
  refine qj_aload_n hx hb d_Md_reset_50 rfl 0 rfl ?_
  refine qj_iconst (v := 1) hx hb d_Md_reset_51 (by decide) ?_
  have hf9 := q_lt_s hf; clear hf; obtain ⟨M14, eM14, hf⟩ := hf9
  refine qj_puti (ty := .int) hx hb hts hin_12 ty_12 tyok_12 nm_12 hown hK (by decide) rfl rfl 13 (by decide) (hts _ tw_454) (fun _ h => h) rfl (by decide +kernel) rfl rfl (Nat.le_of_ble_eq_true rfl) sm_13 eM14 d_Md_reset_52 ?_
  refine qj_aload_n hx hb d_Md_reset_55 rfl 0 rfl ?_
  refine qj_iconst (v := 0) hx hb d_Md_reset_56 (by decide) ?_
  have hf9 := q_lt_s hf; clear hf; obtain ⟨M15, eM15, hf⟩ := hf9
  refine qj_puti (ty := .int) hx hb hts hin_12 ty_12 tyok_12 nm_12 hown hK (by decide) rfl rfl 16 (by decide) (hts _ tw_455) (fun _ h => h) rfl (by decide +kernel) rfl rfl (Nat.le_of_ble_eq_true rfl) sm_16 eM15 d_Md_reset_57 ?_
  refine qj_aload_n hx hb d_Md_reset_60 rfl 0 rfl ?_
  refine qj_iconst (v := 0) hx hb d_Md_reset_61 (by decide) ?_
  have hf9 := q_lt_s hf; clear hf; obtain ⟨M16, eM16, hf⟩ := hf9
  refine qj_puti (ty := .int) hx hb hts hin_12 ty_12 tyok_12 nm_12 hown hK (by decide) rfl rfl 17 (by decide) (hts _ tw_456) (fun _ h => h) rfl (by decide +kernel) rfl rfl (Nat.le_of_ble_eq_true rfl) sm_17 eM16 d_Md_reset_62 ?_
  exact hret _ _ _ d_Md_reset_65 (Option.some.inj hf)
theorem d_Md_peek_0 : decode prog_14_method_9_code 0 = .ok (.iload_n 1, 1) := by decide +kernel
theorem d_Md_peek_1 : decode prog_14_method_9_code 1 = .ok (.aload_n 0, 1) := by decide +kernel
theorem d_Md_peek_2 : decode prog_14_method_9_code 2 = .ok (.getfield 125, 3) := by decide +kernel
theorem d_Md_peek_5 : decode prog_14_method_9_code 5 = .ok (.if_icmp .ge 12, 3) := by decide +kernel
theorem d_Md_peek_8 : decode prog_14_method_9_code 8 = .ok (.aload_n 0, 1) := by decide +kernel
theorem d_Md_peek_9 : decode prog_14_method_9_code 9 = .ok (.getfield 7, 3) := by decide +kernel
theorem d_Md_peek_12 : decode prog_14_method_9_code 12 = .ok (.iload_n 1, 1) := by decide +kernel
theorem d_Md_peek_13 : decode prog_14_method_9_code 13 = .ok (.iaload, 1) := by decide +kernel
theorem d_Md_peek_14 : decode prog_14_method_9_code 14 = .ok (.goto 4, 3) := by decide +kernel
theorem d_Md_peek_17 : decode prog_14_method_9_code 17 = .ok (.iconst (-1), 1) := by decide +kernel
theorem d_Md_peek_18 : decode prog_14_method_9_code 18 = .ok (.ireturn, 1) := by decide +kernel
def f_Md_peek (a1 : Int32) (M : qM) : Option Int32 := if (M.1 0 0) ≤ a1 then (some (-1)) else (q_ix a1 160 <| some (M.1 1 a1.toNatClampNeg))
abbrev rm_Md_peek : Room := { frames := 0, cells := 0, slots := 0, locals := 0 }
set_option maxRecDepth 100000 in
set_option maxHeartbeats 4000000 in
theorem c_Md_peek {l : Launch} {D : va_G} {dA : Nat → ClassId} {b : Nat} (a1 : Int32)  (M : qM) (out : Int32) (hf : f_Md_peek a1 M = some out) : CTi l y_Md_peek w_Md_peek rm_Md_peek D (tysX dA) (enM dA b) 38 b (fun _ => True) [qr (some 0), qi a1] M (out, M) := by
  refine qm_i (cc := prog_14_method_9_code) (nL := 2) (by decide) rfl (Nat.le_of_ble_eq_true rfl) ?_
  intro p e s m args below meth c Q hx hb hts0 hown hml hK hs hret
  have hts : ∀ w ∈ lw_g, w.before args s = true := fun w h => hts0 w (List.mem_cons_of_mem _ h)
  show QJ p l e rm_Md_peek s m args below meth c (qA 38 b) b 2 0 0 Q (qWd D (enM dA b) 38 b) M 0 [(0, qr (some 0)), (1, qi a1)] []
  unfold f_Md_peek at hf
  refine qj_iload_n hx hb d_Md_peek_0 rfl 1 rfl ?_
  refine qj_aload_n hx hb d_Md_peek_1 rfl 0 rfl ?_
  refine qj_get hx hb hts hin_12 hown hK (by decide) rfl rfl 0 (by decide) (hts _ tw_457) (fun _ h => h) (qi (M.1 0 0)) rfl d_Md_peek_2 ?_
  refine qj_icmp_ge (tgt := 17) hx hb d_Md_peek_5 (by decide) (fun hc1 => ?_) (fun hc1 => ?_)
  · replace hf := q_if_t hc1 hf
    refine qj_iconst (v := (-1)) hx hb d_Md_peek_17 (by decide) ?_
    exact hret _ _ _ _ d_Md_peek_18 (congrArg (fun z => (z, M)) (Option.some.inj hf))
  · replace hf := q_if_f hc1 hf
    refine qj_aload_n hx hb d_Md_peek_8 rfl 0 rfl ?_
    refine qj_get hx hb hts hin_12 hown hK (by decide) rfl rfl 1 (by decide) (hts _ tw_458) (fun _ h => h) (qr (some 1)) rfl d_Md_peek_9 ?_
    refine qj_iload_n hx hb d_Md_peek_12 rfl 1 rfl ?_
    have hf9 := q_ix_s hf; clear hf; obtain ⟨hi2, hf⟩ := hf9
    refine qj_iald (t0 := 0) hx hb hK (by decide) (fun _ _ => rfl) rfl hi2 d_Md_peek_13 ?_
    refine qj_goto (tgt := 18) hx hb d_Md_peek_14 (by decide) ?_
    exact hret _ _ _ _ d_Md_peek_18 (congrArg (fun z => (z, M)) (Option.some.inj hf))
theorem d_Md_small_0 : decode prog_14_method_6_code 0 = .ok (.iload_n 0, 1) := by decide +kernel
theorem d_Md_small_1 : decode prog_14_method_6_code 1 = .ok (.bipush 97, 2) := by decide +kernel
theorem d_Md_small_3 : decode prog_14_method_6_code 3 = .ok (.if_icmp .lt 13, 3) := by decide +kernel
theorem d_Md_small_6 : decode prog_14_method_6_code 6 = .ok (.iload_n 0, 1) := by decide +kernel
theorem d_Md_small_7 : decode prog_14_method_6_code 7 = .ok (.bipush 122, 2) := by decide +kernel
theorem d_Md_small_9 : decode prog_14_method_6_code 9 = .ok (.if_icmp .gt 7, 3) := by decide +kernel
theorem d_Md_small_12 : decode prog_14_method_6_code 12 = .ok (.iconst 1, 1) := by decide +kernel
theorem d_Md_small_13 : decode prog_14_method_6_code 13 = .ok (.goto 4, 3) := by decide +kernel
theorem d_Md_small_16 : decode prog_14_method_6_code 16 = .ok (.iconst 0, 1) := by decide +kernel
theorem d_Md_small_17 : decode prog_14_method_6_code 17 = .ok (.ireturn, 1) := by decide +kernel
def f_Md_small (a0 : Int32) (M : qM) : Option Int32 := if a0 < 97 then (some 0) else (if 122 < a0 then (some 0) else (some 1))
abbrev rm_Md_small : Room := { frames := 0, cells := 0, slots := 0, locals := 0 }
set_option maxRecDepth 100000 in
set_option maxHeartbeats 4000000 in
theorem c_Md_small {l : Launch} {D : va_G} {dA : Nat → ClassId} {b : Nat} (a0 : Int32)  (M : qM) (out : Int32) (hf : f_Md_small a0 M = some out) : CTi l y_Md_small w_Md_small rm_Md_small D (tysX dA) (enM dA b) 38 b (fun _ => True) [qi a0] M (out, M) := by
  refine qm_z (cc := prog_14_method_6_code) (nL := 1) (by decide) rfl (Nat.le_of_ble_eq_true rfl) ?_
  intro p e s m args below meth c Q hx hb hts0 hown hml hK hs hret
  have hts : ∀ w ∈ lw_g, w.before args s = true := fun w h => hts0 w (List.mem_cons_of_mem _ h)
  show QJ p l e rm_Md_small s m args below meth c (qA 38 b) b 1 0 0 Q (qWd D (enM dA b) 38 b) M 0 [(0, qi a0)] []
  unfold f_Md_small at hf
  refine qj_iload_n hx hb d_Md_small_0 rfl 0 rfl ?_
  refine qj_bipush (v := 97) hx hb d_Md_small_1 (by decide) ?_
  refine qj_icmp_lt (tgt := 16) hx hb d_Md_small_3 (by decide) (fun hc1 => ?_) (fun hc1 => ?_)
  · replace hf := q_if_t hc1 hf
    refine qj_iconst (v := 0) hx hb d_Md_small_16 (by decide) ?_
    exact hret _ _ _ _ (Or.inl rfl) d_Md_small_17 (congrArg (fun z => (z, M)) (Option.some.inj hf))
  · replace hf := q_if_f hc1 hf
    refine qj_iload_n hx hb d_Md_small_6 rfl 0 rfl ?_
    refine qj_bipush (v := 122) hx hb d_Md_small_7 (by decide) ?_
    refine qj_icmp_gt (tgt := 16) hx hb d_Md_small_9 (by decide) (fun hc2 => ?_) (fun hc2 => ?_)
    · replace hf := q_if_t hc2 hf
      refine qj_iconst (v := 0) hx hb d_Md_small_16 (by decide) ?_
      exact hret _ _ _ _ (Or.inl rfl) d_Md_small_17 (congrArg (fun z => (z, M)) (Option.some.inj hf))
    · replace hf := q_if_f hc2 hf
      refine qj_iconst (v := 1) hx hb d_Md_small_12 (by decide) ?_
      refine qj_goto (tgt := 17) hx hb d_Md_small_13 (by decide) ?_
      exact hret _ _ _ _ (Or.inr rfl) d_Md_small_17 (congrArg (fun z => (z, M)) (Option.some.inj hf))
theorem d_Md_closed_0 : decode prog_14_method_8_code 0 = .ok (.iload_n 1, 1) := by decide +kernel
theorem d_Md_closed_1 : decode prog_14_method_8_code 1 = .ok (.istore_n 2, 1) := by decide +kernel
theorem d_Md_closed_2 : decode prog_14_method_8_code 2 = .ok (.iload_n 2, 1) := by decide +kernel
theorem d_Md_closed_3 : decode prog_14_method_8_code 3 = .ok (.aload_n 0, 1) := by decide +kernel
theorem d_Md_closed_4 : decode prog_14_method_8_code 4 = .ok (.getfield 125, 3) := by decide +kernel
theorem d_Md_closed_7 : decode prog_14_method_8_code 7 = .ok (.if_icmp .ge 22, 3) := by decide +kernel
theorem d_Md_closed_10 : decode prog_14_method_8_code 10 = .ok (.aload_n 0, 1) := by decide +kernel
theorem d_Md_closed_11 : decode prog_14_method_8_code 11 = .ok (.getfield 7, 3) := by decide +kernel
theorem d_Md_closed_14 : decode prog_14_method_8_code 14 = .ok (.iload_n 2, 1) := by decide +kernel
theorem d_Md_closed_15 : decode prog_14_method_8_code 15 = .ok (.iaload, 1) := by decide +kernel
theorem d_Md_closed_16 : decode prog_14_method_8_code 16 = .ok (.bipush 62, 2) := by decide +kernel
theorem d_Md_closed_18 : decode prog_14_method_8_code 18 = .ok (.if_icmp .ne 5, 3) := by decide +kernel
theorem d_Md_closed_21 : decode prog_14_method_8_code 21 = .ok (.iload_n 2, 1) := by decide +kernel
theorem d_Md_closed_22 : decode prog_14_method_8_code 22 = .ok (.ireturn, 1) := by decide +kernel
theorem d_Md_closed_23 : decode prog_14_method_8_code 23 = .ok (.iinc 2 1, 3) := by decide +kernel
theorem d_Md_closed_26 : decode prog_14_method_8_code 26 = .ok (.goto (-24), 3) := by decide +kernel
theorem d_Md_closed_29 : decode prog_14_method_8_code 29 = .ok (.iconst (-1), 1) := by decide +kernel
theorem d_Md_closed_30 : decode prog_14_method_8_code 30 = .ok (.ireturn, 1) := by decide +kernel
def f_Md_closed_2 (M : qM) : Nat → (Option Int32) → Int32 → Option Int32
  | 0, _, _ => none
  | n + 1, K2, x1 => if (M.1 0 0) ≤ x1 then (K2) else (q_ix x1 160 <| if (M.1 1 x1.toNatClampNeg) = 62 then (some x1) else (f_Md_closed_2 M n K2 (x1 + 1)))
def f_Md_closed (a1 : Int32) (M : qM) : Option Int32 := f_Md_closed_2 M 1000 (some (-1)) a1
abbrev rm_Md_closed : Room := { frames := 0, cells := 0, slots := 0, locals := 0 }
set_option maxRecDepth 100000 in
set_option maxHeartbeats 4000000 in
theorem c_Md_closed {l : Launch} {D : va_G} {dA : Nat → ClassId} {b : Nat} (a1 : Int32)  (M : qM) (out : Int32) (hf : f_Md_closed a1 M = some out) : CTi l y_Md_closed w_Md_closed rm_Md_closed D (tysX dA) (enM dA b) 38 b (fun _ => True) [qr (some 0), qi a1] M (out, M) := by
  refine qm_i (cc := prog_14_method_8_code) (nL := 3) (by decide) rfl (Nat.le_of_ble_eq_true rfl) ?_
  intro p e s m args below meth c Q hx hb hts0 hown hml hK hs hret
  have hts : ∀ w ∈ lw_g, w.before args s = true := fun w h => hts0 w (List.mem_cons_of_mem _ h)
  show QJ p l e rm_Md_closed s m args below meth c (qA 38 b) b 3 0 0 Q (qWd D (enM dA b) 38 b) M 0 [(0, qr (some 0)), (1, qi a1)] []
  unfold f_Md_closed at hf
  refine qj_iload_n hx hb d_Md_closed_0 rfl 1 rfl ?_
  refine qj_istore_n hx hb d_Md_closed_1 rfl (by decide) rfl ?_
  have hL2 : ∀ (n : Nat) (K2 : Option Int32), (K2 = some out → QJ p l e rm_Md_closed s m args below meth c (qA 38 b) b 3 0 0 Q (qWd D (enM dA b) 38 b) M 29 [] []) → ∀ (x1 : Int32), f_Md_closed_2 M n K2 x1 = some out → QJ p l e rm_Md_closed s m args below meth c (qA 38 b) b 3 0 0 Q (qWd D (enM dA b) 38 b) M 2 [(0, qr (some 0)), (2, qi x1)] [] := by
    clear hf
    intro n
    induction n with
    | zero =>
      intro K2 hK2 x1 hf
      exact absurd hf (by simp [f_Md_closed_2])
    | succ n ih2 =>
      intro K2 hK2 x1 hf
      rw [f_Md_closed_2] at hf
      have ih2 := ih2 K2 hK2
      refine qj_iload_n hx hb d_Md_closed_2 rfl 1 rfl ?_
      refine qj_aload_n hx hb d_Md_closed_3 rfl 0 rfl ?_
      refine qj_get hx hb hts hin_12 hown hK (by decide) rfl rfl 0 (by decide) (hts _ tw_457) (fun _ h => h) (qi (M.1 0 0)) rfl d_Md_closed_4 ?_
      refine qj_icmp_ge (tgt := 29) hx hb d_Md_closed_7 (by decide) (fun hc3 => ?_) (fun hc3 => ?_)
      · replace hf := q_if_t hc3 hf
        refine qj_sub [] rfl ?_
        exact hK2  hf
      · replace hf := q_if_f hc3 hf
        refine qj_aload_n hx hb d_Md_closed_10 rfl 0 rfl ?_
        refine qj_get hx hb hts hin_12 hown hK (by decide) rfl rfl 1 (by decide) (hts _ tw_458) (fun _ h => h) (qr (some 1)) rfl d_Md_closed_11 ?_
        refine qj_iload_n hx hb d_Md_closed_14 rfl 1 rfl ?_
        have hf9 := q_ix_s hf; clear hf; obtain ⟨hi4, hf⟩ := hf9
        refine qj_iald (t0 := 0) hx hb hK (by decide) (fun _ _ => rfl) rfl hi4 d_Md_closed_15 ?_
        refine qj_bipush (v := 62) hx hb d_Md_closed_16 (by decide) ?_
        refine qj_icmp_ne (tgt := 23) hx hb d_Md_closed_18 (by decide) (fun hc5 => ?_) (fun hc5 => ?_)
        · replace hf := q_if_f hc5 hf
          refine qj_iinc (j := 1) (v := x1 + 1) hx hb d_Md_closed_23 rfl rfl (by decide) rfl ?_
          refine qj_goto (tgt := 2) hx hb d_Md_closed_26 (by decide) ?_
          refine qj_sub [1, 0] rfl ?_
          exact ih2 (x1 + 1) hf
        · replace hf := q_if_t hc5 hf
          refine qj_iload_n hx hb d_Md_closed_21 rfl 1 rfl ?_
          exact hret _ _ _ _ d_Md_closed_22 (congrArg (fun z => (z, M)) (Option.some.inj hf))
  refine qj_sub [1, 0] rfl ?_
  refine hL2 _ _ (fun hf9 => ?_) a1 hf
  clear hf; have hf := hf9; clear hf9
  refine qj_iconst (v := (-1)) hx hb d_Md_closed_29 (by decide) ?_
  exact hret _ _ _ _ d_Md_closed_30 (congrArg (fun z => (z, M)) (Option.some.inj hf))
theorem d_Md_capital_0 : decode prog_14_method_7_code 0 = .ok (.iload_n 0, 1) := by decide +kernel
theorem d_Md_capital_1 : decode prog_14_method_7_code 1 = .ok (.bipush 65, 2) := by decide +kernel
theorem d_Md_capital_3 : decode prog_14_method_7_code 3 = .ok (.if_icmp .lt 13, 3) := by decide +kernel
theorem d_Md_capital_6 : decode prog_14_method_7_code 6 = .ok (.iload_n 0, 1) := by decide +kernel
theorem d_Md_capital_7 : decode prog_14_method_7_code 7 = .ok (.bipush 90, 2) := by decide +kernel
theorem d_Md_capital_9 : decode prog_14_method_7_code 9 = .ok (.if_icmp .gt 7, 3) := by decide +kernel
theorem d_Md_capital_12 : decode prog_14_method_7_code 12 = .ok (.iconst 1, 1) := by decide +kernel
theorem d_Md_capital_13 : decode prog_14_method_7_code 13 = .ok (.goto 4, 3) := by decide +kernel
theorem d_Md_capital_16 : decode prog_14_method_7_code 16 = .ok (.iconst 0, 1) := by decide +kernel
theorem d_Md_capital_17 : decode prog_14_method_7_code 17 = .ok (.ireturn, 1) := by decide +kernel
def f_Md_capital (a0 : Int32) (M : qM) : Option Int32 := if a0 < 65 then (some 0) else (if 90 < a0 then (some 0) else (some 1))
abbrev rm_Md_capital : Room := { frames := 0, cells := 0, slots := 0, locals := 0 }
set_option maxRecDepth 100000 in
set_option maxHeartbeats 4000000 in
theorem c_Md_capital {l : Launch} {D : va_G} {dA : Nat → ClassId} {b : Nat} (a0 : Int32)  (M : qM) (out : Int32) (hf : f_Md_capital a0 M = some out) : CTi l y_Md_capital w_Md_capital rm_Md_capital D (tysX dA) (enM dA b) 38 b (fun _ => True) [qi a0] M (out, M) := by
  refine qm_z (cc := prog_14_method_7_code) (nL := 1) (by decide) rfl (Nat.le_of_ble_eq_true rfl) ?_
  intro p e s m args below meth c Q hx hb hts0 hown hml hK hs hret
  have hts : ∀ w ∈ lw_g, w.before args s = true := fun w h => hts0 w (List.mem_cons_of_mem _ h)
  show QJ p l e rm_Md_capital s m args below meth c (qA 38 b) b 1 0 0 Q (qWd D (enM dA b) 38 b) M 0 [(0, qi a0)] []
  unfold f_Md_capital at hf
  refine qj_iload_n hx hb d_Md_capital_0 rfl 0 rfl ?_
  refine qj_bipush (v := 65) hx hb d_Md_capital_1 (by decide) ?_
  refine qj_icmp_lt (tgt := 16) hx hb d_Md_capital_3 (by decide) (fun hc1 => ?_) (fun hc1 => ?_)
  · replace hf := q_if_t hc1 hf
    refine qj_iconst (v := 0) hx hb d_Md_capital_16 (by decide) ?_
    exact hret _ _ _ _ (Or.inl rfl) d_Md_capital_17 (congrArg (fun z => (z, M)) (Option.some.inj hf))
  · replace hf := q_if_f hc1 hf
    refine qj_iload_n hx hb d_Md_capital_6 rfl 0 rfl ?_
    refine qj_bipush (v := 90) hx hb d_Md_capital_7 (by decide) ?_
    refine qj_icmp_gt (tgt := 16) hx hb d_Md_capital_9 (by decide) (fun hc2 => ?_) (fun hc2 => ?_)
    · replace hf := q_if_t hc2 hf
      refine qj_iconst (v := 0) hx hb d_Md_capital_16 (by decide) ?_
      exact hret _ _ _ _ (Or.inl rfl) d_Md_capital_17 (congrArg (fun z => (z, M)) (Option.some.inj hf))
    · replace hf := q_if_f hc2 hf
      refine qj_iconst (v := 1) hx hb d_Md_capital_12 (by decide) ?_
      refine qj_goto (tgt := 17) hx hb d_Md_capital_13 (by decide) ?_
      exact hret _ _ _ _ (Or.inr rfl) d_Md_capital_17 (congrArg (fun z => (z, M)) (Option.some.inj hf))
theorem d_Md_bit_0 : decode prog_14_method_13_code 0 = .ok (.iload_n 0, 1) := by decide +kernel
theorem d_Md_bit_1 : decode prog_14_method_13_code 1 = .ok (.invokestatic 161, 3) := by decide +kernel
theorem d_Md_bit_4 : decode prog_14_method_13_code 4 = .ok (.ifCond .eq 12, 3) := by decide +kernel
theorem d_Md_bit_7 : decode prog_14_method_13_code 7 = .ok (.iconst 1, 1) := by decide +kernel
theorem d_Md_bit_8 : decode prog_14_method_13_code 8 = .ok (.iload_n 0, 1) := by decide +kernel
theorem d_Md_bit_9 : decode prog_14_method_13_code 9 = .ok (.bipush 97, 2) := by decide +kernel
theorem d_Md_bit_11 : decode prog_14_method_13_code 11 = .ok (.isub, 1) := by decide +kernel
theorem d_Md_bit_12 : decode prog_14_method_13_code 12 = .ok (.ishl, 1) := by decide +kernel
theorem d_Md_bit_13 : decode prog_14_method_13_code 13 = .ok (.goto 4, 3) := by decide +kernel
theorem d_Md_bit_16 : decode prog_14_method_13_code 16 = .ok (.iconst 0, 1) := by decide +kernel
theorem d_Md_bit_17 : decode prog_14_method_13_code 17 = .ok (.ireturn, 1) := by decide +kernel
def f_Md_bit (a0 : Int32) (M : qM) : Option Int32 := q_bp (f_Md_small a0 M) fun x1 => if x1 = 0 then (some 0) else (some (1 <<< ((a0 - 97) &&& 31)))
abbrev rm_Md_bit : Room := { frames := 1, cells := 0, slots := 0, locals := 20 }
set_option maxRecDepth 100000 in
set_option maxHeartbeats 4000000 in
theorem c_Md_bit {l : Launch} {D : va_G} {dA : Nat → ClassId} {b : Nat} (a0 : Int32)  (M : qM) (out : Int32) (hf : f_Md_bit a0 M = some out) : CTi l y_Md_bit w_Md_bit rm_Md_bit D (tysX dA) (enM dA b) 38 b (fun _ => True) [qi a0] M (out, M) := by
  refine qm_i (cc := prog_14_method_13_code) (nL := 1) (by decide) rfl (Nat.le_of_ble_eq_true rfl) ?_
  intro p e s m args below meth c Q hx hb hts0 hown hml hK hs hret
  have hts : ∀ w ∈ lw_g, w.before args s = true := fun w h => hts0 w (List.mem_cons_of_mem _ h)
  show QJ p l e rm_Md_bit s m args below meth c (qA 38 b) b 1 0 0 Q (qWd D (enM dA b) 38 b) M 0 [(0, qi a0)] []
  unfold f_Md_bit at hf
  refine qj_iload_n hx hb d_Md_bit_0 rfl 0 rfl ?_
  have hf9 := q_bp_s hf; clear hf; obtain ⟨x1, hx1, hf⟩ := hf9
  refine qc_Si (st := []) hx hb hml hown hts hK qT_ok hs (c_Md_small a0 M _ hx1) ⟨(callB_of 1 hts (q_good tw_460) rfl rfl rfl (hts _ tw_459) (hts _ tw_461) (by decide +kernel) ⟨by decide, by decide⟩), (hts _ tw_462)⟩ rfl rfl (Nat.le_of_ble_eq_true rfl) d_Md_bit_1 ?_
  refine qj_if_eq (tgt := 16) hx hb d_Md_bit_4 (by decide) (fun hc2 => ?_) (fun hc2 => ?_)
  · replace hf := q_if_t hc2 hf
    refine qj_iconst (v := 0) hx hb d_Md_bit_16 (by decide) ?_
    exact hret _ _ _ _ d_Md_bit_17 (congrArg (fun z => (z, M)) (Option.some.inj hf))
  · replace hf := q_if_f hc2 hf
    refine qj_iconst (v := 1) hx hb d_Md_bit_7 (by decide) ?_
    refine qj_iload_n hx hb d_Md_bit_8 rfl 0 rfl ?_
    refine qj_bipush (v := 97) hx hb d_Md_bit_9 (by decide) ?_
    refine qj_isub hx hb d_Md_bit_11 ?_
    refine qj_ishl hx hb d_Md_bit_12 ?_
    refine qj_goto (tgt := 17) hx hb d_Md_bit_13 (by decide) ?_
    exact hret _ _ _ _ d_Md_bit_17 (congrArg (fun z => (z, M)) (Option.some.inj hf))
theorem d_Md_topmost_0 : decode prog_14_method_17_code 0 = .ok (.iconst (-1), 1) := by decide +kernel
theorem d_Md_topmost_1 : decode prog_14_method_17_code 1 = .ok (.istore_n 2, 1) := by decide +kernel
theorem d_Md_topmost_2 : decode prog_14_method_17_code 2 = .ok (.iconst 1, 1) := by decide +kernel
theorem d_Md_topmost_3 : decode prog_14_method_17_code 3 = .ok (.istore_n 3, 1) := by decide +kernel
theorem d_Md_topmost_4 : decode prog_14_method_17_code 4 = .ok (.iload_n 3, 1) := by decide +kernel
theorem d_Md_topmost_5 : decode prog_14_method_17_code 5 = .ok (.aload_n 0, 1) := by decide +kernel
theorem d_Md_topmost_6 : decode prog_14_method_17_code 6 = .ok (.getfield 148, 3) := by decide +kernel
theorem d_Md_topmost_9 : decode prog_14_method_17_code 9 = .ok (.if_icmp .ge 30, 3) := by decide +kernel
theorem d_Md_topmost_12 : decode prog_14_method_17_code 12 = .ok (.aload_n 0, 1) := by decide +kernel
theorem d_Md_topmost_13 : decode prog_14_method_17_code 13 = .ok (.getfield 19, 3) := by decide +kernel
theorem d_Md_topmost_16 : decode prog_14_method_17_code 16 = .ok (.aload_n 0, 1) := by decide +kernel
theorem d_Md_topmost_17 : decode prog_14_method_17_code 17 = .ok (.getfield 31, 3) := by decide +kernel
theorem d_Md_topmost_20 : decode prog_14_method_17_code 20 = .ok (.iload_n 3, 1) := by decide +kernel
theorem d_Md_topmost_21 : decode prog_14_method_17_code 21 = .ok (.iaload, 1) := by decide +kernel
theorem d_Md_topmost_22 : decode prog_14_method_17_code 22 = .ok (.iaload, 1) := by decide +kernel
theorem d_Md_topmost_23 : decode prog_14_method_17_code 23 = .ok (.iload_n 1, 1) := by decide +kernel
theorem d_Md_topmost_24 : decode prog_14_method_17_code 24 = .ok (.if_icmp .ne 7, 3) := by decide +kernel
theorem d_Md_topmost_27 : decode prog_14_method_17_code 27 = .ok (.iload_n 3, 1) := by decide +kernel
theorem d_Md_topmost_28 : decode prog_14_method_17_code 28 = .ok (.goto 4, 3) := by decide +kernel
theorem d_Md_topmost_31 : decode prog_14_method_17_code 31 = .ok (.iload_n 2, 1) := by decide +kernel
theorem d_Md_topmost_32 : decode prog_14_method_17_code 32 = .ok (.istore_n 2, 1) := by decide +kernel
theorem d_Md_topmost_33 : decode prog_14_method_17_code 33 = .ok (.iinc 3 1, 3) := by decide +kernel
theorem d_Md_topmost_36 : decode prog_14_method_17_code 36 = .ok (.goto (-32), 3) := by decide +kernel
theorem d_Md_topmost_39 : decode prog_14_method_17_code 39 = .ok (.iload_n 2, 1) := by decide +kernel
theorem d_Md_topmost_40 : decode prog_14_method_17_code 40 = .ok (.ireturn, 1) := by decide +kernel
def f_Md_topmost_4 (M : qM) (a1 : Int32) : Nat → (Int32 → Option Int32) → Int32 → Int32 → Option Int32
  | 0, _, _, _ => none
  | n + 1, K3, x1, x2 => if (M.1 0 13) ≤ x2 then (K3 x1) else (q_ix x2 40 <| q_ix (M.1 8 x2.toNatClampNeg) 40 <| if (M.1 4 (M.1 8 x2.toNatClampNeg).toNatClampNeg) = a1 then (f_Md_topmost_4 M a1 n K3 x2 (x2 + 1)) else (f_Md_topmost_4 M a1 n K3 x1 (x2 + 1)))
def f_Md_topmost (a1 : Int32) (M : qM) : Option Int32 := f_Md_topmost_4 M a1 1000 (fun (x8 : Int32) => some x8) (-1) 1
abbrev rm_Md_topmost : Room := { frames := 0, cells := 0, slots := 0, locals := 0 }
set_option maxRecDepth 100000 in
set_option maxHeartbeats 4000000 in
theorem c_Md_topmost {l : Launch} {D : va_G} {dA : Nat → ClassId} {b : Nat} (a1 : Int32)  (M : qM) (out : Int32) (hf : f_Md_topmost a1 M = some out) : CTi l y_Md_topmost w_Md_topmost rm_Md_topmost D (tysX dA) (enM dA b) 38 b (fun _ => True) [qr (some 0), qi a1] M (out, M) := by
  refine qm_i (cc := prog_14_method_17_code) (nL := 4) (by decide) rfl (Nat.le_of_ble_eq_true rfl) ?_
  intro p e s m args below meth c Q hx hb hts0 hown hml hK hs hret
  have hts : ∀ w ∈ lw_g, w.before args s = true := fun w h => hts0 w (List.mem_cons_of_mem _ h)
  show QJ p l e rm_Md_topmost s m args below meth c (qA 38 b) b 4 0 0 Q (qWd D (enM dA b) 38 b) M 0 [(0, qr (some 0)), (1, qi a1)] []
  unfold f_Md_topmost at hf
  refine qj_iconst (v := (-1)) hx hb d_Md_topmost_0 (by decide) ?_
  refine qj_istore_n hx hb d_Md_topmost_1 rfl (by decide) rfl ?_
  refine qj_iconst (v := 1) hx hb d_Md_topmost_2 (by decide) ?_
  refine qj_istore_n hx hb d_Md_topmost_3 rfl (by decide) rfl ?_
  have hL4 : ∀ (n : Nat) (K3 : Int32 → Option Int32), (∀ (x8 : Int32), K3 x8 = some out → QJ p l e rm_Md_topmost s m args below meth c (qA 38 b) b 4 0 0 Q (qWd D (enM dA b) 38 b) M 39 [(2, qi x8)] []) → ∀ (x1 : Int32) (x2 : Int32), f_Md_topmost_4 M a1 n K3 x1 x2 = some out → QJ p l e rm_Md_topmost s m args below meth c (qA 38 b) b 4 0 0 Q (qWd D (enM dA b) 38 b) M 4 [(0, qr (some 0)), (1, qi a1), (2, qi x1), (3, qi x2)] [] := by
    clear hf
    intro n
    induction n with
    | zero =>
      intro K3 hK3 x1 x2 hf
      exact absurd hf (by simp [f_Md_topmost_4])
    | succ n ih4 =>
      intro K3 hK3 x1 x2 hf
      rw [f_Md_topmost_4] at hf
      have ih4 := ih4 K3 hK3
      refine qj_iload_n hx hb d_Md_topmost_4 rfl 3 rfl ?_
      refine qj_aload_n hx hb d_Md_topmost_5 rfl 0 rfl ?_
      refine qj_get hx hb hts hin_12 hown hK (by decide) rfl rfl 13 (by decide) (hts _ tw_454) (fun _ h => h) (qi (M.1 0 13)) rfl d_Md_topmost_6 ?_
      refine qj_icmp_ge (tgt := 39) hx hb d_Md_topmost_9 (by decide) (fun hc4 => ?_) (fun hc4 => ?_)
      · replace hf := q_if_t hc4 hf
        refine qj_sub [2] rfl ?_
        exact hK3 x1 hf
      · replace hf := q_if_f hc4 hf
        refine qj_aload_n hx hb d_Md_topmost_12 rfl 0 rfl ?_
        refine qj_get hx hb hts hin_12 hown hK (by decide) rfl rfl 8 (by decide) (hts _ tw_450) (fun _ h => h) (qr (some 4)) rfl d_Md_topmost_13 ?_
        refine qj_aload_n hx hb d_Md_topmost_16 rfl 0 rfl ?_
        refine qj_get hx hb hts hin_12 hown hK (by decide) rfl rfl 12 (by decide) (hts _ tw_453) (fun _ h => h) (qr (some 8)) rfl d_Md_topmost_17 ?_
        refine qj_iload_n hx hb d_Md_topmost_20 rfl 3 rfl ?_
        have hf9 := q_ix_s hf; clear hf; obtain ⟨hi5, hf⟩ := hf9
        refine qj_iald (t0 := 0) hx hb hK (by decide) (fun _ _ => rfl) rfl hi5 d_Md_topmost_21 ?_
        have hf9 := q_ix_s hf; clear hf; obtain ⟨hi6, hf⟩ := hf9
        refine qj_iald (t0 := 0) hx hb hK (by decide) (fun _ _ => rfl) rfl hi6 d_Md_topmost_22 ?_
        refine qj_iload_n hx hb d_Md_topmost_23 rfl 1 rfl ?_
        refine qj_icmp_ne (tgt := 31) hx hb d_Md_topmost_24 (by decide) (fun hc7 => ?_) (fun hc7 => ?_)
        · replace hf := q_if_f hc7 hf
          refine qj_iload_n hx hb d_Md_topmost_31 rfl 2 rfl ?_
          refine qj_istore_n hx hb d_Md_topmost_32 rfl (by decide) rfl ?_
          refine qj_iinc (j := 3) (v := x2 + 1) hx hb d_Md_topmost_33 rfl rfl (by decide) rfl ?_
          refine qj_goto (tgt := 4) hx hb d_Md_topmost_36 (by decide) ?_
          refine qj_sub [2, 3, 1, 0] rfl ?_
          exact ih4 x1 (x2 + 1) hf
        · replace hf := q_if_t hc7 hf
          refine qj_iload_n hx hb d_Md_topmost_27 rfl 3 rfl ?_
          refine qj_goto (tgt := 32) hx hb d_Md_topmost_28 (by decide) ?_
          refine qj_istore_n hx hb d_Md_topmost_32 rfl (by decide) rfl ?_
          refine qj_iinc (j := 3) (v := x2 + 1) hx hb d_Md_topmost_33 rfl rfl (by decide) rfl ?_
          refine qj_goto (tgt := 4) hx hb d_Md_topmost_36 (by decide) ?_
          refine qj_sub [2, 3, 1, 0] rfl ?_
          exact ih4 x2 (x2 + 1) hf
  refine qj_sub [2, 3, 1, 0] rfl ?_
  refine hL4 _ _ (fun x8 hf9 => ?_) (-1) 1 hf
  clear hf; have hf := hf9; clear hf9
  refine qj_iload_n hx hb d_Md_topmost_39 rfl 0 rfl ?_
  exact hret _ _ _ _ d_Md_topmost_40 (congrArg (fun z => (z, M)) (Option.some.inj hf))
theorem d_Md_named_0 : decode prog_14_method_14_code 0 = .ok (.aload_n 0, 1) := by decide +kernel
theorem d_Md_named_1 : decode prog_14_method_14_code 1 = .ok (.getfield 19, 3) := by decide +kernel
theorem d_Md_named_4 : decode prog_14_method_14_code 4 = .ok (.iload_n 1, 1) := by decide +kernel
theorem d_Md_named_5 : decode prog_14_method_14_code 5 = .ok (.iaload, 1) := by decide +kernel
theorem d_Md_named_6 : decode prog_14_method_14_code 6 = .ok (.invokestatic 189, 3) := by decide +kernel
theorem d_Md_named_9 : decode prog_14_method_14_code 9 = .ok (.iload_n 2, 1) := by decide +kernel
theorem d_Md_named_10 : decode prog_14_method_14_code 10 = .ok (.iand, 1) := by decide +kernel
theorem d_Md_named_11 : decode prog_14_method_14_code 11 = .ok (.ifCond .eq 7, 3) := by decide +kernel
theorem d_Md_named_14 : decode prog_14_method_14_code 14 = .ok (.iconst 1, 1) := by decide +kernel
theorem d_Md_named_15 : decode prog_14_method_14_code 15 = .ok (.goto 4, 3) := by decide +kernel
theorem d_Md_named_18 : decode prog_14_method_14_code 18 = .ok (.iconst 0, 1) := by decide +kernel
theorem d_Md_named_19 : decode prog_14_method_14_code 19 = .ok (.ireturn, 1) := by decide +kernel
def f_Md_named (a1 : Int32) (a2 : Int32) (M : qM) : Option Int32 := q_ix a1 40 <| q_bp (f_Md_bit (M.1 4 a1.toNatClampNeg) M) fun x2 => if (x2 &&& a2) = 0 then (some 0) else (some 1)
abbrev rm_Md_named : Room := { frames := 2, cells := 0, slots := 0, locals := 40 }
set_option maxRecDepth 100000 in
set_option maxHeartbeats 4000000 in
theorem c_Md_named {l : Launch} {D : va_G} {dA : Nat → ClassId} {b : Nat} (a1 : Int32) (a2 : Int32)  (M : qM) (out : Int32) (hf : f_Md_named a1 a2 M = some out) : CTi l y_Md_named w_Md_named rm_Md_named D (tysX dA) (enM dA b) 38 b (fun _ => True) [qr (some 0), qi a1, qi a2] M (out, M) := by
  refine qm_z (cc := prog_14_method_14_code) (nL := 3) (by decide) rfl (Nat.le_of_ble_eq_true rfl) ?_
  intro p e s m args below meth c Q hx hb hts0 hown hml hK hs hret
  have hts : ∀ w ∈ lw_g, w.before args s = true := fun w h => hts0 w (List.mem_cons_of_mem _ h)
  show QJ p l e rm_Md_named s m args below meth c (qA 38 b) b 3 0 0 Q (qWd D (enM dA b) 38 b) M 0 [(0, qr (some 0)), (1, qi a1), (2, qi a2)] []
  unfold f_Md_named at hf
  refine qj_aload_n hx hb d_Md_named_0 rfl 0 rfl ?_
  refine qj_get hx hb hts hin_12 hown hK (by decide) rfl rfl 8 (by decide) (hts _ tw_450) (fun _ h => h) (qr (some 4)) rfl d_Md_named_1 ?_
  refine qj_iload_n hx hb d_Md_named_4 rfl 1 rfl ?_
  have hf9 := q_ix_s hf; clear hf; obtain ⟨hi1, hf⟩ := hf9
  refine qj_iald (t0 := 0) hx hb hK (by decide) (fun _ _ => rfl) rfl hi1 d_Md_named_5 ?_
  have hf9 := q_bp_s hf; clear hf; obtain ⟨x2, hx2, hf⟩ := hf9
  refine qc_Si (st := []) hx hb hml hown hts hK qT_ok hs (c_Md_bit (M.1 4 a1.toNatClampNeg) M _ hx2) ⟨(callB_of 1 hts (q_good tw_463) rfl rfl rfl (hts _ tw_459) (hts _ tw_464) (by decide +kernel) ⟨by decide, by decide⟩), (hts _ tw_465)⟩ rfl rfl (Nat.le_of_ble_eq_true rfl) d_Md_named_6 ?_
  refine qj_iload_n hx hb d_Md_named_9 rfl 2 rfl ?_
  refine qj_iand hx hb d_Md_named_10 ?_
  refine qj_if_eq (tgt := 18) hx hb d_Md_named_11 (by decide) (fun hc3 => ?_) (fun hc3 => ?_)
  · replace hf := q_if_t hc3 hf
    refine qj_iconst (v := 0) hx hb d_Md_named_18 (by decide) ?_
    exact hret _ _ _ _ (Or.inl rfl) d_Md_named_19 (congrArg (fun z => (z, M)) (Option.some.inj hf))
  · replace hf := q_if_f hc3 hf
    refine qj_iconst (v := 1) hx hb d_Md_named_14 (by decide) ?_
    refine qj_goto (tgt := 19) hx hb d_Md_named_15 (by decide) ?_
    exact hret _ _ _ _ (Or.inr rfl) d_Md_named_19 (congrArg (fun z => (z, M)) (Option.some.inj hf))
theorem d_Md_above_0 : decode prog_14_method_18_code 0 = .ok (.iconst 0, 1) := by decide +kernel
theorem d_Md_above_1 : decode prog_14_method_18_code 1 = .ok (.istore_n 3, 1) := by decide +kernel
theorem d_Md_above_2 : decode prog_14_method_18_code 2 = .ok (.iload_n 1, 1) := by decide +kernel
theorem d_Md_above_3 : decode prog_14_method_18_code 3 = .ok (.iconst 1, 1) := by decide +kernel
theorem d_Md_above_4 : decode prog_14_method_18_code 4 = .ok (.iadd, 1) := by decide +kernel
theorem d_Md_above_5 : decode prog_14_method_18_code 5 = .ok (.istore 4, 2) := by decide +kernel
theorem d_Md_above_7 : decode prog_14_method_18_code 7 = .ok (.iload 4, 2) := by decide +kernel
theorem d_Md_above_9 : decode prog_14_method_18_code 9 = .ok (.aload_n 0, 1) := by decide +kernel
theorem d_Md_above_10 : decode prog_14_method_18_code 10 = .ok (.getfield 148, 3) := by decide +kernel
theorem d_Md_above_13 : decode prog_14_method_18_code 13 = .ok (.if_icmp .ge 34, 3) := by decide +kernel
theorem d_Md_above_16 : decode prog_14_method_18_code 16 = .ok (.iload_n 3, 1) := by decide +kernel
theorem d_Md_above_17 : decode prog_14_method_18_code 17 = .ok (.ifCond .ne 18, 3) := by decide +kernel
theorem d_Md_above_20 : decode prog_14_method_18_code 20 = .ok (.aload_n 0, 1) := by decide +kernel
theorem d_Md_above_21 : decode prog_14_method_18_code 21 = .ok (.aload_n 0, 1) := by decide +kernel
theorem d_Md_above_22 : decode prog_14_method_18_code 22 = .ok (.getfield 31, 3) := by decide +kernel
theorem d_Md_above_25 : decode prog_14_method_18_code 25 = .ok (.iload 4, 2) := by decide +kernel
theorem d_Md_above_27 : decode prog_14_method_18_code 27 = .ok (.iaload, 1) := by decide +kernel
theorem d_Md_above_28 : decode prog_14_method_18_code 28 = .ok (.iload_n 2, 1) := by decide +kernel
theorem d_Md_above_29 : decode prog_14_method_18_code 29 = .ok (.invokevirtual 192, 3) := by decide +kernel
theorem d_Md_above_32 : decode prog_14_method_18_code 32 = .ok (.ifCond .eq 7, 3) := by decide +kernel
theorem d_Md_above_35 : decode prog_14_method_18_code 35 = .ok (.iconst 1, 1) := by decide +kernel
theorem d_Md_above_36 : decode prog_14_method_18_code 36 = .ok (.goto 4, 3) := by decide +kernel
theorem d_Md_above_39 : decode prog_14_method_18_code 39 = .ok (.iconst 0, 1) := by decide +kernel
theorem d_Md_above_40 : decode prog_14_method_18_code 40 = .ok (.istore_n 3, 1) := by decide +kernel
theorem d_Md_above_41 : decode prog_14_method_18_code 41 = .ok (.iinc 4 1, 3) := by decide +kernel
theorem d_Md_above_44 : decode prog_14_method_18_code 44 = .ok (.goto (-37), 3) := by decide +kernel
theorem d_Md_above_47 : decode prog_14_method_18_code 47 = .ok (.iload_n 3, 1) := by decide +kernel
theorem d_Md_above_48 : decode prog_14_method_18_code 48 = .ok (.ireturn, 1) := by decide +kernel
def f_Md_above_7 (M : qM) (a2 : Int32) : Nat → (Int32 → Option Int32) → Int32 → Int32 → Option Int32
  | 0, _, _, _ => none
  | n + 1, K3, x1, x2 => if (M.1 0 13) ≤ x2 then (K3 x1) else (if x1 = 0 then (q_ix x2 40 <| q_bp (f_Md_named (M.1 8 x2.toNatClampNeg) a2 M) fun x7 => if x7 = 0 then (f_Md_above_7 M a2 n K3 0 (x2 + 1)) else (f_Md_above_7 M a2 n K3 1 (x2 + 1))) else (f_Md_above_7 M a2 n K3 1 (x2 + 1)))
def f_Md_above (a1 : Int32) (a2 : Int32) (M : qM) : Option Int32 := f_Md_above_7 M a2 1000 (fun (x9 : Int32) => q_zk x9 <| some x9) 0 (a1 + 1)
abbrev rm_Md_above : Room := { frames := 3, cells := 0, slots := 0, locals := 62 }
set_option maxRecDepth 100000 in
set_option maxHeartbeats 4000000 in
theorem c_Md_above {l : Launch} {D : va_G} {dA : Nat → ClassId} {b : Nat} (a1 : Int32) (a2 : Int32)  (M : qM) (out : Int32) (hf : f_Md_above a1 a2 M = some out) : CTi l y_Md_above w_Md_above rm_Md_above D (tysX dA) (enM dA b) 38 b (fun _ => True) [qr (some 0), qi a1, qi a2] M (out, M) := by
  refine qm_z (cc := prog_14_method_18_code) (nL := 5) (by decide) rfl (Nat.le_of_ble_eq_true rfl) ?_
  intro p e s m args below meth c Q hx hb hts0 hown hml hK hs hret
  have hts : ∀ w ∈ lw_g, w.before args s = true := fun w h => hts0 w (List.mem_cons_of_mem _ h)
  show QJ p l e rm_Md_above s m args below meth c (qA 38 b) b 5 0 0 Q (qWd D (enM dA b) 38 b) M 0 [(0, qr (some 0)), (1, qi a1), (2, qi a2)] []
  unfold f_Md_above at hf
  refine qj_iconst (v := 0) hx hb d_Md_above_0 (by decide) ?_
  refine qj_istore_n hx hb d_Md_above_1 rfl (by decide) rfl ?_
  refine qj_iload_n hx hb d_Md_above_2 rfl 2 rfl ?_
  refine qj_iconst (v := 1) hx hb d_Md_above_3 (by decide) ?_
  refine qj_iadd hx hb d_Md_above_4 ?_
  refine qj_istore hx hb d_Md_above_5 (by decide) rfl ?_
  have hL7 : ∀ (n : Nat) (K3 : Int32 → Option Int32), (∀ (x9 : Int32), K3 x9 = some out → QJ p l e rm_Md_above s m args below meth c (qA 38 b) b 5 0 0 Q (qWd D (enM dA b) 38 b) M 47 [(3, qi x9)] []) → ∀ (x1 : Int32) (x2 : Int32), f_Md_above_7 M a2 n K3 x1 x2 = some out → QJ p l e rm_Md_above s m args below meth c (qA 38 b) b 5 0 0 Q (qWd D (enM dA b) 38 b) M 7 [(0, qr (some 0)), (2, qi a2), (3, qi x1), (4, qi x2)] [] := by
    clear hf
    intro n
    induction n with
    | zero =>
      intro K3 hK3 x1 x2 hf
      exact absurd hf (by simp [f_Md_above_7])
    | succ n ih7 =>
      intro K3 hK3 x1 x2 hf
      rw [f_Md_above_7] at hf
      have ih7 := ih7 K3 hK3
      refine qj_iload hx hb d_Md_above_7 3 rfl ?_
      refine qj_aload_n hx hb d_Md_above_9 rfl 0 rfl ?_
      refine qj_get hx hb hts hin_12 hown hK (by decide) rfl rfl 13 (by decide) (hts _ tw_454) (fun _ h => h) (qi (M.1 0 13)) rfl d_Md_above_10 ?_
      refine qj_icmp_ge (tgt := 47) hx hb d_Md_above_13 (by decide) (fun hc4 => ?_) (fun hc4 => ?_)
      · replace hf := q_if_t hc4 hf
        refine qj_sub [2] rfl ?_
        exact hK3 x1 hf
      · replace hf := q_if_f hc4 hf
        refine qj_iload_n hx hb d_Md_above_16 rfl 2 rfl ?_
        refine qj_if_ne (tgt := 35) hx hb d_Md_above_17 (by decide) (fun hc5 => ?_) (fun hc5 => ?_)
        · replace hf := q_if_f hc5 hf
          refine qj_iconst (v := 1) hx hb d_Md_above_35 (by decide) ?_
          refine qj_goto (tgt := 40) hx hb d_Md_above_36 (by decide) ?_
          refine qj_istore_n hx hb d_Md_above_40 rfl (by decide) rfl ?_
          refine qj_iinc (j := 3) (v := x2 + 1) hx hb d_Md_above_41 rfl rfl (by decide) rfl ?_
          refine qj_goto (tgt := 7) hx hb d_Md_above_44 (by decide) ?_
          refine qj_sub [2, 3, 1, 0] rfl ?_
          exact ih7 1 (x2 + 1) hf
        · replace hf := q_if_t hc5 hf
          refine qj_aload_n hx hb d_Md_above_20 rfl 0 rfl ?_
          refine qj_aload_n hx hb d_Md_above_21 rfl 0 rfl ?_
          refine qj_get hx hb hts hin_12 hown hK (by decide) rfl rfl 12 (by decide) (hts _ tw_453) (fun _ h => h) (qr (some 8)) rfl d_Md_above_22 ?_
          refine qj_iload hx hb d_Md_above_25 3 rfl ?_
          have hf9 := q_ix_s hf; clear hf; obtain ⟨hi6, hf⟩ := hf9
          refine qj_iald (t0 := 0) hx hb hK (by decide) (fun _ _ => rfl) rfl hi6 d_Md_above_27 ?_
          refine qj_iload_n hx hb d_Md_above_28 rfl 1 rfl ?_
          have hf9 := q_bp_s hf; clear hf; obtain ⟨x7, hx7, hf⟩ := hf9
          refine qc_Vi (st := []) hx hb hml hown hts hK qT_ok hs (c_Md_named (M.1 8 x2.toNatClampNeg) a2 M _ hx7) ⟨(callB_of 2 hts (q_good tw_466) rfl rfl rfl (hts _ tw_459) (hts _ tw_467) (by decide +kernel) ⟨by decide, by decide⟩), (hts _ tw_468), (hts _ tw_469)⟩ (by decide) rfl rfl rfl rfl (Nat.le_of_ble_eq_true rfl) d_Md_above_29 ?_
          refine qj_if_eq (tgt := 39) hx hb d_Md_above_32 (by decide) (fun hc8 => ?_) (fun hc8 => ?_)
          · replace hf := q_if_t hc8 hf
            refine qj_iconst (v := 0) hx hb d_Md_above_39 (by decide) ?_
            refine qj_istore_n hx hb d_Md_above_40 rfl (by decide) rfl ?_
            refine qj_iinc (j := 3) (v := x2 + 1) hx hb d_Md_above_41 rfl rfl (by decide) rfl ?_
            refine qj_goto (tgt := 7) hx hb d_Md_above_44 (by decide) ?_
            refine qj_sub [2, 3, 1, 0] rfl ?_
            exact ih7 0 (x2 + 1) hf
          · replace hf := q_if_f hc8 hf
            refine qj_iconst (v := 1) hx hb d_Md_above_35 (by decide) ?_
            refine qj_goto (tgt := 40) hx hb d_Md_above_36 (by decide) ?_
            refine qj_istore_n hx hb d_Md_above_40 rfl (by decide) rfl ?_
            refine qj_iinc (j := 3) (v := x2 + 1) hx hb d_Md_above_41 rfl rfl (by decide) rfl ?_
            refine qj_goto (tgt := 7) hx hb d_Md_above_44 (by decide) ?_
            refine qj_sub [2, 3, 1, 0] rfl ?_
            exact ih7 1 (x2 + 1) hf
  refine qj_sub [2, 4, 1, 0] rfl ?_
  refine hL7 _ _ (fun x9 hf9 => ?_) 0 (a1 + 1) hf
  clear hf; have hf := hf9; clear hf9
  refine qj_iload_n hx hb d_Md_above_47 rfl 0 rfl ?_
  have hf9 := q_zk_s hf; clear hf; obtain ⟨hz10, hf⟩ := hf9
  exact hret _ _ _ _ hz10 d_Md_above_48 (congrArg (fun z => (z, M)) (Option.some.inj hf))
theorem d_Md_reach_0 : decode prog_14_method_19_code 0 = .ok (.aload_n 0, 1) := by decide +kernel
theorem d_Md_reach_1 : decode prog_14_method_19_code 1 = .ok (.iload_n 1, 1) := by decide +kernel
theorem d_Md_reach_2 : decode prog_14_method_19_code 2 = .ok (.invokevirtual 196, 3) := by decide +kernel
theorem d_Md_reach_5 : decode prog_14_method_19_code 5 = .ok (.istore_n 3, 1) := by decide +kernel
theorem d_Md_reach_6 : decode prog_14_method_19_code 6 = .ok (.iload_n 3, 1) := by decide +kernel
theorem d_Md_reach_7 : decode prog_14_method_19_code 7 = .ok (.ifCond .lt 16, 3) := by decide +kernel
theorem d_Md_reach_10 : decode prog_14_method_19_code 10 = .ok (.aload_n 0, 1) := by decide +kernel
theorem d_Md_reach_11 : decode prog_14_method_19_code 11 = .ok (.iload_n 3, 1) := by decide +kernel
theorem d_Md_reach_12 : decode prog_14_method_19_code 12 = .ok (.iload_n 2, 1) := by decide +kernel
theorem d_Md_reach_13 : decode prog_14_method_19_code 13 = .ok (.invokevirtual 199, 3) := by decide +kernel
theorem d_Md_reach_16 : decode prog_14_method_19_code 16 = .ok (.ifCond .ne 7, 3) := by decide +kernel
theorem d_Md_reach_19 : decode prog_14_method_19_code 19 = .ok (.iconst 1, 1) := by decide +kernel
theorem d_Md_reach_20 : decode prog_14_method_19_code 20 = .ok (.goto 4, 3) := by decide +kernel
theorem d_Md_reach_23 : decode prog_14_method_19_code 23 = .ok (.iconst 0, 1) := by decide +kernel
theorem d_Md_reach_24 : decode prog_14_method_19_code 24 = .ok (.ireturn, 1) := by decide +kernel
def f_Md_reach (a1 : Int32) (a2 : Int32) (M : qM) : Option Int32 := q_bp (f_Md_topmost a1 M) fun x1 => if x1 < 0 then (some 0) else (q_bp (f_Md_above x1 a2 M) fun x3 => if x3 = 0 then (some 1) else (some 0))
abbrev rm_Md_reach : Room := { frames := 4, cells := 0, slots := 0, locals := 86 }
set_option maxRecDepth 100000 in
set_option maxHeartbeats 4000000 in
theorem c_Md_reach {l : Launch} {D : va_G} {dA : Nat → ClassId} {b : Nat} (a1 : Int32) (a2 : Int32)  (M : qM) (out : Int32) (hf : f_Md_reach a1 a2 M = some out) : CTi l y_Md_reach w_Md_reach rm_Md_reach D (tysX dA) (enM dA b) 38 b (fun _ => True) [qr (some 0), qi a1, qi a2] M (out, M) := by
  refine qm_z (cc := prog_14_method_19_code) (nL := 4) (by decide) rfl (Nat.le_of_ble_eq_true rfl) ?_
  intro p e s m args below meth c Q hx hb hts0 hown hml hK hs hret
  have hts : ∀ w ∈ lw_g, w.before args s = true := fun w h => hts0 w (List.mem_cons_of_mem _ h)
  show QJ p l e rm_Md_reach s m args below meth c (qA 38 b) b 4 0 0 Q (qWd D (enM dA b) 38 b) M 0 [(0, qr (some 0)), (1, qi a1), (2, qi a2)] []
  unfold f_Md_reach at hf
  refine qj_aload_n hx hb d_Md_reach_0 rfl 0 rfl ?_
  refine qj_iload_n hx hb d_Md_reach_1 rfl 1 rfl ?_
  have hf9 := q_bp_s hf; clear hf; obtain ⟨x1, hx1, hf⟩ := hf9
  refine qc_Vi (st := []) hx hb hml hown hts hK qT_ok hs (c_Md_topmost a1 M _ hx1) ⟨(callB_of 1 hts (q_good tw_470) rfl rfl rfl (hts _ tw_459) (hts _ tw_471) (by decide +kernel) ⟨by decide, by decide⟩), (hts _ tw_472), (hts _ tw_473)⟩ (by decide) rfl rfl rfl rfl (Nat.le_of_ble_eq_true rfl) d_Md_reach_2 ?_
  refine qj_istore_n hx hb d_Md_reach_5 rfl (by decide) rfl ?_
  refine qj_iload_n hx hb d_Md_reach_6 rfl 0 rfl ?_
  refine qj_if_lt (tgt := 23) hx hb d_Md_reach_7 (by decide) (fun hc2 => ?_) (fun hc2 => ?_)
  · replace hf := q_if_t hc2 hf
    refine qj_iconst (v := 0) hx hb d_Md_reach_23 (by decide) ?_
    exact hret _ _ _ _ (Or.inl rfl) d_Md_reach_24 (congrArg (fun z => (z, M)) (Option.some.inj hf))
  · replace hf := q_if_f hc2 hf
    refine qj_aload_n hx hb d_Md_reach_10 rfl 1 rfl ?_
    refine qj_iload_n hx hb d_Md_reach_11 rfl 0 rfl ?_
    refine qj_iload_n hx hb d_Md_reach_12 rfl 3 rfl ?_
    have hf9 := q_bp_s hf; clear hf; obtain ⟨x3, hx3, hf⟩ := hf9
    refine qc_Vi (st := []) hx hb hml hown hts hK qT_ok hs (c_Md_above x1 a2 M _ hx3) ⟨(callB_of 2 hts (q_good tw_474) rfl rfl rfl (hts _ tw_459) (hts _ tw_475) (by decide +kernel) ⟨by decide, by decide⟩), (hts _ tw_476), (hts _ tw_477)⟩ (by decide) rfl rfl rfl rfl (Nat.le_of_ble_eq_true rfl) d_Md_reach_13 ?_
    refine qj_if_ne (tgt := 23) hx hb d_Md_reach_16 (by decide) (fun hc4 => ?_) (fun hc4 => ?_)
    · replace hf := q_if_f hc4 hf
      refine qj_iconst (v := 0) hx hb d_Md_reach_23 (by decide) ?_
      exact hret _ _ _ _ (Or.inl rfl) d_Md_reach_24 (congrArg (fun z => (z, M)) (Option.some.inj hf))
    · replace hf := q_if_t hc4 hf
      refine qj_iconst (v := 1) hx hb d_Md_reach_19 (by decide) ?_
      refine qj_goto (tgt := 24) hx hb d_Md_reach_20 (by decide) ?_
      exact hret _ _ _ _ (Or.inr rfl) d_Md_reach_24 (congrArg (fun z => (z, M)) (Option.some.inj hf))
theorem d_Md_seat_0 : decode prog_14_method_15_code 0 = .ok (.iconst 0, 1) := by decide +kernel
theorem d_Md_seat_1 : decode prog_14_method_15_code 1 = .ok (.istore_n 2, 1) := by decide +kernel
theorem d_Md_seat_2 : decode prog_14_method_15_code 2 = .ok (.iconst 0, 1) := by decide +kernel
theorem d_Md_seat_3 : decode prog_14_method_15_code 3 = .ok (.istore_n 3, 1) := by decide +kernel
theorem d_Md_seat_4 : decode prog_14_method_15_code 4 = .ok (.iload_n 3, 1) := by decide +kernel
theorem d_Md_seat_5 : decode prog_14_method_15_code 5 = .ok (.aload_n 0, 1) := by decide +kernel
theorem d_Md_seat_6 : decode prog_14_method_15_code 6 = .ok (.getfield 142, 3) := by decide +kernel
theorem d_Md_seat_9 : decode prog_14_method_15_code 9 = .ok (.if_icmp .ge 25, 3) := by decide +kernel
theorem d_Md_seat_12 : decode prog_14_method_15_code 12 = .ok (.aload_n 0, 1) := by decide +kernel
theorem d_Md_seat_13 : decode prog_14_method_15_code 13 = .ok (.getfield 16, 3) := by decide +kernel
theorem d_Md_seat_16 : decode prog_14_method_15_code 16 = .ok (.iload_n 3, 1) := by decide +kernel
theorem d_Md_seat_17 : decode prog_14_method_15_code 17 = .ok (.iaload, 1) := by decide +kernel
theorem d_Md_seat_18 : decode prog_14_method_15_code 18 = .ok (.iload_n 1, 1) := by decide +kernel
theorem d_Md_seat_19 : decode prog_14_method_15_code 19 = .ok (.if_icmp .ne 7, 3) := by decide +kernel
theorem d_Md_seat_22 : decode prog_14_method_15_code 22 = .ok (.iload_n 3, 1) := by decide +kernel
theorem d_Md_seat_23 : decode prog_14_method_15_code 23 = .ok (.goto 4, 3) := by decide +kernel
theorem d_Md_seat_26 : decode prog_14_method_15_code 26 = .ok (.iload_n 2, 1) := by decide +kernel
theorem d_Md_seat_27 : decode prog_14_method_15_code 27 = .ok (.istore_n 2, 1) := by decide +kernel
theorem d_Md_seat_28 : decode prog_14_method_15_code 28 = .ok (.iinc 3 1, 3) := by decide +kernel
theorem d_Md_seat_31 : decode prog_14_method_15_code 31 = .ok (.goto (-27), 3) := by decide +kernel
theorem d_Md_seat_34 : decode prog_14_method_15_code 34 = .ok (.iload_n 2, 1) := by decide +kernel
theorem d_Md_seat_35 : decode prog_14_method_15_code 35 = .ok (.ireturn, 1) := by decide +kernel
def f_Md_seat_4 (M : qM) (a1 : Int32) : Nat → (Int32 → Option Int32) → Int32 → Int32 → Option Int32
  | 0, _, _, _ => none
  | n + 1, K3, x1, x2 => if (M.1 0 5) ≤ x2 then (K3 x1) else (q_ix x2 40 <| if (M.1 3 x2.toNatClampNeg) = a1 then (f_Md_seat_4 M a1 n K3 x2 (x2 + 1)) else (f_Md_seat_4 M a1 n K3 x1 (x2 + 1)))
def f_Md_seat (a1 : Int32) (M : qM) : Option Int32 := f_Md_seat_4 M a1 1000 (fun (x7 : Int32) => some x7) 0 0
abbrev rm_Md_seat : Room := { frames := 0, cells := 0, slots := 0, locals := 0 }
set_option maxRecDepth 100000 in
set_option maxHeartbeats 4000000 in
theorem c_Md_seat {l : Launch} {D : va_G} {dA : Nat → ClassId} {b : Nat} (a1 : Int32)  (M : qM) (out : Int32) (hf : f_Md_seat a1 M = some out) : CTi l y_Md_seat w_Md_seat rm_Md_seat D (tysX dA) (enM dA b) 38 b (fun _ => True) [qr (some 0), qi a1] M (out, M) := by
  refine qm_i (cc := prog_14_method_15_code) (nL := 4) (by decide) rfl (Nat.le_of_ble_eq_true rfl) ?_
  intro p e s m args below meth c Q hx hb hts0 hown hml hK hs hret
  have hts : ∀ w ∈ lw_g, w.before args s = true := fun w h => hts0 w (List.mem_cons_of_mem _ h)
  show QJ p l e rm_Md_seat s m args below meth c (qA 38 b) b 4 0 0 Q (qWd D (enM dA b) 38 b) M 0 [(0, qr (some 0)), (1, qi a1)] []
  unfold f_Md_seat at hf
  refine qj_iconst (v := 0) hx hb d_Md_seat_0 (by decide) ?_
  refine qj_istore_n hx hb d_Md_seat_1 rfl (by decide) rfl ?_
  refine qj_iconst (v := 0) hx hb d_Md_seat_2 (by decide) ?_
  refine qj_istore_n hx hb d_Md_seat_3 rfl (by decide) rfl ?_
  have hL4 : ∀ (n : Nat) (K3 : Int32 → Option Int32), (∀ (x7 : Int32), K3 x7 = some out → QJ p l e rm_Md_seat s m args below meth c (qA 38 b) b 4 0 0 Q (qWd D (enM dA b) 38 b) M 34 [(2, qi x7)] []) → ∀ (x1 : Int32) (x2 : Int32), f_Md_seat_4 M a1 n K3 x1 x2 = some out → QJ p l e rm_Md_seat s m args below meth c (qA 38 b) b 4 0 0 Q (qWd D (enM dA b) 38 b) M 4 [(0, qr (some 0)), (1, qi a1), (2, qi x1), (3, qi x2)] [] := by
    clear hf
    intro n
    induction n with
    | zero =>
      intro K3 hK3 x1 x2 hf
      exact absurd hf (by simp [f_Md_seat_4])
    | succ n ih4 =>
      intro K3 hK3 x1 x2 hf
      rw [f_Md_seat_4] at hf
      have ih4 := ih4 K3 hK3
      refine qj_iload_n hx hb d_Md_seat_4 rfl 3 rfl ?_
      refine qj_aload_n hx hb d_Md_seat_5 rfl 0 rfl ?_
      refine qj_get hx hb hts hin_12 hown hK (by decide) rfl rfl 5 (by decide) (hts _ tw_447) (fun _ h => h) (qi (M.1 0 5)) rfl d_Md_seat_6 ?_
      refine qj_icmp_ge (tgt := 34) hx hb d_Md_seat_9 (by decide) (fun hc4 => ?_) (fun hc4 => ?_)
      · replace hf := q_if_t hc4 hf
        refine qj_sub [2] rfl ?_
        exact hK3 x1 hf
      · replace hf := q_if_f hc4 hf
        refine qj_aload_n hx hb d_Md_seat_12 rfl 0 rfl ?_
        refine qj_get hx hb hts hin_12 hown hK (by decide) rfl rfl 6 (by decide) (hts _ tw_448) (fun _ h => h) (qr (some 3)) rfl d_Md_seat_13 ?_
        refine qj_iload_n hx hb d_Md_seat_16 rfl 3 rfl ?_
        have hf9 := q_ix_s hf; clear hf; obtain ⟨hi5, hf⟩ := hf9
        refine qj_iald (t0 := 0) hx hb hK (by decide) (fun _ _ => rfl) rfl hi5 d_Md_seat_17 ?_
        refine qj_iload_n hx hb d_Md_seat_18 rfl 1 rfl ?_
        refine qj_icmp_ne (tgt := 26) hx hb d_Md_seat_19 (by decide) (fun hc6 => ?_) (fun hc6 => ?_)
        · replace hf := q_if_f hc6 hf
          refine qj_iload_n hx hb d_Md_seat_26 rfl 2 rfl ?_
          refine qj_istore_n hx hb d_Md_seat_27 rfl (by decide) rfl ?_
          refine qj_iinc (j := 3) (v := x2 + 1) hx hb d_Md_seat_28 rfl rfl (by decide) rfl ?_
          refine qj_goto (tgt := 4) hx hb d_Md_seat_31 (by decide) ?_
          refine qj_sub [2, 3, 1, 0] rfl ?_
          exact ih4 x1 (x2 + 1) hf
        · replace hf := q_if_t hc6 hf
          refine qj_iload_n hx hb d_Md_seat_22 rfl 3 rfl ?_
          refine qj_goto (tgt := 27) hx hb d_Md_seat_23 (by decide) ?_
          refine qj_istore_n hx hb d_Md_seat_27 rfl (by decide) rfl ?_
          refine qj_iinc (j := 3) (v := x2 + 1) hx hb d_Md_seat_28 rfl rfl (by decide) rfl ?_
          refine qj_goto (tgt := 4) hx hb d_Md_seat_31 (by decide) ?_
          refine qj_sub [2, 3, 1, 0] rfl ?_
          exact ih4 x2 (x2 + 1) hf
  refine qj_sub [2, 3, 1, 0] rfl ?_
  refine hL4 _ _ (fun x7 hf9 => ?_) 0 0 hf
  clear hf; have hf := hf9; clear hf9
  refine qj_iload_n hx hb d_Md_seat_34 rfl 0 rfl ?_
  exact hret _ _ _ _ d_Md_seat_35 (congrArg (fun z => (z, M)) (Option.some.inj hf))
theorem d_Md_behind_0 : decode prog_14_method_16_code 0 = .ok (.iload_n 1, 1) := by decide +kernel
theorem d_Md_behind_1 : decode prog_14_method_16_code 1 = .ok (.iconst 1, 1) := by decide +kernel
theorem d_Md_behind_2 : decode prog_14_method_16_code 2 = .ok (.iadd, 1) := by decide +kernel
theorem d_Md_behind_3 : decode prog_14_method_16_code 3 = .ok (.istore_n 2, 1) := by decide +kernel
theorem d_Md_behind_4 : decode prog_14_method_16_code 4 = .ok (.iload_n 2, 1) := by decide +kernel
theorem d_Md_behind_5 : decode prog_14_method_16_code 5 = .ok (.aload_n 0, 1) := by decide +kernel
theorem d_Md_behind_6 : decode prog_14_method_16_code 6 = .ok (.getfield 142, 3) := by decide +kernel
theorem d_Md_behind_9 : decode prog_14_method_16_code 9 = .ok (.if_icmp .ge 34, 3) := by decide +kernel
theorem d_Md_behind_12 : decode prog_14_method_16_code 12 = .ok (.aload_n 0, 1) := by decide +kernel
theorem d_Md_behind_13 : decode prog_14_method_16_code 13 = .ok (.getfield 25, 3) := by decide +kernel
theorem d_Md_behind_16 : decode prog_14_method_16_code 16 = .ok (.aload_n 0, 1) := by decide +kernel
theorem d_Md_behind_17 : decode prog_14_method_16_code 17 = .ok (.getfield 16, 3) := by decide +kernel
theorem d_Md_behind_20 : decode prog_14_method_16_code 20 = .ok (.iload_n 2, 1) := by decide +kernel
theorem d_Md_behind_21 : decode prog_14_method_16_code 21 = .ok (.iaload, 1) := by decide +kernel
theorem d_Md_behind_22 : decode prog_14_method_16_code 22 = .ok (.iaload, 1) := by decide +kernel
theorem d_Md_behind_23 : decode prog_14_method_16_code 23 = .ok (.aload_n 0, 1) := by decide +kernel
theorem d_Md_behind_24 : decode prog_14_method_16_code 24 = .ok (.getfield 25, 3) := by decide +kernel
theorem d_Md_behind_27 : decode prog_14_method_16_code 27 = .ok (.aload_n 0, 1) := by decide +kernel
theorem d_Md_behind_28 : decode prog_14_method_16_code 28 = .ok (.getfield 16, 3) := by decide +kernel
theorem d_Md_behind_31 : decode prog_14_method_16_code 31 = .ok (.iload_n 1, 1) := by decide +kernel
theorem d_Md_behind_32 : decode prog_14_method_16_code 32 = .ok (.iaload, 1) := by decide +kernel
theorem d_Md_behind_33 : decode prog_14_method_16_code 33 = .ok (.iaload, 1) := by decide +kernel
theorem d_Md_behind_34 : decode prog_14_method_16_code 34 = .ok (.if_icmp .le 9, 3) := by decide +kernel
theorem d_Md_behind_37 : decode prog_14_method_16_code 37 = .ok (.iinc 2 1, 3) := by decide +kernel
theorem d_Md_behind_40 : decode prog_14_method_16_code 40 = .ok (.goto (-36), 3) := by decide +kernel
theorem d_Md_behind_43 : decode prog_14_method_16_code 43 = .ok (.iload_n 2, 1) := by decide +kernel
theorem d_Md_behind_44 : decode prog_14_method_16_code 44 = .ok (.ireturn, 1) := by decide +kernel
def f_Md_behind_4 (M : qM) (a1 : Int32) : Nat → (Int32 → Option Int32) → Int32 → Option Int32
  | 0, _, _ => none
  | n + 1, K2, x1 => if (M.1 0 5) ≤ x1 then (K2 x1) else (q_ix x1 40 <| q_ix (M.1 3 x1.toNatClampNeg) 40 <| q_ix a1 40 <| q_ix (M.1 3 a1.toNatClampNeg) 40 <| if (M.1 6 (M.1 3 x1.toNatClampNeg).toNatClampNeg) ≤ (M.1 6 (M.1 3 a1.toNatClampNeg).toNatClampNeg) then (K2 x1) else (f_Md_behind_4 M a1 n K2 (x1 + 1)))
def f_Md_behind (a1 : Int32) (M : qM) : Option Int32 := f_Md_behind_4 M a1 1000 (fun (x9 : Int32) => some x9) (a1 + 1)
abbrev rm_Md_behind : Room := { frames := 0, cells := 0, slots := 0, locals := 0 }
set_option maxRecDepth 100000 in
set_option maxHeartbeats 4000000 in
theorem c_Md_behind {l : Launch} {D : va_G} {dA : Nat → ClassId} {b : Nat} (a1 : Int32)  (M : qM) (out : Int32) (hf : f_Md_behind a1 M = some out) : CTi l y_Md_behind w_Md_behind rm_Md_behind D (tysX dA) (enM dA b) 38 b (fun _ => True) [qr (some 0), qi a1] M (out, M) := by
  refine qm_i (cc := prog_14_method_16_code) (nL := 3) (by decide) rfl (Nat.le_of_ble_eq_true rfl) ?_
  intro p e s m args below meth c Q hx hb hts0 hown hml hK hs hret
  have hts : ∀ w ∈ lw_g, w.before args s = true := fun w h => hts0 w (List.mem_cons_of_mem _ h)
  show QJ p l e rm_Md_behind s m args below meth c (qA 38 b) b 3 0 0 Q (qWd D (enM dA b) 38 b) M 0 [(0, qr (some 0)), (1, qi a1)] []
  unfold f_Md_behind at hf
  refine qj_iload_n hx hb d_Md_behind_0 rfl 1 rfl ?_
  refine qj_iconst (v := 1) hx hb d_Md_behind_1 (by decide) ?_
  refine qj_iadd hx hb d_Md_behind_2 ?_
  refine qj_istore_n hx hb d_Md_behind_3 rfl (by decide) rfl ?_
  have hL4 : ∀ (n : Nat) (K2 : Int32 → Option Int32), (∀ (x9 : Int32), K2 x9 = some out → QJ p l e rm_Md_behind s m args below meth c (qA 38 b) b 3 0 0 Q (qWd D (enM dA b) 38 b) M 43 [(2, qi x9)] []) → ∀ (x1 : Int32), f_Md_behind_4 M a1 n K2 x1 = some out → QJ p l e rm_Md_behind s m args below meth c (qA 38 b) b 3 0 0 Q (qWd D (enM dA b) 38 b) M 4 [(0, qr (some 0)), (1, qi a1), (2, qi x1)] [] := by
    clear hf
    intro n
    induction n with
    | zero =>
      intro K2 hK2 x1 hf
      exact absurd hf (by simp [f_Md_behind_4])
    | succ n ih4 =>
      intro K2 hK2 x1 hf
      rw [f_Md_behind_4] at hf
      have ih4 := ih4 K2 hK2
      refine qj_iload_n hx hb d_Md_behind_4 rfl 2 rfl ?_
      refine qj_aload_n hx hb d_Md_behind_5 rfl 0 rfl ?_
      refine qj_get hx hb hts hin_12 hown hK (by decide) rfl rfl 5 (by decide) (hts _ tw_447) (fun _ h => h) (qi (M.1 0 5)) rfl d_Md_behind_6 ?_
      refine qj_icmp_ge (tgt := 43) hx hb d_Md_behind_9 (by decide) (fun hc3 => ?_) (fun hc3 => ?_)
      · replace hf := q_if_t hc3 hf
        refine qj_sub [2] rfl ?_
        exact hK2 x1 hf
      · replace hf := q_if_f hc3 hf
        refine qj_aload_n hx hb d_Md_behind_12 rfl 0 rfl ?_
        refine qj_get hx hb hts hin_12 hown hK (by decide) rfl rfl 10 (by decide) (hts _ tw_452) (fun _ h => h) (qr (some 6)) rfl d_Md_behind_13 ?_
        refine qj_aload_n hx hb d_Md_behind_16 rfl 0 rfl ?_
        refine qj_get hx hb hts hin_12 hown hK (by decide) rfl rfl 6 (by decide) (hts _ tw_448) (fun _ h => h) (qr (some 3)) rfl d_Md_behind_17 ?_
        refine qj_iload_n hx hb d_Md_behind_20 rfl 2 rfl ?_
        have hf9 := q_ix_s hf; clear hf; obtain ⟨hi4, hf⟩ := hf9
        refine qj_iald (t0 := 0) hx hb hK (by decide) (fun _ _ => rfl) rfl hi4 d_Md_behind_21 ?_
        have hf9 := q_ix_s hf; clear hf; obtain ⟨hi5, hf⟩ := hf9
        refine qj_iald (t0 := 0) hx hb hK (by decide) (fun _ _ => rfl) rfl hi5 d_Md_behind_22 ?_
        refine qj_aload_n hx hb d_Md_behind_23 rfl 0 rfl ?_
        refine qj_get hx hb hts hin_12 hown hK (by decide) rfl rfl 10 (by decide) (hts _ tw_452) (fun _ h => h) (qr (some 6)) rfl d_Md_behind_24 ?_
        refine qj_aload_n hx hb d_Md_behind_27 rfl 0 rfl ?_
        refine qj_get hx hb hts hin_12 hown hK (by decide) rfl rfl 6 (by decide) (hts _ tw_448) (fun _ h => h) (qr (some 3)) rfl d_Md_behind_28 ?_
        refine qj_iload_n hx hb d_Md_behind_31 rfl 1 rfl ?_
        have hf9 := q_ix_s hf; clear hf; obtain ⟨hi6, hf⟩ := hf9
        refine qj_iald (t0 := 0) hx hb hK (by decide) (fun _ _ => rfl) rfl hi6 d_Md_behind_32 ?_
        have hf9 := q_ix_s hf; clear hf; obtain ⟨hi7, hf⟩ := hf9
        refine qj_iald (t0 := 0) hx hb hK (by decide) (fun _ _ => rfl) rfl hi7 d_Md_behind_33 ?_
        refine qj_icmp_le (tgt := 43) hx hb d_Md_behind_34 (by decide) (fun hc8 => ?_) (fun hc8 => ?_)
        · replace hf := q_if_t hc8 hf
          refine qj_sub [2] rfl ?_
          exact hK2 x1 hf
        · replace hf := q_if_f hc8 hf
          refine qj_iinc (j := 2) (v := x1 + 1) hx hb d_Md_behind_37 rfl rfl (by decide) rfl ?_
          refine qj_goto (tgt := 4) hx hb d_Md_behind_40 (by decide) ?_
          refine qj_sub [1, 2, 0] rfl ?_
          exact ih4 (x1 + 1) hf
  refine qj_sub [1, 2, 0] rfl ?_
  refine hL4 _ _ (fun x9 hf9 => ?_) (a1 + 1) hf
  clear hf; have hf := hf9; clear hf9
  refine qj_iload_n hx hb d_Md_behind_43 rfl 0 rfl ?_
  exact hret _ _ _ _ d_Md_behind_44 (congrArg (fun z => (z, M)) (Option.some.inj hf))
theorem d_Md_insideTop_0 : decode prog_14_method_21_code 0 = .ok (.aload_n 0, 1) := by decide +kernel
theorem d_Md_insideTop_1 : decode prog_14_method_21_code 1 = .ok (.iload_n 1, 1) := by decide +kernel
theorem d_Md_insideTop_2 : decode prog_14_method_21_code 2 = .ok (.invokevirtual 202, 3) := by decide +kernel
theorem d_Md_insideTop_5 : decode prog_14_method_21_code 5 = .ok (.istore_n 2, 1) := by decide +kernel
theorem d_Md_insideTop_6 : decode prog_14_method_21_code 6 = .ok (.aload_n 0, 1) := by decide +kernel
theorem d_Md_insideTop_7 : decode prog_14_method_21_code 7 = .ok (.aload_n 0, 1) := by decide +kernel
theorem d_Md_insideTop_8 : decode prog_14_method_21_code 8 = .ok (.iload_n 2, 1) := by decide +kernel
theorem d_Md_insideTop_9 : decode prog_14_method_21_code 9 = .ok (.invokevirtual 205, 3) := by decide +kernel
theorem d_Md_insideTop_12 : decode prog_14_method_21_code 12 = .ok (.putfield 208, 3) := by decide +kernel
theorem d_Md_insideTop_15 : decode prog_14_method_21_code 15 = .ok (.aload_n 0, 1) := by decide +kernel
theorem d_Md_insideTop_16 : decode prog_14_method_21_code 16 = .ok (.aload_n 0, 1) := by decide +kernel
theorem d_Md_insideTop_17 : decode prog_14_method_21_code 17 = .ok (.getfield 25, 3) := by decide +kernel
theorem d_Md_insideTop_20 : decode prog_14_method_21_code 20 = .ok (.iload_n 1, 1) := by decide +kernel
theorem d_Md_insideTop_21 : decode prog_14_method_21_code 21 = .ok (.iaload, 1) := by decide +kernel
theorem d_Md_insideTop_22 : decode prog_14_method_21_code 22 = .ok (.iconst 1, 1) := by decide +kernel
theorem d_Md_insideTop_23 : decode prog_14_method_21_code 23 = .ok (.iadd, 1) := by decide +kernel
theorem d_Md_insideTop_24 : decode prog_14_method_21_code 24 = .ok (.putfield 211, 3) := by decide +kernel
theorem d_Md_insideTop_27 : decode prog_14_method_21_code 27 = .ok (.return_, 1) := by decide +kernel
def f_Md_insideTop (a1 : Int32) (M : qM) : Option qM := q_bp (f_Md_seat a1 M) fun x1 => q_bp (f_Md_behind x1 M) fun x2 => q_lt (qsI M 0 20 x2) fun M3 => q_ix a1 40 <| q_lt (qsI M3 0 21 ((M3.1 6 a1.toNatClampNeg) + 1)) fun M5 => some M5
abbrev rm_Md_insideTop : Room := { frames := 1, cells := 0, slots := 0, locals := 23 }
set_option maxRecDepth 100000 in
set_option maxHeartbeats 4000000 in
theorem c_Md_insideTop {l : Launch} {D : va_G} {dA : Nat → ClassId} {b : Nat} (a1 : Int32)  (M : qM) (out : qM) (hf : f_Md_insideTop a1 M = some out) : CTv l y_Md_insideTop w_Md_insideTop rm_Md_insideTop D (tysX dA) (enM dA b) 38 b (fun _ => True) [qr (some 0), qi a1] M out := by
  refine qm_v (cc := prog_14_method_21_code) (nL := 3) (by decide) rfl (Nat.le_of_ble_eq_true rfl) ?_
  intro p e s m args below meth c Q hx hb hts0 hown hml hK hs hret
  have hts : ∀ w ∈ lw_g, w.before args s = true := fun w h => hts0 w (List.mem_cons_of_mem _ h)
  show QJ p l e rm_Md_insideTop s m args below meth c (qA 38 b) b 3 0 0 Q (qWd D (enM dA b) 38 b) M 0 [(0, qr (some 0)), (1, qi a1)] []
  unfold f_Md_insideTop at hf
  refine qj_aload_n hx hb d_Md_insideTop_0 rfl 0 rfl ?_
  refine qj_iload_n hx hb d_Md_insideTop_1 rfl 1 rfl ?_
  have hf9 := q_bp_s hf; clear hf; obtain ⟨x1, hx1, hf⟩ := hf9
  refine qc_Vi (st := []) hx hb hml hown hts hK qT_ok hs (c_Md_seat a1 M _ hx1) ⟨(callB_of 1 hts (q_good tw_478) rfl rfl rfl (hts _ tw_459) (hts _ tw_479) (by decide +kernel) ⟨by decide, by decide⟩), (hts _ tw_480), (hts _ tw_481)⟩ (by decide) rfl rfl rfl rfl (Nat.le_of_ble_eq_true rfl) d_Md_insideTop_2 ?_
  refine qj_istore_n hx hb d_Md_insideTop_5 rfl (by decide) rfl ?_
  refine qj_aload_n hx hb d_Md_insideTop_6 rfl 1 rfl ?_
  refine qj_aload_n hx hb d_Md_insideTop_7 rfl 1 rfl ?_
  refine qj_iload_n hx hb d_Md_insideTop_8 rfl 0 rfl ?_
  have hf9 := q_bp_s hf; clear hf; obtain ⟨x2, hx2, hf⟩ := hf9
  refine qc_Vi (st := [qr (some 0)]) hx hb hml hown hts hK qT_ok hs (c_Md_behind x1 M _ hx2) ⟨(callB_of 1 hts (q_good tw_482) rfl rfl rfl (hts _ tw_459) (hts _ tw_483) (by decide +kernel) ⟨by decide, by decide⟩), (hts _ tw_484), (hts _ tw_485)⟩ (by decide) rfl rfl rfl rfl (Nat.le_of_ble_eq_true rfl) d_Md_insideTop_9 ?_
  have hf9 := q_lt_s hf; clear hf; obtain ⟨M3, eM3, hf⟩ := hf9
  refine qj_puti (ty := .int) hx hb hts hin_12 ty_12 tyok_12 nm_12 hown hK (by decide) rfl rfl 20 (by decide) (hts _ tw_486) (fun _ h => h) rfl (by decide +kernel) rfl rfl (Nat.le_of_ble_eq_true rfl) sm_20 eM3 d_Md_insideTop_12 ?_
  refine qj_aload_n hx hb d_Md_insideTop_15 rfl 1 rfl ?_
  refine qj_aload_n hx hb d_Md_insideTop_16 rfl 1 rfl ?_
  refine qj_get hx hb hts hin_12 hown hK (by decide) rfl rfl 10 (by decide) (hts _ tw_452) (fun _ h => h) (qr (some 6)) rfl d_Md_insideTop_17 ?_
  refine qj_iload_n hx hb d_Md_insideTop_20 rfl 2 rfl ?_
  have hf9 := q_ix_s hf; clear hf; obtain ⟨hi4, hf⟩ := hf9
  refine qj_iald (t0 := 0) hx hb hK (by decide) (fun _ _ => rfl) rfl hi4 d_Md_insideTop_21 ?_
  refine qj_iconst (v := 1) hx hb d_Md_insideTop_22 (by decide) ?_
  refine qj_iadd hx hb d_Md_insideTop_23 ?_
  have hf9 := q_lt_s hf; clear hf; obtain ⟨M5, eM5, hf⟩ := hf9
  refine qj_puti (ty := .int) hx hb hts hin_12 ty_12 tyok_12 nm_12 hown hK (by decide) rfl rfl 21 (by decide) (hts _ tw_487) (fun _ h => h) rfl (by decide +kernel) rfl rfl (Nat.le_of_ble_eq_true rfl) sm_21 eM5 d_Md_insideTop_24 ?_
  exact hret _ _ _ d_Md_insideTop_27 (Option.some.inj hf)
theorem d_Md_create_0 : decode prog_14_method_23_code 0 = .ok (.aload_n 0, 1) := by decide +kernel
theorem d_Md_create_1 : decode prog_14_method_23_code 1 = .ok (.getfield 145, 3) := by decide +kernel
theorem d_Md_create_4 : decode prog_14_method_23_code 4 = .ok (.bipush 24, 2) := by decide +kernel
theorem d_Md_create_6 : decode prog_14_method_23_code 6 = .ok (.if_icmp .ne 10, 3) := by decide +kernel
theorem d_Md_create_9 : decode prog_14_method_23_code 9 = .ok (.aload_n 0, 1) := by decide +kernel
theorem d_Md_create_10 : decode prog_14_method_23_code 10 = .ok (.iconst 1, 1) := by decide +kernel
theorem d_Md_create_11 : decode prog_14_method_23_code 11 = .ok (.putfield 129, 3) := by decide +kernel
theorem d_Md_create_14 : decode prog_14_method_23_code 14 = .ok (.iconst 0, 1) := by decide +kernel
theorem d_Md_create_15 : decode prog_14_method_23_code 15 = .ok (.ireturn, 1) := by decide +kernel
theorem d_Md_create_16 : decode prog_14_method_23_code 16 = .ok (.aload_n 0, 1) := by decide +kernel
theorem d_Md_create_17 : decode prog_14_method_23_code 17 = .ok (.getfield 142, 3) := by decide +kernel
theorem d_Md_create_20 : decode prog_14_method_23_code 20 = .ok (.istore_n 3, 1) := by decide +kernel
theorem d_Md_create_21 : decode prog_14_method_23_code 21 = .ok (.iload_n 3, 1) := by decide +kernel
theorem d_Md_create_22 : decode prog_14_method_23_code 22 = .ok (.aload_n 0, 1) := by decide +kernel
theorem d_Md_create_23 : decode prog_14_method_23_code 23 = .ok (.getfield 208, 3) := by decide +kernel
theorem d_Md_create_26 : decode prog_14_method_23_code 26 = .ok (.if_icmp .le 23, 3) := by decide +kernel
theorem d_Md_create_29 : decode prog_14_method_23_code 29 = .ok (.aload_n 0, 1) := by decide +kernel
theorem d_Md_create_30 : decode prog_14_method_23_code 30 = .ok (.getfield 16, 3) := by decide +kernel
theorem d_Md_create_33 : decode prog_14_method_23_code 33 = .ok (.iload_n 3, 1) := by decide +kernel
theorem d_Md_create_34 : decode prog_14_method_23_code 34 = .ok (.aload_n 0, 1) := by decide +kernel
theorem d_Md_create_35 : decode prog_14_method_23_code 35 = .ok (.getfield 16, 3) := by decide +kernel
theorem d_Md_create_38 : decode prog_14_method_23_code 38 = .ok (.iload_n 3, 1) := by decide +kernel
theorem d_Md_create_39 : decode prog_14_method_23_code 39 = .ok (.iconst 1, 1) := by decide +kernel
theorem d_Md_create_40 : decode prog_14_method_23_code 40 = .ok (.isub, 1) := by decide +kernel
theorem d_Md_create_41 : decode prog_14_method_23_code 41 = .ok (.iaload, 1) := by decide +kernel
theorem d_Md_create_42 : decode prog_14_method_23_code 42 = .ok (.iastore, 1) := by decide +kernel
theorem d_Md_create_43 : decode prog_14_method_23_code 43 = .ok (.iinc 3 (-1), 3) := by decide +kernel
theorem d_Md_create_46 : decode prog_14_method_23_code 46 = .ok (.goto (-25), 3) := by decide +kernel
theorem d_Md_create_49 : decode prog_14_method_23_code 49 = .ok (.aload_n 0, 1) := by decide +kernel
theorem d_Md_create_50 : decode prog_14_method_23_code 50 = .ok (.getfield 16, 3) := by decide +kernel
theorem d_Md_create_53 : decode prog_14_method_23_code 53 = .ok (.aload_n 0, 1) := by decide +kernel
theorem d_Md_create_54 : decode prog_14_method_23_code 54 = .ok (.getfield 208, 3) := by decide +kernel
theorem d_Md_create_57 : decode prog_14_method_23_code 57 = .ok (.aload_n 0, 1) := by decide +kernel
theorem d_Md_create_58 : decode prog_14_method_23_code 58 = .ok (.getfield 145, 3) := by decide +kernel
theorem d_Md_create_61 : decode prog_14_method_23_code 61 = .ok (.iastore, 1) := by decide +kernel
theorem d_Md_create_62 : decode prog_14_method_23_code 62 = .ok (.aload_n 0, 1) := by decide +kernel
theorem d_Md_create_63 : decode prog_14_method_23_code 63 = .ok (.dup, 1) := by decide +kernel
theorem d_Md_create_64 : decode prog_14_method_23_code 64 = .ok (.getfield 142, 3) := by decide +kernel
theorem d_Md_create_67 : decode prog_14_method_23_code 67 = .ok (.iconst 1, 1) := by decide +kernel
theorem d_Md_create_68 : decode prog_14_method_23_code 68 = .ok (.iadd, 1) := by decide +kernel
theorem d_Md_create_69 : decode prog_14_method_23_code 69 = .ok (.putfield 142, 3) := by decide +kernel
theorem d_Md_create_72 : decode prog_14_method_23_code 72 = .ok (.aload_n 0, 1) := by decide +kernel
theorem d_Md_create_73 : decode prog_14_method_23_code 73 = .ok (.getfield 19, 3) := by decide +kernel
theorem d_Md_create_76 : decode prog_14_method_23_code 76 = .ok (.aload_n 0, 1) := by decide +kernel
theorem d_Md_create_77 : decode prog_14_method_23_code 77 = .ok (.getfield 145, 3) := by decide +kernel
theorem d_Md_create_80 : decode prog_14_method_23_code 80 = .ok (.iload_n 1, 1) := by decide +kernel
theorem d_Md_create_81 : decode prog_14_method_23_code 81 = .ok (.iastore, 1) := by decide +kernel
theorem d_Md_create_82 : decode prog_14_method_23_code 82 = .ok (.aload_n 0, 1) := by decide +kernel
theorem d_Md_create_83 : decode prog_14_method_23_code 83 = .ok (.getfield 22, 3) := by decide +kernel
theorem d_Md_create_86 : decode prog_14_method_23_code 86 = .ok (.aload_n 0, 1) := by decide +kernel
theorem d_Md_create_87 : decode prog_14_method_23_code 87 = .ok (.getfield 145, 3) := by decide +kernel
theorem d_Md_create_90 : decode prog_14_method_23_code 90 = .ok (.iload_n 2, 1) := by decide +kernel
theorem d_Md_create_91 : decode prog_14_method_23_code 91 = .ok (.iastore, 1) := by decide +kernel
theorem d_Md_create_92 : decode prog_14_method_23_code 92 = .ok (.aload_n 0, 1) := by decide +kernel
theorem d_Md_create_93 : decode prog_14_method_23_code 93 = .ok (.getfield 25, 3) := by decide +kernel
theorem d_Md_create_96 : decode prog_14_method_23_code 96 = .ok (.aload_n 0, 1) := by decide +kernel
theorem d_Md_create_97 : decode prog_14_method_23_code 97 = .ok (.getfield 145, 3) := by decide +kernel
theorem d_Md_create_100 : decode prog_14_method_23_code 100 = .ok (.aload_n 0, 1) := by decide +kernel
theorem d_Md_create_101 : decode prog_14_method_23_code 101 = .ok (.getfield 211, 3) := by decide +kernel
theorem d_Md_create_104 : decode prog_14_method_23_code 104 = .ok (.iastore, 1) := by decide +kernel
theorem d_Md_create_105 : decode prog_14_method_23_code 105 = .ok (.aload_n 0, 1) := by decide +kernel
theorem d_Md_create_106 : decode prog_14_method_23_code 106 = .ok (.dup, 1) := by decide +kernel
theorem d_Md_create_107 : decode prog_14_method_23_code 107 = .ok (.getfield 145, 3) := by decide +kernel
theorem d_Md_create_110 : decode prog_14_method_23_code 110 = .ok (.iconst 1, 1) := by decide +kernel
theorem d_Md_create_111 : decode prog_14_method_23_code 111 = .ok (.iadd, 1) := by decide +kernel
theorem d_Md_create_112 : decode prog_14_method_23_code 112 = .ok (.putfield 145, 3) := by decide +kernel
theorem d_Md_create_115 : decode prog_14_method_23_code 115 = .ok (.aload_n 0, 1) := by decide +kernel
theorem d_Md_create_116 : decode prog_14_method_23_code 116 = .ok (.getfield 145, 3) := by decide +kernel
theorem d_Md_create_119 : decode prog_14_method_23_code 119 = .ok (.iconst 1, 1) := by decide +kernel
theorem d_Md_create_120 : decode prog_14_method_23_code 120 = .ok (.isub, 1) := by decide +kernel
theorem d_Md_create_121 : decode prog_14_method_23_code 121 = .ok (.ireturn, 1) := by decide +kernel
def f_Md_create_21  : Nat → (qM → Option (Int32 × qM)) → Int32 → qM → Option (Int32 × qM)
  | 0, _, _, _ => none
  | n + 1, K4, x2, M3 => if x2 ≤ (M3.1 0 20) then (K4 M3) else (q_ix (x2 - 1) 40 <| q_ix x2 40 <| q_lt (qsI M3 3 x2.toNatClampNeg (M3.1 3 (x2 - 1).toNatClampNeg)) fun M8 => f_Md_create_21 n K4 (x2 + (-1)) M8)
def f_Md_create (a1 : Int32) (a2 : Int32) (M : qM) : Option (Int32 × qM) := if (M.1 0 7) = 24 then (q_lt (qsI M 0 4 1) fun M20 => some (0, M20)) else (f_Md_create_21 1000 (fun (M9 : qM) => q_ix (M9.1 0 20) 40 <| q_lt (qsI M9 3 (M9.1 0 20).toNatClampNeg (M9.1 0 7)) fun M11 => q_lt (qsI M11 0 5 ((M11.1 0 5) + 1)) fun M12 => q_ix (M12.1 0 7) 40 <| q_lt (qsI M12 4 (M12.1 0 7).toNatClampNeg a1) fun M14 => q_ix (M14.1 0 7) 40 <| q_lt (qsI M14 5 (M14.1 0 7).toNatClampNeg a2) fun M16 => q_ix (M16.1 0 7) 40 <| q_lt (qsI M16 6 (M16.1 0 7).toNatClampNeg (M16.1 0 21)) fun M18 => q_lt (qsI M18 0 7 ((M18.1 0 7) + 1)) fun M19 => some ((M19.1 0 7) - 1, M19)) (M.1 0 5) M)
abbrev rm_Md_create : Room := { frames := 0, cells := 0, slots := 0, locals := 0 }
set_option maxRecDepth 100000 in
set_option maxHeartbeats 4000000 in
theorem c_Md_create {l : Launch} {D : va_G} {dA : Nat → ClassId} {b : Nat} (a1 : Int32) (a2 : Int32)  (M : qM) (out : Int32 × qM) (hf : f_Md_create a1 a2 M = some out) : CTi l y_Md_create w_Md_create rm_Md_create D (tysX dA) (enM dA b) 38 b (fun _ => True) [qr (some 0), qi a1, qi a2] M out := by
  refine qm_i (cc := prog_14_method_23_code) (nL := 4) (by decide) rfl (Nat.le_of_ble_eq_true rfl) ?_
  intro p e s m args below meth c Q hx hb hts0 hown hml hK hs hret
  have hts : ∀ w ∈ lw_g, w.before args s = true := fun w h => hts0 w (List.mem_cons_of_mem _ h)
  show QJ p l e rm_Md_create s m args below meth c (qA 38 b) b 4 0 0 Q (qWd D (enM dA b) 38 b) M 0 [(0, qr (some 0)), (1, qi a1), (2, qi a2)] []
  unfold f_Md_create at hf
  refine qj_aload_n hx hb d_Md_create_0 rfl 0 rfl ?_
  refine qj_get hx hb hts hin_12 hown hK (by decide) rfl rfl 7 (by decide) (hts _ tw_449) (fun _ h => h) (qi (M.1 0 7)) rfl d_Md_create_1 ?_
  refine qj_bipush (v := 24) hx hb d_Md_create_4 (by decide) ?_
  refine qj_icmp_ne (tgt := 16) hx hb d_Md_create_6 (by decide) (fun hc1 => ?_) (fun hc1 => ?_)
  · replace hf := q_if_f hc1 hf
    refine qj_aload_n hx hb d_Md_create_16 rfl 0 rfl ?_
    refine qj_get hx hb hts hin_12 hown hK (by decide) rfl rfl 5 (by decide) (hts _ tw_447) (fun _ h => h) (qi (M.1 0 5)) rfl d_Md_create_17 ?_
    refine qj_istore_n hx hb d_Md_create_20 rfl (by decide) rfl ?_
    have hL21 : ∀ (n : Nat) (K4 : qM → Option (Int32 × qM)), (∀ (M9 : qM), K4 M9 = some out → QJ p l e rm_Md_create s m args below meth c (qA 38 b) b 4 0 0 Q (qWd D (enM dA b) 38 b) M9 49 [(0, qr (some 0)), (1, qi a1), (2, qi a2)] []) → ∀ (x2 : Int32) (M3 : qM), f_Md_create_21 n K4 x2 M3 = some out → QJ p l e rm_Md_create s m args below meth c (qA 38 b) b 4 0 0 Q (qWd D (enM dA b) 38 b) M3 21 [(0, qr (some 0)), (1, qi a1), (2, qi a2), (3, qi x2)] [] := by
      clear hf
      intro n
      induction n with
      | zero =>
        intro K4 hK4 x2 M3 hf
        exact absurd hf (by simp [f_Md_create_21])
      | succ n ih21 =>
        intro K4 hK4 x2 M3 hf
        rw [f_Md_create_21] at hf
        have ih21 := ih21 K4 hK4
        refine qj_iload_n hx hb d_Md_create_21 rfl 3 rfl ?_
        refine qj_aload_n hx hb d_Md_create_22 rfl 0 rfl ?_
        refine qj_get hx hb hts hin_12 hown hK (by decide) rfl rfl 20 (by decide) (hts _ tw_486) (fun _ h => h) (qi (M3.1 0 20)) rfl d_Md_create_23 ?_
        refine qj_icmp_le (tgt := 49) hx hb d_Md_create_26 (by decide) (fun hc5 => ?_) (fun hc5 => ?_)
        · replace hf := q_if_t hc5 hf
          refine qj_sub [0, 1, 2] rfl ?_
          exact hK4 M3 hf
        · replace hf := q_if_f hc5 hf
          refine qj_aload_n hx hb d_Md_create_29 rfl 0 rfl ?_
          refine qj_get hx hb hts hin_12 hown hK (by decide) rfl rfl 6 (by decide) (hts _ tw_448) (fun _ h => h) (qr (some 3)) rfl d_Md_create_30 ?_
          refine qj_iload_n hx hb d_Md_create_33 rfl 3 rfl ?_
          refine qj_aload_n hx hb d_Md_create_34 rfl 0 rfl ?_
          refine qj_get hx hb hts hin_12 hown hK (by decide) rfl rfl 6 (by decide) (hts _ tw_448) (fun _ h => h) (qr (some 3)) rfl d_Md_create_35 ?_
          refine qj_iload_n hx hb d_Md_create_38 rfl 3 rfl ?_
          refine qj_iconst (v := 1) hx hb d_Md_create_39 (by decide) ?_
          refine qj_isub hx hb d_Md_create_40 ?_
          have hf9 := q_ix_s hf; clear hf; obtain ⟨hi6, hf⟩ := hf9
          refine qj_iald (t0 := 0) hx hb hK (by decide) (fun _ _ => rfl) rfl hi6 d_Md_create_41 ?_
          have hf9 := q_ix_s hf; clear hf; obtain ⟨hi7, hf⟩ := hf9
          have hf9 := q_lt_s hf; clear hf; obtain ⟨M8, eM8, hf⟩ := hf9
          refine qj_iast (t0 := 0) hx hb hK (by decide) (fun _ _ => rfl) rfl hi7 eM8 d_Md_create_42 ?_
          refine qj_iinc (j := 3) (v := x2 + (-1)) hx hb d_Md_create_43 rfl rfl (by decide) rfl ?_
          refine qj_goto (tgt := 21) hx hb d_Md_create_46 (by decide) ?_
          refine qj_sub [1, 2, 3, 0] rfl ?_
          exact ih21 (x2 + (-1)) M8 hf
    refine qj_sub [1, 2, 3, 0] rfl ?_
    refine hL21 _ _ (fun M9 hf9 => ?_) (M.1 0 5) M hf
    clear hf; have hf := hf9; clear hf9
    refine qj_aload_n hx hb d_Md_create_49 rfl 0 rfl ?_
    refine qj_get hx hb hts hin_12 hown hK (by decide) rfl rfl 6 (by decide) (hts _ tw_448) (fun _ h => h) (qr (some 3)) rfl d_Md_create_50 ?_
    refine qj_aload_n hx hb d_Md_create_53 rfl 0 rfl ?_
    refine qj_get hx hb hts hin_12 hown hK (by decide) rfl rfl 20 (by decide) (hts _ tw_486) (fun _ h => h) (qi (M9.1 0 20)) rfl d_Md_create_54 ?_
    refine qj_aload_n hx hb d_Md_create_57 rfl 0 rfl ?_
    refine qj_get hx hb hts hin_12 hown hK (by decide) rfl rfl 7 (by decide) (hts _ tw_449) (fun _ h => h) (qi (M9.1 0 7)) rfl d_Md_create_58 ?_
    have hf9 := q_ix_s hf; clear hf; obtain ⟨hi10, hf⟩ := hf9
    have hf9 := q_lt_s hf; clear hf; obtain ⟨M11, eM11, hf⟩ := hf9
    refine qj_iast (t0 := 0) hx hb hK (by decide) (fun _ _ => rfl) rfl hi10 eM11 d_Md_create_61 ?_
    refine qj_aload_n hx hb d_Md_create_62 rfl 0 rfl ?_
    refine qj_dup hx hb d_Md_create_63 ?_
    refine qj_get hx hb hts hin_12 hown hK (by decide) rfl rfl 5 (by decide) (hts _ tw_447) (fun _ h => h) (qi (M11.1 0 5)) rfl d_Md_create_64 ?_
    refine qj_iconst (v := 1) hx hb d_Md_create_67 (by decide) ?_
    refine qj_iadd hx hb d_Md_create_68 ?_
    have hf9 := q_lt_s hf; clear hf; obtain ⟨M12, eM12, hf⟩ := hf9
    refine qj_puti (ty := .int) hx hb hts hin_12 ty_12 tyok_12 nm_12 hown hK (by decide) rfl rfl 5 (by decide) (hts _ tw_447) (fun _ h => h) rfl (by decide +kernel) rfl rfl (Nat.le_of_ble_eq_true rfl) sm_5 eM12 d_Md_create_69 ?_
    refine qj_aload_n hx hb d_Md_create_72 rfl 0 rfl ?_
    refine qj_get hx hb hts hin_12 hown hK (by decide) rfl rfl 8 (by decide) (hts _ tw_450) (fun _ h => h) (qr (some 4)) rfl d_Md_create_73 ?_
    refine qj_aload_n hx hb d_Md_create_76 rfl 0 rfl ?_
    refine qj_get hx hb hts hin_12 hown hK (by decide) rfl rfl 7 (by decide) (hts _ tw_449) (fun _ h => h) (qi (M12.1 0 7)) rfl d_Md_create_77 ?_
    refine qj_iload_n hx hb d_Md_create_80 rfl 1 rfl ?_
    have hf9 := q_ix_s hf; clear hf; obtain ⟨hi13, hf⟩ := hf9
    have hf9 := q_lt_s hf; clear hf; obtain ⟨M14, eM14, hf⟩ := hf9
    refine qj_iast (t0 := 0) hx hb hK (by decide) (fun _ _ => rfl) rfl hi13 eM14 d_Md_create_81 ?_
    refine qj_aload_n hx hb d_Md_create_82 rfl 0 rfl ?_
    refine qj_get hx hb hts hin_12 hown hK (by decide) rfl rfl 9 (by decide) (hts _ tw_451) (fun _ h => h) (qr (some 5)) rfl d_Md_create_83 ?_
    refine qj_aload_n hx hb d_Md_create_86 rfl 0 rfl ?_
    refine qj_get hx hb hts hin_12 hown hK (by decide) rfl rfl 7 (by decide) (hts _ tw_449) (fun _ h => h) (qi (M14.1 0 7)) rfl d_Md_create_87 ?_
    refine qj_iload_n hx hb d_Md_create_90 rfl 2 rfl ?_
    have hf9 := q_ix_s hf; clear hf; obtain ⟨hi15, hf⟩ := hf9
    have hf9 := q_lt_s hf; clear hf; obtain ⟨M16, eM16, hf⟩ := hf9
    refine qj_iast (t0 := 0) hx hb hK (by decide) (fun _ _ => rfl) rfl hi15 eM16 d_Md_create_91 ?_
    refine qj_aload_n hx hb d_Md_create_92 rfl 0 rfl ?_
    refine qj_get hx hb hts hin_12 hown hK (by decide) rfl rfl 10 (by decide) (hts _ tw_452) (fun _ h => h) (qr (some 6)) rfl d_Md_create_93 ?_
    refine qj_aload_n hx hb d_Md_create_96 rfl 0 rfl ?_
    refine qj_get hx hb hts hin_12 hown hK (by decide) rfl rfl 7 (by decide) (hts _ tw_449) (fun _ h => h) (qi (M16.1 0 7)) rfl d_Md_create_97 ?_
    refine qj_aload_n hx hb d_Md_create_100 rfl 0 rfl ?_
    refine qj_get hx hb hts hin_12 hown hK (by decide) rfl rfl 21 (by decide) (hts _ tw_487) (fun _ h => h) (qi (M16.1 0 21)) rfl d_Md_create_101 ?_
    have hf9 := q_ix_s hf; clear hf; obtain ⟨hi17, hf⟩ := hf9
    have hf9 := q_lt_s hf; clear hf; obtain ⟨M18, eM18, hf⟩ := hf9
    refine qj_iast (t0 := 0) hx hb hK (by decide) (fun _ _ => rfl) rfl hi17 eM18 d_Md_create_104 ?_
    refine qj_aload_n hx hb d_Md_create_105 rfl 0 rfl ?_
    refine qj_dup hx hb d_Md_create_106 ?_
    refine qj_get hx hb hts hin_12 hown hK (by decide) rfl rfl 7 (by decide) (hts _ tw_449) (fun _ h => h) (qi (M18.1 0 7)) rfl d_Md_create_107 ?_
    refine qj_iconst (v := 1) hx hb d_Md_create_110 (by decide) ?_
    refine qj_iadd hx hb d_Md_create_111 ?_
    have hf9 := q_lt_s hf; clear hf; obtain ⟨M19, eM19, hf⟩ := hf9
    refine qj_puti (ty := .int) hx hb hts hin_12 ty_12 tyok_12 nm_12 hown hK (by decide) rfl rfl 7 (by decide) (hts _ tw_449) (fun _ h => h) rfl (by decide +kernel) rfl rfl (Nat.le_of_ble_eq_true rfl) sm_7 eM19 d_Md_create_112 ?_
    refine qj_aload_n hx hb d_Md_create_115 rfl 0 rfl ?_
    refine qj_get hx hb hts hin_12 hown hK (by decide) rfl rfl 7 (by decide) (hts _ tw_449) (fun _ h => h) (qi (M19.1 0 7)) rfl d_Md_create_116 ?_
    refine qj_iconst (v := 1) hx hb d_Md_create_119 (by decide) ?_
    refine qj_isub hx hb d_Md_create_120 ?_
    exact hret _ _ _ _ d_Md_create_121 (Option.some.inj hf)
  · replace hf := q_if_t hc1 hf
    refine qj_aload_n hx hb d_Md_create_9 rfl 0 rfl ?_
    refine qj_iconst (v := 1) hx hb d_Md_create_10 (by decide) ?_
    have hf9 := q_lt_s hf; clear hf; obtain ⟨M20, eM20, hf⟩ := hf9
    refine qj_puti (ty := .boolean) hx hb hts hin_12 ty_12 tyok_12 nm_12 hown hK (by decide) rfl rfl 4 (by decide) (hts _ tw_446) (fun _ h => h) rfl (by decide +kernel) rfl rfl (Nat.le_of_ble_eq_true rfl) sm_4 eM20 d_Md_create_11 ?_
    refine qj_iconst (v := 0) hx hb d_Md_create_14 (by decide) ?_
    exact hret _ _ _ _ d_Md_create_15 (Option.some.inj hf)
theorem d_Md_push_0 : decode prog_14_method_24_code 0 = .ok (.aload_n 0, 1) := by decide +kernel
theorem d_Md_push_1 : decode prog_14_method_24_code 1 = .ok (.getfield 129, 3) := by decide +kernel
theorem d_Md_push_4 : decode prog_14_method_24_code 4 = .ok (.ifCond .eq 4, 3) := by decide +kernel
theorem d_Md_push_7 : decode prog_14_method_24_code 7 = .ok (.return_, 1) := by decide +kernel
theorem d_Md_push_8 : decode prog_14_method_24_code 8 = .ok (.aload_n 0, 1) := by decide +kernel
theorem d_Md_push_9 : decode prog_14_method_24_code 9 = .ok (.getfield 31, 3) := by decide +kernel
theorem d_Md_push_12 : decode prog_14_method_24_code 12 = .ok (.aload_n 0, 1) := by decide +kernel
theorem d_Md_push_13 : decode prog_14_method_24_code 13 = .ok (.getfield 148, 3) := by decide +kernel
theorem d_Md_push_16 : decode prog_14_method_24_code 16 = .ok (.iload_n 1, 1) := by decide +kernel
theorem d_Md_push_17 : decode prog_14_method_24_code 17 = .ok (.iastore, 1) := by decide +kernel
theorem d_Md_push_18 : decode prog_14_method_24_code 18 = .ok (.aload_n 0, 1) := by decide +kernel
theorem d_Md_push_19 : decode prog_14_method_24_code 19 = .ok (.dup, 1) := by decide +kernel
theorem d_Md_push_20 : decode prog_14_method_24_code 20 = .ok (.getfield 148, 3) := by decide +kernel
theorem d_Md_push_23 : decode prog_14_method_24_code 23 = .ok (.iconst 1, 1) := by decide +kernel
theorem d_Md_push_24 : decode prog_14_method_24_code 24 = .ok (.iadd, 1) := by decide +kernel
theorem d_Md_push_25 : decode prog_14_method_24_code 25 = .ok (.putfield 148, 3) := by decide +kernel
theorem d_Md_push_28 : decode prog_14_method_24_code 28 = .ok (.return_, 1) := by decide +kernel
def f_Md_push (a1 : Int32) (M : qM) : Option qM := if (M.1 0 4) = 0 then (q_ix (M.1 0 13) 40 <| q_lt (qsI M 8 (M.1 0 13).toNatClampNeg a1) fun M3 => q_lt (qsI M3 0 13 ((M3.1 0 13) + 1)) fun M4 => some M4) else (some M)
abbrev rm_Md_push : Room := { frames := 0, cells := 0, slots := 0, locals := 0 }
set_option maxRecDepth 100000 in
set_option maxHeartbeats 4000000 in
theorem c_Md_push {l : Launch} {D : va_G} {dA : Nat → ClassId} {b : Nat} (a1 : Int32)  (M : qM) (out : qM) (hf : f_Md_push a1 M = some out) : CTv l y_Md_push w_Md_push rm_Md_push D (tysX dA) (enM dA b) 38 b (fun _ => True) [qr (some 0), qi a1] M out := by
  refine qm_v (cc := prog_14_method_24_code) (nL := 2) (by decide) rfl (Nat.le_of_ble_eq_true rfl) ?_
  intro p e s m args below meth c Q hx hb hts0 hown hml hK hs hret
  have hts : ∀ w ∈ lw_g, w.before args s = true := fun w h => hts0 w (List.mem_cons_of_mem _ h)
  show QJ p l e rm_Md_push s m args below meth c (qA 38 b) b 2 0 0 Q (qWd D (enM dA b) 38 b) M 0 [(0, qr (some 0)), (1, qi a1)] []
  unfold f_Md_push at hf
  refine qj_aload_n hx hb d_Md_push_0 rfl 0 rfl ?_
  refine qj_get hx hb hts hin_12 hown hK (by decide) rfl rfl 4 (by decide) (hts _ tw_446) (fun _ h => h) (qi (M.1 0 4)) rfl d_Md_push_1 ?_
  refine qj_if_eq (tgt := 8) hx hb d_Md_push_4 (by decide) (fun hc1 => ?_) (fun hc1 => ?_)
  · replace hf := q_if_t hc1 hf
    refine qj_aload_n hx hb d_Md_push_8 rfl 0 rfl ?_
    refine qj_get hx hb hts hin_12 hown hK (by decide) rfl rfl 12 (by decide) (hts _ tw_453) (fun _ h => h) (qr (some 8)) rfl d_Md_push_9 ?_
    refine qj_aload_n hx hb d_Md_push_12 rfl 0 rfl ?_
    refine qj_get hx hb hts hin_12 hown hK (by decide) rfl rfl 13 (by decide) (hts _ tw_454) (fun _ h => h) (qi (M.1 0 13)) rfl d_Md_push_13 ?_
    refine qj_iload_n hx hb d_Md_push_16 rfl 1 rfl ?_
    have hf9 := q_ix_s hf; clear hf; obtain ⟨hi2, hf⟩ := hf9
    have hf9 := q_lt_s hf; clear hf; obtain ⟨M3, eM3, hf⟩ := hf9
    refine qj_iast (t0 := 0) hx hb hK (by decide) (fun _ _ => rfl) rfl hi2 eM3 d_Md_push_17 ?_
    refine qj_aload_n hx hb d_Md_push_18 rfl 0 rfl ?_
    refine qj_dup hx hb d_Md_push_19 ?_
    refine qj_get hx hb hts hin_12 hown hK (by decide) rfl rfl 13 (by decide) (hts _ tw_454) (fun _ h => h) (qi (M3.1 0 13)) rfl d_Md_push_20 ?_
    refine qj_iconst (v := 1) hx hb d_Md_push_23 (by decide) ?_
    refine qj_iadd hx hb d_Md_push_24 ?_
    have hf9 := q_lt_s hf; clear hf; obtain ⟨M4, eM4, hf⟩ := hf9
    refine qj_puti (ty := .int) hx hb hts hin_12 ty_12 tyok_12 nm_12 hown hK (by decide) rfl rfl 13 (by decide) (hts _ tw_454) (fun _ h => h) rfl (by decide +kernel) rfl rfl (Nat.le_of_ble_eq_true rfl) sm_13 eM4 d_Md_push_25 ?_
    exact hret _ _ _ d_Md_push_28 (Option.some.inj hf)
  · replace hf := q_if_f hc1 hf
    exact hret _ _ _ d_Md_push_7 (Option.some.inj hf)
theorem d_Md_listOwner_0 : decode prog_14_method_25_code 0 = .ok (.aload_n 0, 1) := by decide +kernel
theorem d_Md_listOwner_1 : decode prog_14_method_25_code 1 = .ok (.bipush 99, 2) := by decide +kernel
theorem d_Md_listOwner_3 : decode prog_14_method_25_code 3 = .ok (.invokevirtual 196, 3) := by decide +kernel
theorem d_Md_listOwner_6 : decode prog_14_method_25_code 6 = .ok (.istore_n 1, 1) := by decide +kernel
theorem d_Md_listOwner_7 : decode prog_14_method_25_code 7 = .ok (.iload_n 1, 1) := by decide +kernel
theorem d_Md_listOwner_8 : decode prog_14_method_25_code 8 = .ok (.ifCond .ge 7, 3) := by decide +kernel
theorem d_Md_listOwner_11 : decode prog_14_method_25_code 11 = .ok (.iconst 0, 1) := by decide +kernel
theorem d_Md_listOwner_12 : decode prog_14_method_25_code 12 = .ok (.goto 9, 3) := by decide +kernel
theorem d_Md_listOwner_15 : decode prog_14_method_25_code 15 = .ok (.aload_n 0, 1) := by decide +kernel
theorem d_Md_listOwner_16 : decode prog_14_method_25_code 16 = .ok (.getfield 31, 3) := by decide +kernel
theorem d_Md_listOwner_19 : decode prog_14_method_25_code 19 = .ok (.iload_n 1, 1) := by decide +kernel
theorem d_Md_listOwner_20 : decode prog_14_method_25_code 20 = .ok (.iaload, 1) := by decide +kernel
theorem d_Md_listOwner_21 : decode prog_14_method_25_code 21 = .ok (.ireturn, 1) := by decide +kernel
def f_Md_listOwner  (M : qM) : Option Int32 := q_bp (f_Md_topmost 99 M) fun x1 => if 0 ≤ x1 then (q_ix x1 40 <| some (M.1 8 x1.toNatClampNeg)) else (some 0)
abbrev rm_Md_listOwner : Room := { frames := 1, cells := 0, slots := 0, locals := 23 }
set_option maxRecDepth 100000 in
set_option maxHeartbeats 4000000 in
theorem c_Md_listOwner {l : Launch} {D : va_G} {dA : Nat → ClassId} {b : Nat}   (M : qM) (out : Int32) (hf : f_Md_listOwner M = some out) : CTi l y_Md_listOwner w_Md_listOwner rm_Md_listOwner D (tysX dA) (enM dA b) 38 b (fun _ => True) [qr (some 0)] M (out, M) := by
  refine qm_i (cc := prog_14_method_25_code) (nL := 2) (by decide) rfl (Nat.le_of_ble_eq_true rfl) ?_
  intro p e s m args below meth c Q hx hb hts0 hown hml hK hs hret
  have hts : ∀ w ∈ lw_g, w.before args s = true := fun w h => hts0 w (List.mem_cons_of_mem _ h)
  show QJ p l e rm_Md_listOwner s m args below meth c (qA 38 b) b 2 0 0 Q (qWd D (enM dA b) 38 b) M 0 [(0, qr (some 0))] []
  unfold f_Md_listOwner at hf
  refine qj_aload_n hx hb d_Md_listOwner_0 rfl 0 rfl ?_
  refine qj_bipush (v := 99) hx hb d_Md_listOwner_1 (by decide) ?_
  have hf9 := q_bp_s hf; clear hf; obtain ⟨x1, hx1, hf⟩ := hf9
  refine qc_Vi (st := []) hx hb hml hown hts hK qT_ok hs (c_Md_topmost 99 M _ hx1) ⟨(callB_of 1 hts (q_good tw_470) rfl rfl rfl (hts _ tw_459) (hts _ tw_471) (by decide +kernel) ⟨by decide, by decide⟩), (hts _ tw_472), (hts _ tw_473)⟩ (by decide) rfl rfl rfl rfl (Nat.le_of_ble_eq_true rfl) d_Md_listOwner_3 ?_
  refine qj_istore_n hx hb d_Md_listOwner_6 rfl (by decide) rfl ?_
  refine qj_iload_n hx hb d_Md_listOwner_7 rfl 0 rfl ?_
  refine qj_if_ge (tgt := 15) hx hb d_Md_listOwner_8 (by decide) (fun hc2 => ?_) (fun hc2 => ?_)
  · replace hf := q_if_t hc2 hf
    refine qj_aload_n hx hb d_Md_listOwner_15 rfl 1 rfl ?_
    refine qj_get hx hb hts hin_12 hown hK (by decide) rfl rfl 12 (by decide) (hts _ tw_453) (fun _ h => h) (qr (some 8)) rfl d_Md_listOwner_16 ?_
    refine qj_iload_n hx hb d_Md_listOwner_19 rfl 0 rfl ?_
    have hf9 := q_ix_s hf; clear hf; obtain ⟨hi3, hf⟩ := hf9
    refine qj_iald (t0 := 0) hx hb hK (by decide) (fun _ _ => rfl) rfl hi3 d_Md_listOwner_20 ?_
    exact hret _ _ _ _ d_Md_listOwner_21 (congrArg (fun z => (z, M)) (Option.some.inj hf))
  · replace hf := q_if_f hc2 hf
    refine qj_iconst (v := 0) hx hb d_Md_listOwner_11 (by decide) ?_
    refine qj_goto (tgt := 21) hx hb d_Md_listOwner_12 (by decide) ?_
    exact hret _ _ _ _ d_Md_listOwner_21 (congrArg (fun z => (z, M)) (Option.some.inj hf))
theorem d_Md_opened_0 : decode prog_14_method_20_code 0 = .ok (.iconst (-1), 1) := by decide +kernel
theorem d_Md_opened_1 : decode prog_14_method_20_code 1 = .ok (.istore_n 2, 1) := by decide +kernel
theorem d_Md_opened_2 : decode prog_14_method_20_code 2 = .ok (.iconst 0, 1) := by decide +kernel
theorem d_Md_opened_3 : decode prog_14_method_20_code 3 = .ok (.istore_n 3, 1) := by decide +kernel
theorem d_Md_opened_4 : decode prog_14_method_20_code 4 = .ok (.iload_n 3, 1) := by decide +kernel
theorem d_Md_opened_5 : decode prog_14_method_20_code 5 = .ok (.aload_n 0, 1) := by decide +kernel
theorem d_Md_opened_6 : decode prog_14_method_20_code 6 = .ok (.getfield 148, 3) := by decide +kernel
theorem d_Md_opened_9 : decode prog_14_method_20_code 9 = .ok (.if_icmp .ge 25, 3) := by decide +kernel
theorem d_Md_opened_12 : decode prog_14_method_20_code 12 = .ok (.aload_n 0, 1) := by decide +kernel
theorem d_Md_opened_13 : decode prog_14_method_20_code 13 = .ok (.getfield 31, 3) := by decide +kernel
theorem d_Md_opened_16 : decode prog_14_method_20_code 16 = .ok (.iload_n 3, 1) := by decide +kernel
theorem d_Md_opened_17 : decode prog_14_method_20_code 17 = .ok (.iaload, 1) := by decide +kernel
theorem d_Md_opened_18 : decode prog_14_method_20_code 18 = .ok (.iload_n 1, 1) := by decide +kernel
theorem d_Md_opened_19 : decode prog_14_method_20_code 19 = .ok (.if_icmp .ne 7, 3) := by decide +kernel
theorem d_Md_opened_22 : decode prog_14_method_20_code 22 = .ok (.iload_n 3, 1) := by decide +kernel
theorem d_Md_opened_23 : decode prog_14_method_20_code 23 = .ok (.goto 4, 3) := by decide +kernel
theorem d_Md_opened_26 : decode prog_14_method_20_code 26 = .ok (.iload_n 2, 1) := by decide +kernel
theorem d_Md_opened_27 : decode prog_14_method_20_code 27 = .ok (.istore_n 2, 1) := by decide +kernel
theorem d_Md_opened_28 : decode prog_14_method_20_code 28 = .ok (.iinc 3 1, 3) := by decide +kernel
theorem d_Md_opened_31 : decode prog_14_method_20_code 31 = .ok (.goto (-27), 3) := by decide +kernel
theorem d_Md_opened_34 : decode prog_14_method_20_code 34 = .ok (.iload_n 2, 1) := by decide +kernel
theorem d_Md_opened_35 : decode prog_14_method_20_code 35 = .ok (.ireturn, 1) := by decide +kernel
def f_Md_opened_4 (M : qM) (a1 : Int32) : Nat → (Int32 → Option Int32) → Int32 → Int32 → Option Int32
  | 0, _, _, _ => none
  | n + 1, K3, x1, x2 => if (M.1 0 13) ≤ x2 then (K3 x1) else (q_ix x2 40 <| if (M.1 8 x2.toNatClampNeg) = a1 then (f_Md_opened_4 M a1 n K3 x2 (x2 + 1)) else (f_Md_opened_4 M a1 n K3 x1 (x2 + 1)))
def f_Md_opened (a1 : Int32) (M : qM) : Option Int32 := f_Md_opened_4 M a1 1000 (fun (x7 : Int32) => some x7) (-1) 0
abbrev rm_Md_opened : Room := { frames := 0, cells := 0, slots := 0, locals := 0 }
set_option maxRecDepth 100000 in
set_option maxHeartbeats 4000000 in
theorem c_Md_opened {l : Launch} {D : va_G} {dA : Nat → ClassId} {b : Nat} (a1 : Int32)  (M : qM) (out : Int32) (hf : f_Md_opened a1 M = some out) : CTi l y_Md_opened w_Md_opened rm_Md_opened D (tysX dA) (enM dA b) 38 b (fun _ => True) [qr (some 0), qi a1] M (out, M) := by
  refine qm_i (cc := prog_14_method_20_code) (nL := 4) (by decide) rfl (Nat.le_of_ble_eq_true rfl) ?_
  intro p e s m args below meth c Q hx hb hts0 hown hml hK hs hret
  have hts : ∀ w ∈ lw_g, w.before args s = true := fun w h => hts0 w (List.mem_cons_of_mem _ h)
  show QJ p l e rm_Md_opened s m args below meth c (qA 38 b) b 4 0 0 Q (qWd D (enM dA b) 38 b) M 0 [(0, qr (some 0)), (1, qi a1)] []
  unfold f_Md_opened at hf
  refine qj_iconst (v := (-1)) hx hb d_Md_opened_0 (by decide) ?_
  refine qj_istore_n hx hb d_Md_opened_1 rfl (by decide) rfl ?_
  refine qj_iconst (v := 0) hx hb d_Md_opened_2 (by decide) ?_
  refine qj_istore_n hx hb d_Md_opened_3 rfl (by decide) rfl ?_
  have hL4 : ∀ (n : Nat) (K3 : Int32 → Option Int32), (∀ (x7 : Int32), K3 x7 = some out → QJ p l e rm_Md_opened s m args below meth c (qA 38 b) b 4 0 0 Q (qWd D (enM dA b) 38 b) M 34 [(2, qi x7)] []) → ∀ (x1 : Int32) (x2 : Int32), f_Md_opened_4 M a1 n K3 x1 x2 = some out → QJ p l e rm_Md_opened s m args below meth c (qA 38 b) b 4 0 0 Q (qWd D (enM dA b) 38 b) M 4 [(0, qr (some 0)), (1, qi a1), (2, qi x1), (3, qi x2)] [] := by
    clear hf
    intro n
    induction n with
    | zero =>
      intro K3 hK3 x1 x2 hf
      exact absurd hf (by simp [f_Md_opened_4])
    | succ n ih4 =>
      intro K3 hK3 x1 x2 hf
      rw [f_Md_opened_4] at hf
      have ih4 := ih4 K3 hK3
      refine qj_iload_n hx hb d_Md_opened_4 rfl 3 rfl ?_
      refine qj_aload_n hx hb d_Md_opened_5 rfl 0 rfl ?_
      refine qj_get hx hb hts hin_12 hown hK (by decide) rfl rfl 13 (by decide) (hts _ tw_454) (fun _ h => h) (qi (M.1 0 13)) rfl d_Md_opened_6 ?_
      refine qj_icmp_ge (tgt := 34) hx hb d_Md_opened_9 (by decide) (fun hc4 => ?_) (fun hc4 => ?_)
      · replace hf := q_if_t hc4 hf
        refine qj_sub [2] rfl ?_
        exact hK3 x1 hf
      · replace hf := q_if_f hc4 hf
        refine qj_aload_n hx hb d_Md_opened_12 rfl 0 rfl ?_
        refine qj_get hx hb hts hin_12 hown hK (by decide) rfl rfl 12 (by decide) (hts _ tw_453) (fun _ h => h) (qr (some 8)) rfl d_Md_opened_13 ?_
        refine qj_iload_n hx hb d_Md_opened_16 rfl 3 rfl ?_
        have hf9 := q_ix_s hf; clear hf; obtain ⟨hi5, hf⟩ := hf9
        refine qj_iald (t0 := 0) hx hb hK (by decide) (fun _ _ => rfl) rfl hi5 d_Md_opened_17 ?_
        refine qj_iload_n hx hb d_Md_opened_18 rfl 1 rfl ?_
        refine qj_icmp_ne (tgt := 26) hx hb d_Md_opened_19 (by decide) (fun hc6 => ?_) (fun hc6 => ?_)
        · replace hf := q_if_f hc6 hf
          refine qj_iload_n hx hb d_Md_opened_26 rfl 2 rfl ?_
          refine qj_istore_n hx hb d_Md_opened_27 rfl (by decide) rfl ?_
          refine qj_iinc (j := 3) (v := x2 + 1) hx hb d_Md_opened_28 rfl rfl (by decide) rfl ?_
          refine qj_goto (tgt := 4) hx hb d_Md_opened_31 (by decide) ?_
          refine qj_sub [2, 3, 1, 0] rfl ?_
          exact ih4 x1 (x2 + 1) hf
        · replace hf := q_if_t hc6 hf
          refine qj_iload_n hx hb d_Md_opened_22 rfl 3 rfl ?_
          refine qj_goto (tgt := 27) hx hb d_Md_opened_23 (by decide) ?_
          refine qj_istore_n hx hb d_Md_opened_27 rfl (by decide) rfl ?_
          refine qj_iinc (j := 3) (v := x2 + 1) hx hb d_Md_opened_28 rfl rfl (by decide) rfl ?_
          refine qj_goto (tgt := 4) hx hb d_Md_opened_31 (by decide) ?_
          refine qj_sub [2, 3, 1, 0] rfl ?_
          exact ih4 x2 (x2 + 1) hf
  refine qj_sub [2, 3, 1, 0] rfl ?_
  refine hL4 _ _ (fun x7 hf9 => ?_) (-1) 0 hf
  clear hf; have hf := hf9; clear hf9
  refine qj_iload_n hx hb d_Md_opened_34 rfl 0 rfl ?_
  exact hret _ _ _ _ d_Md_opened_35 (congrArg (fun z => (z, M)) (Option.some.inj hf))
theorem d_Md_findPlace_0 : decode prog_14_method_22_code 0 = .ok (.aload_n 0, 1) := by decide +kernel
theorem d_Md_findPlace_1 : decode prog_14_method_22_code 1 = .ok (.getfield 31, 3) := by decide +kernel
theorem d_Md_findPlace_4 : decode prog_14_method_22_code 4 = .ok (.iload_n 1, 1) := by decide +kernel
theorem d_Md_findPlace_5 : decode prog_14_method_22_code 5 = .ok (.iconst 1, 1) := by decide +kernel
theorem d_Md_findPlace_6 : decode prog_14_method_22_code 6 = .ok (.isub, 1) := by decide +kernel
theorem d_Md_findPlace_7 : decode prog_14_method_22_code 7 = .ok (.iaload, 1) := by decide +kernel
theorem d_Md_findPlace_8 : decode prog_14_method_22_code 8 = .ok (.istore_n 2, 1) := by decide +kernel
theorem d_Md_findPlace_9 : decode prog_14_method_22_code 9 = .ok (.iconst (-1), 1) := by decide +kernel
theorem d_Md_findPlace_10 : decode prog_14_method_22_code 10 = .ok (.istore_n 3, 1) := by decide +kernel
theorem d_Md_findPlace_11 : decode prog_14_method_22_code 11 = .ok (.iconst 1, 1) := by decide +kernel
theorem d_Md_findPlace_12 : decode prog_14_method_22_code 12 = .ok (.istore 4, 2) := by decide +kernel
theorem d_Md_findPlace_14 : decode prog_14_method_22_code 14 = .ok (.iload 4, 2) := by decide +kernel
theorem d_Md_findPlace_16 : decode prog_14_method_22_code 16 = .ok (.iload_n 1, 1) := by decide +kernel
theorem d_Md_findPlace_17 : decode prog_14_method_22_code 17 = .ok (.if_icmp .ge 37, 3) := by decide +kernel
theorem d_Md_findPlace_20 : decode prog_14_method_22_code 20 = .ok (.aload_n 0, 1) := by decide +kernel
theorem d_Md_findPlace_21 : decode prog_14_method_22_code 21 = .ok (.aload_n 0, 1) := by decide +kernel
theorem d_Md_findPlace_22 : decode prog_14_method_22_code 22 = .ok (.getfield 31, 3) := by decide +kernel
theorem d_Md_findPlace_25 : decode prog_14_method_22_code 25 = .ok (.iload 4, 2) := by decide +kernel
theorem d_Md_findPlace_27 : decode prog_14_method_22_code 27 = .ok (.iaload, 1) := by decide +kernel
theorem d_Md_findPlace_28 : decode prog_14_method_22_code 28 = .ok (.ldc 214, 2) := by decide +kernel
theorem d_Md_findPlace_30 : decode prog_14_method_22_code 30 = .ok (.invokevirtual 192, 3) := by decide +kernel
theorem d_Md_findPlace_33 : decode prog_14_method_22_code 33 = .ok (.ifCond .eq 13, 3) := by decide +kernel
theorem d_Md_findPlace_36 : decode prog_14_method_22_code 36 = .ok (.aload_n 0, 1) := by decide +kernel
theorem d_Md_findPlace_37 : decode prog_14_method_22_code 37 = .ok (.getfield 31, 3) := by decide +kernel
theorem d_Md_findPlace_40 : decode prog_14_method_22_code 40 = .ok (.iload 4, 2) := by decide +kernel
theorem d_Md_findPlace_42 : decode prog_14_method_22_code 42 = .ok (.iaload, 1) := by decide +kernel
theorem d_Md_findPlace_43 : decode prog_14_method_22_code 43 = .ok (.goto 4, 3) := by decide +kernel
theorem d_Md_findPlace_46 : decode prog_14_method_22_code 46 = .ok (.iload_n 3, 1) := by decide +kernel
theorem d_Md_findPlace_47 : decode prog_14_method_22_code 47 = .ok (.istore_n 3, 1) := by decide +kernel
theorem d_Md_findPlace_48 : decode prog_14_method_22_code 48 = .ok (.iinc 4 1, 3) := by decide +kernel
theorem d_Md_findPlace_51 : decode prog_14_method_22_code 51 = .ok (.goto (-37), 3) := by decide +kernel
theorem d_Md_findPlace_54 : decode prog_14_method_22_code 54 = .ok (.aload_n 0, 1) := by decide +kernel
theorem d_Md_findPlace_55 : decode prog_14_method_22_code 55 = .ok (.iload_n 2, 1) := by decide +kernel
theorem d_Md_findPlace_56 : decode prog_14_method_22_code 56 = .ok (.ldc 215, 2) := by decide +kernel
theorem d_Md_findPlace_58 : decode prog_14_method_22_code 58 = .ok (.invokevirtual 192, 3) := by decide +kernel
theorem d_Md_findPlace_61 : decode prog_14_method_22_code 61 = .ok (.ifCond .eq 29, 3) := by decide +kernel
theorem d_Md_findPlace_64 : decode prog_14_method_22_code 64 = .ok (.iload_n 3, 1) := by decide +kernel
theorem d_Md_findPlace_65 : decode prog_14_method_22_code 65 = .ok (.ifCond .lt 25, 3) := by decide +kernel
theorem d_Md_findPlace_68 : decode prog_14_method_22_code 68 = .ok (.aload_n 0, 1) := by decide +kernel
theorem d_Md_findPlace_69 : decode prog_14_method_22_code 69 = .ok (.aload_n 0, 1) := by decide +kernel
theorem d_Md_findPlace_70 : decode prog_14_method_22_code 70 = .ok (.iload_n 3, 1) := by decide +kernel
theorem d_Md_findPlace_71 : decode prog_14_method_22_code 71 = .ok (.invokevirtual 202, 3) := by decide +kernel
theorem d_Md_findPlace_74 : decode prog_14_method_22_code 74 = .ok (.putfield 208, 3) := by decide +kernel
theorem d_Md_findPlace_77 : decode prog_14_method_22_code 77 = .ok (.aload_n 0, 1) := by decide +kernel
theorem d_Md_findPlace_78 : decode prog_14_method_22_code 78 = .ok (.aload_n 0, 1) := by decide +kernel
theorem d_Md_findPlace_79 : decode prog_14_method_22_code 79 = .ok (.getfield 25, 3) := by decide +kernel
theorem d_Md_findPlace_82 : decode prog_14_method_22_code 82 = .ok (.iload_n 3, 1) := by decide +kernel
theorem d_Md_findPlace_83 : decode prog_14_method_22_code 83 = .ok (.iaload, 1) := by decide +kernel
theorem d_Md_findPlace_84 : decode prog_14_method_22_code 84 = .ok (.putfield 211, 3) := by decide +kernel
theorem d_Md_findPlace_87 : decode prog_14_method_22_code 87 = .ok (.goto 8, 3) := by decide +kernel
theorem d_Md_findPlace_90 : decode prog_14_method_22_code 90 = .ok (.aload_n 0, 1) := by decide +kernel
theorem d_Md_findPlace_91 : decode prog_14_method_22_code 91 = .ok (.iload_n 2, 1) := by decide +kernel
theorem d_Md_findPlace_92 : decode prog_14_method_22_code 92 = .ok (.invokevirtual 216, 3) := by decide +kernel
theorem d_Md_findPlace_95 : decode prog_14_method_22_code 95 = .ok (.return_, 1) := by decide +kernel
def f_Md_findPlace_14 (a1 : Int32) (M : qM) : Nat → (Int32 → Option qM) → Int32 → Int32 → Option qM
  | 0, _, _, _ => none
  | n + 1, K5, x3, x4 => if a1 ≤ x4 then (K5 x3) else (q_ix x4 40 <| q_bp (f_Md_named (M.1 8 x4.toNatClampNeg) 524288 M) fun x8 => if x8 = 0 then (f_Md_findPlace_14 a1 M n K5 x3 (x4 + 1)) else (q_ix x4 40 <| f_Md_findPlace_14 a1 M n K5 (M.1 8 x4.toNatClampNeg) (x4 + 1)))
def f_Md_findPlace (a1 : Int32) (M : qM) : Option qM := q_ix (a1 - 1) 40 <| q_lt (M.1 8 (a1 - 1).toNatClampNeg) fun x2 => f_Md_findPlace_14 a1 M 1000 (fun (x11 : Int32) => q_bp (f_Md_named x2 655360 M) fun x12 => q_lt (q_cv (f_Md_insideTop x2 M) fun M13 => some M13) fun (j14 : Option qM) => if x12 = 0 then (j14) else (if x11 < 0 then (j14) else (q_bp (f_Md_seat x11 M) fun x17 => q_lt (qsI M 0 20 x17) fun M18 => q_ix x11 40 <| q_lt (qsI M18 0 21 (M18.1 6 x11.toNatClampNeg)) fun M20 => some M20))) (-1) 1
abbrev rm_Md_findPlace : Room := { frames := 3, cells := 0, slots := 0, locals := 62 }
set_option maxRecDepth 100000 in
set_option maxHeartbeats 4000000 in
theorem c_Md_findPlace {l : Launch} {D : va_G} {dA : Nat → ClassId} {b : Nat} (a1 : Int32)  (M : qM) (out : qM) (hf : f_Md_findPlace a1 M = some out) : CTv l y_Md_findPlace w_Md_findPlace rm_Md_findPlace D (tysX dA) (enM dA b) 38 b (fun _ => True) [qr (some 0), qi a1] M out := by
  refine qm_v (cc := prog_14_method_22_code) (nL := 5) (by decide) rfl (Nat.le_of_ble_eq_true rfl) ?_
  intro p e s m args below meth c Q hx hb hts0 hown hml hK hs hret
  have hts : ∀ w ∈ lw_g, w.before args s = true := fun w h => hts0 w (List.mem_cons_of_mem _ h)
  show QJ p l e rm_Md_findPlace s m args below meth c (qA 38 b) b 5 0 0 Q (qWd D (enM dA b) 38 b) M 0 [(0, qr (some 0)), (1, qi a1)] []
  unfold f_Md_findPlace at hf
  refine qj_aload_n hx hb d_Md_findPlace_0 rfl 0 rfl ?_
  refine qj_get hx hb hts hin_12 hown hK (by decide) rfl rfl 12 (by decide) (hts _ tw_453) (fun _ h => h) (qr (some 8)) rfl d_Md_findPlace_1 ?_
  refine qj_iload_n hx hb d_Md_findPlace_4 rfl 1 rfl ?_
  refine qj_iconst (v := 1) hx hb d_Md_findPlace_5 (by decide) ?_
  refine qj_isub hx hb d_Md_findPlace_6 ?_
  have hf9 := q_ix_s hf; clear hf; obtain ⟨hi1, hf⟩ := hf9
  refine qj_iald (t0 := 0) hx hb hK (by decide) (fun _ _ => rfl) rfl hi1 d_Md_findPlace_7 ?_
  have hf9 := q_lt_s hf; clear hf; obtain ⟨x2, ex2, hf⟩ := hf9
  rw [← ex2]
  refine qj_istore_n hx hb d_Md_findPlace_8 rfl (by decide) rfl ?_
  refine qj_iconst (v := (-1)) hx hb d_Md_findPlace_9 (by decide) ?_
  refine qj_istore_n hx hb d_Md_findPlace_10 rfl (by decide) rfl ?_
  refine qj_iconst (v := 1) hx hb d_Md_findPlace_11 (by decide) ?_
  refine qj_istore hx hb d_Md_findPlace_12 (by decide) rfl ?_
  have hL14 : ∀ (n : Nat) (K5 : Int32 → Option qM), (∀ (x11 : Int32), K5 x11 = some out → QJ p l e rm_Md_findPlace s m args below meth c (qA 38 b) b 5 0 0 Q (qWd D (enM dA b) 38 b) M 54 [(0, qr (some 0)), (2, qi x2), (3, qi x11)] []) → ∀ (x3 : Int32) (x4 : Int32), f_Md_findPlace_14 a1 M n K5 x3 x4 = some out → QJ p l e rm_Md_findPlace s m args below meth c (qA 38 b) b 5 0 0 Q (qWd D (enM dA b) 38 b) M 14 [(0, qr (some 0)), (1, qi a1), (2, qi x2), (3, qi x3), (4, qi x4)] [] := by
    clear hf
    intro n
    induction n with
    | zero =>
      intro K5 hK5 x3 x4 hf
      exact absurd hf (by simp [f_Md_findPlace_14])
    | succ n ih14 =>
      intro K5 hK5 x3 x4 hf
      rw [f_Md_findPlace_14] at hf
      have ih14 := ih14 K5 hK5
      refine qj_iload hx hb d_Md_findPlace_14 4 rfl ?_
      refine qj_iload_n hx hb d_Md_findPlace_16 rfl 1 rfl ?_
      refine qj_icmp_ge (tgt := 54) hx hb d_Md_findPlace_17 (by decide) (fun hc6 => ?_) (fun hc6 => ?_)
      · replace hf := q_if_t hc6 hf
        refine qj_sub [0, 2, 3] rfl ?_
        exact hK5 x3 hf
      · replace hf := q_if_f hc6 hf
        refine qj_aload_n hx hb d_Md_findPlace_20 rfl 0 rfl ?_
        refine qj_aload_n hx hb d_Md_findPlace_21 rfl 0 rfl ?_
        refine qj_get hx hb hts hin_12 hown hK (by decide) rfl rfl 12 (by decide) (hts _ tw_453) (fun _ h => h) (qr (some 8)) rfl d_Md_findPlace_22 ?_
        refine qj_iload hx hb d_Md_findPlace_25 4 rfl ?_
        have hf9 := q_ix_s hf; clear hf; obtain ⟨hi7, hf⟩ := hf9
        refine qj_iald (t0 := 0) hx hb hK (by decide) (fun _ _ => rfl) rfl hi7 d_Md_findPlace_27 ?_
        refine qj_ldc (v := 524288) hx hb hown (hts _ tw_488) d_Md_findPlace_28 ?_
        have hf9 := q_bp_s hf; clear hf; obtain ⟨x8, hx8, hf⟩ := hf9
        refine qc_Vi (st := []) hx hb hml hown hts hK qT_ok hs (c_Md_named (M.1 8 x4.toNatClampNeg) 524288 M _ hx8) ⟨(callB_of 2 hts (q_good tw_466) rfl rfl rfl (hts _ tw_459) (hts _ tw_467) (by decide +kernel) ⟨by decide, by decide⟩), (hts _ tw_468), (hts _ tw_469)⟩ (by decide) rfl rfl rfl rfl (Nat.le_of_ble_eq_true rfl) d_Md_findPlace_30 ?_
        refine qj_if_eq (tgt := 46) hx hb d_Md_findPlace_33 (by decide) (fun hc9 => ?_) (fun hc9 => ?_)
        · replace hf := q_if_t hc9 hf
          refine qj_iload_n hx hb d_Md_findPlace_46 rfl 3 rfl ?_
          refine qj_istore_n hx hb d_Md_findPlace_47 rfl (by decide) rfl ?_
          refine qj_iinc (j := 4) (v := x4 + 1) hx hb d_Md_findPlace_48 rfl rfl (by decide) rfl ?_
          refine qj_goto (tgt := 14) hx hb d_Md_findPlace_51 (by decide) ?_
          refine qj_sub [2, 3, 4, 1, 0] rfl ?_
          exact ih14 x3 (x4 + 1) hf
        · replace hf := q_if_f hc9 hf
          refine qj_aload_n hx hb d_Md_findPlace_36 rfl 0 rfl ?_
          refine qj_get hx hb hts hin_12 hown hK (by decide) rfl rfl 12 (by decide) (hts _ tw_453) (fun _ h => h) (qr (some 8)) rfl d_Md_findPlace_37 ?_
          refine qj_iload hx hb d_Md_findPlace_40 4 rfl ?_
          have hf9 := q_ix_s hf; clear hf; obtain ⟨hi10, hf⟩ := hf9
          refine qj_iald (t0 := 0) hx hb hK (by decide) (fun _ _ => rfl) rfl hi10 d_Md_findPlace_42 ?_
          refine qj_goto (tgt := 47) hx hb d_Md_findPlace_43 (by decide) ?_
          refine qj_istore_n hx hb d_Md_findPlace_47 rfl (by decide) rfl ?_
          refine qj_iinc (j := 4) (v := x4 + 1) hx hb d_Md_findPlace_48 rfl rfl (by decide) rfl ?_
          refine qj_goto (tgt := 14) hx hb d_Md_findPlace_51 (by decide) ?_
          refine qj_sub [2, 3, 4, 1, 0] rfl ?_
          exact ih14 (M.1 8 x4.toNatClampNeg) (x4 + 1) hf
  refine qj_sub [3, 4, 2, 1, 0] rfl ?_
  refine hL14 _ _ (fun x11 hf9 => ?_) (-1) 1 hf
  clear hf; have hf := hf9; clear hf9
  refine qj_aload_n hx hb d_Md_findPlace_54 rfl 0 rfl ?_
  refine qj_iload_n hx hb d_Md_findPlace_55 rfl 1 rfl ?_
  refine qj_ldc (v := 655360) hx hb hown (hts _ tw_489) d_Md_findPlace_56 ?_
  have hf9 := q_bp_s hf; clear hf; obtain ⟨x12, hx12, hf⟩ := hf9
  refine qc_Vi (st := []) hx hb hml hown hts hK qT_ok hs (c_Md_named x2 655360 M _ hx12) ⟨(callB_of 2 hts (q_good tw_466) rfl rfl rfl (hts _ tw_459) (hts _ tw_467) (by decide +kernel) ⟨by decide, by decide⟩), (hts _ tw_468), (hts _ tw_469)⟩ (by decide) rfl rfl rfl rfl (Nat.le_of_ble_eq_true rfl) d_Md_findPlace_58 ?_
  have hf9 := q_lt_s hf; clear hf; obtain ⟨j14, ej14, hf⟩ := hf9
  have hj14 : j14 = some out → QJ p l e rm_Md_findPlace s m args below meth c (qA 38 b) b 5 0 0 Q (qWd D (enM dA b) 38 b) M 90 [(0, qr (some 0)), (2, qi x2)] [] := by
    clear hf
    intro hf
    rw [ej14] at hf
    refine qj_aload_n hx hb d_Md_findPlace_90 rfl 0 rfl ?_
    refine qj_iload_n hx hb d_Md_findPlace_91 rfl 1 rfl ?_
    have hf9 := q_cv_s hf; clear hf; obtain ⟨M13, hM13, hf⟩ := hf9
    refine qc_Vv (st := []) hx hb hml hown hts hK qT_ok hs (c_Md_insideTop x2 M _ hM13) ⟨(callB_of 1 hts (q_good tw_490) rfl rfl rfl (hts _ tw_459) (hts _ tw_491) (by decide +kernel) ⟨by decide, by decide⟩), (hts _ tw_492), (hts _ tw_493)⟩ (by decide) rfl rfl rfl rfl (Nat.le_of_ble_eq_true rfl) d_Md_findPlace_92 ?_
    exact hret _ _ _ d_Md_findPlace_95 (Option.some.inj hf)
  refine qj_if_eq (tgt := 90) hx hb d_Md_findPlace_61 (by decide) (fun hc15 => ?_) (fun hc15 => ?_)
  · replace hf := q_if_t hc15 hf
    refine qj_sub [0, 1] rfl ?_
    exact hj14  hf
  · replace hf := q_if_f hc15 hf
    refine qj_iload_n hx hb d_Md_findPlace_64 rfl 2 rfl ?_
    refine qj_if_lt (tgt := 90) hx hb d_Md_findPlace_65 (by decide) (fun hc16 => ?_) (fun hc16 => ?_)
    · replace hf := q_if_t hc16 hf
      refine qj_sub [0, 1] rfl ?_
      exact hj14  hf
    · replace hf := q_if_f hc16 hf
      refine qj_aload_n hx hb d_Md_findPlace_68 rfl 0 rfl ?_
      refine qj_aload_n hx hb d_Md_findPlace_69 rfl 0 rfl ?_
      refine qj_iload_n hx hb d_Md_findPlace_70 rfl 2 rfl ?_
      have hf9 := q_bp_s hf; clear hf; obtain ⟨x17, hx17, hf⟩ := hf9
      refine qc_Vi (st := [qr (some 0)]) hx hb hml hown hts hK qT_ok hs (c_Md_seat x11 M _ hx17) ⟨(callB_of 1 hts (q_good tw_478) rfl rfl rfl (hts _ tw_459) (hts _ tw_479) (by decide +kernel) ⟨by decide, by decide⟩), (hts _ tw_480), (hts _ tw_481)⟩ (by decide) rfl rfl rfl rfl (Nat.le_of_ble_eq_true rfl) d_Md_findPlace_71 ?_
      have hf9 := q_lt_s hf; clear hf; obtain ⟨M18, eM18, hf⟩ := hf9
      refine qj_puti (ty := .int) hx hb hts hin_12 ty_12 tyok_12 nm_12 hown hK (by decide) rfl rfl 20 (by decide) (hts _ tw_486) (fun _ h => h) rfl (by decide +kernel) rfl rfl (Nat.le_of_ble_eq_true rfl) sm_20 eM18 d_Md_findPlace_74 ?_
      refine qj_aload_n hx hb d_Md_findPlace_77 rfl 0 rfl ?_
      refine qj_aload_n hx hb d_Md_findPlace_78 rfl 0 rfl ?_
      refine qj_get hx hb hts hin_12 hown hK (by decide) rfl rfl 10 (by decide) (hts _ tw_452) (fun _ h => h) (qr (some 6)) rfl d_Md_findPlace_79 ?_
      refine qj_iload_n hx hb d_Md_findPlace_82 rfl 2 rfl ?_
      have hf9 := q_ix_s hf; clear hf; obtain ⟨hi19, hf⟩ := hf9
      refine qj_iald (t0 := 0) hx hb hK (by decide) (fun _ _ => rfl) rfl hi19 d_Md_findPlace_83 ?_
      have hf9 := q_lt_s hf; clear hf; obtain ⟨M20, eM20, hf⟩ := hf9
      refine qj_puti (ty := .int) hx hb hts hin_12 ty_12 tyok_12 nm_12 hown hK (by decide) rfl rfl 21 (by decide) (hts _ tw_487) (fun _ h => h) rfl (by decide +kernel) rfl rfl (Nat.le_of_ble_eq_true rfl) sm_21 eM20 d_Md_findPlace_84 ?_
      refine qj_goto (tgt := 95) hx hb d_Md_findPlace_87 (by decide) ?_
      exact hret _ _ _ d_Md_findPlace_95 (Option.some.inj hf)
