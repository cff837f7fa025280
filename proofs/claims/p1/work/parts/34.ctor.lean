set_option maxRecDepth 10000 in
theorem tk_0 : Cond.methodLink "PlainPage$Box" 1 Lib.objectInit ∈ lw_g := q_g (q_t1 (List.mem_of_getElem? (i := 83) rfl)) rfl
set_option maxRecDepth 10000 in
theorem tk_1 : Cond.instanceMethod Lib.objectInit ∈ lw_g := q_g (q_t1 (List.mem_of_getElem? (i := 27) rfl)) rfl
set_option maxRecDepth 10000 in
theorem tk_2 : Cond.code Lib.objectInit ⟨#[0xb1]⟩ 1 none ∈ lw_g := q_g (q_t1 (List.mem_of_getElem? (i := 28) rfl)) rfl
set_option maxRecDepth 10000 in
theorem tk_3 : Cond.methodLink "PlainPage$Letter" 1 Lib.objectInit ∈ lw_g := q_g (q_t1 (List.mem_of_getElem? (i := 204) rfl)) rfl
set_option maxRecDepth 10000 in
theorem tk_4 : Cond.methodLink "PlainPage$Typist" 1 Lib.objectInit ∈ lw_g := q_g (q_t2 (List.mem_of_getElem? (i := 38) rfl)) rfl
set_option maxRecDepth 10000 in
theorem tk_5 : Cond.methodLink "PlainPage$FormattingList" 3 Lib.objectInit ∈ lw_g := q_g (q_t1 (List.mem_of_getElem? (i := 66) rfl)) rfl
set_option maxRecDepth 10000 in
theorem tk_6 : Cond.classLink "PlainPage$FormattingList" 9 "PlainPage$Node" ∈ lw_g := q_g (q_t1 (List.mem_of_getElem? (i := 67) rfl)) rfl
set_option maxRecDepth 10000 in
theorem tk_7 : Cond.methodLink "PlainPage$Node" 3 Lib.objectInit ∈ lw_g := q_g (q_t1 (List.mem_of_getElem? (i := 60) rfl)) rfl
set_option maxRecDepth 10000 in
theorem tk_8 : Cond.code y_FormattingList_init prog_3_method_1_code 1 none ∈ lw_g := q_g (q_t1 (List.mem_of_getElem? (i := 65) rfl)) rfl
set_option maxRecDepth 10000 in
theorem tk_9 : Cond.classLink "PlainPage$Node" 9 "PlainPage$FormattingList" ∈ lw_g := q_g (q_t1 (List.mem_of_getElem? (i := 61) rfl)) rfl
set_option maxRecDepth 10000 in
theorem tk_10 : Cond.instantiable "PlainPage$FormattingList" 2 ∈ lw_g := q_g (q_t1 (List.mem_of_getElem? (i := 62) rfl)) rfl
set_option maxRecDepth 10000 in
theorem tk_11 : Cond.instanceMethod y_FormattingList_init ∈ lw_g := q_g (q_t1 (List.mem_of_getElem? (i := 64) rfl)) rfl
set_option maxRecDepth 10000 in
theorem tk_12 : Cond.arrayClass .int ∈ lw_g := q_g (q_t1 (List.mem_of_getElem? (i := 124) rfl)) rfl
set_option maxRecDepth 10000 in
theorem tk_13 : Cond.fieldLink "PlainPage$Node" 18 "PlainPage$Node" "values" "[I" ∈ lw_g := q_g (q_t1 (List.mem_of_getElem? (i := 164) rfl)) rfl
set_option maxRecDepth 10000 in
theorem tk_14 : Cond.initialized "PlainPage$Box" ∈ lw_g := q_g (q_t1 (List.mem_of_getElem? (i := 6) rfl)) rfl
set_option maxRecDepth 10000 in
theorem tk_15 : Cond.code y_Box_init prog_2_method_1_code 1 none ∈ lw_g := q_g (q_t1 (List.mem_of_getElem? (i := 82) rfl)) rfl
set_option maxRecDepth 10000 in
theorem tk_16 : Cond.classLink "PlainPage$Node" 22 "PlainPage$Box" ∈ lw_g := q_g (q_t1 (List.mem_of_getElem? (i := 78) rfl)) rfl
set_option maxRecDepth 10000 in
theorem tk_17 : Cond.instantiable "PlainPage$Box" 10 ∈ lw_g := q_g (q_t1 (List.mem_of_getElem? (i := 79) rfl)) rfl
set_option maxRecDepth 10000 in
theorem tk_18 : Cond.instanceMethod y_Box_init ∈ lw_g := q_g (q_t1 (List.mem_of_getElem? (i := 81) rfl)) rfl
set_option maxRecDepth 10000 in
theorem tk_19 : Cond.fieldLink "PlainPage$Node" 25 "PlainPage$Node" "box" "LPlainPage$Box;" ∈ lw_g := q_g (q_t1 (List.mem_of_getElem? (i := 168) rfl)) rfl
set_option maxRecDepth 10000 in
theorem tk_20 : Cond.methodLink "PlainPage$OpenStack" 3 Lib.objectInit ∈ lw_g := q_g (q_t1 (List.mem_of_getElem? (i := 44) rfl)) rfl
set_option maxRecDepth 10000 in
theorem tk_21 : Cond.classLink "PlainPage$OpenStack" 9 "PlainPage$Node" ∈ lw_g := q_g (q_t1 (List.mem_of_getElem? (i := 45) rfl)) rfl
set_option maxRecDepth 10000 in
theorem tk_22 : Cond.methodLink "PlainPage$Run" 3 Lib.objectInit ∈ lw_g := q_g (q_t2 (List.mem_of_getElem? (i := 129) rfl)) rfl
set_option maxRecDepth 10000 in
theorem tk_23 : Cond.classLink "PlainPage$Run" 9 "PlainPage$Letter" ∈ lw_g := q_g (q_t2 (List.mem_of_getElem? (i := 130) rfl)) rfl
set_option maxRecDepth 10000 in
theorem tk_24 : Cond.methodLink "PlainPage$Layout" 3 Lib.objectInit ∈ lw_g := q_g (q_t2 (List.mem_of_getElem? (i := 123) rfl)) rfl
set_option maxRecDepth 10000 in
theorem tk_25 : Cond.code y_Run_init prog_9_method_1_code 1 none ∈ lw_g := q_g (q_t2 (List.mem_of_getElem? (i := 128) rfl)) rfl
set_option maxRecDepth 10000 in
theorem tk_26 : Cond.classLink "PlainPage$Layout" 9 "PlainPage$Run" ∈ lw_g := q_g (q_t2 (List.mem_of_getElem? (i := 124) rfl)) rfl
set_option maxRecDepth 10000 in
theorem tk_27 : Cond.instantiable "PlainPage$Run" 13 ∈ lw_g := q_g (q_t2 (List.mem_of_getElem? (i := 125) rfl)) rfl
set_option maxRecDepth 10000 in
theorem tk_28 : Cond.instanceMethod y_Run_init ∈ lw_g := q_g (q_t2 (List.mem_of_getElem? (i := 127) rfl)) rfl
set_option maxRecDepth 10000 in
theorem tk_29 : Cond.fieldLink "PlainPage$Layout" 12 "PlainPage$Layout" "run" "LPlainPage$Run;" ∈ lw_g := q_g (q_t2 (List.mem_of_getElem? (i := 173) rfl)) rfl
set_option maxRecDepth 10000 in
theorem tk_30 : Cond.methodLink "PlainPage$Rule" 3 Lib.objectInit ∈ lw_g := q_g (q_t2 (List.mem_of_getElem? (i := 64) rfl)) rfl
set_option maxRecDepth 10000 in
theorem tk_31 : Cond.arrayClass .boolean ∈ lw_g := q_g (q_t2 (List.mem_of_getElem? (i := 93) rfl)) rfl
theorem df_0 : ∀ j, j < 10 → defaultValue (ty_0 j) = vp_V [.int 0, .int 0, .int 0, .int 0, .int 0, .int 0, .int 0, .int 0, .int 0, .int 0] j := by decide +kernel
theorem df_1 : ∀ j, j < 2 → defaultValue (ty_1 j) = vp_V [.null, .int 0] j := by decide +kernel
theorem df_2 : ∀ j, j < 6 → defaultValue (ty_2 j) = vp_V [.int 0, .null, .int 0, .int 0, .int 0, .int 0] j := by decide +kernel
theorem df_3 : ∀ j, j < 14 → defaultValue (ty_3 j) = vp_V [.int 0, .int 0, .int 0, .int 0, .null, .null, .null, .null, .null, .null, .null, .null, .null, .null] j := by decide +kernel
theorem df_4 : ∀ j, j < 2 → defaultValue (ty_4 j) = vp_V [.null, .int 0] j := by decide +kernel
theorem df_5 : ∀ j, j < 8 → defaultValue (ty_5 j) = vp_V [.null, .null, .null, .null, .null, .int 0, .int 0, .int 0] j := by decide +kernel
theorem df_6 : ∀ j, j < 4 → defaultValue (ty_6 j) = vp_V [.int 0, .int 0, .int 0, .int 0] j := by decide +kernel
theorem df_7 : ∀ j, j < 9 → defaultValue (ty_7 j) = vp_V [.null, .null, .null, .null, .null, .int 0, .int 0, .int 0, .int 0] j := by decide +kernel
theorem df_8 : ∀ j, j < 7 → defaultValue (ty_8 j) = vp_V [.null, .null, .null, .int 0, .int 0, .int 0, .int 0] j := by decide +kernel
theorem df_9 : ∀ j, j < 13 → defaultValue (ty_9 j) = vp_V [.null, .int 0, .int 0, .int 0, .int 0, .int 0, .int 0, .int 0, .int 0, .int 0, .int 0, .int 0, .int 0] j := by decide +kernel
theorem df_10 : ∀ j, j < 2 → defaultValue (ty_10 j) = vp_V [.null, .int 0] j := by decide +kernel
theorem df_11 : ∀ j, j < 8 → defaultValue (ty_11 j) = vp_V [.null, .null, .null, .null, .int 0, .int 0, .int 0, .int 0] j := by decide +kernel
theorem df_12 : ∀ j, j < 58 → defaultValue (ty_12 j) = vp_V [.int 0, .null, .int 0, .null, .int 0, .int 0, .null, .int 0, .null, .null, .null, .null, .null, .int 0, .null, .null, .int 0, .int 0, .null, .null, .int 0, .int 0, .int 0, .null, .null, .null, .null, .null, .null, .null, .null, .null, .int 0, .null, .null, .null, .null, .int 0, .int 0, .int 0, .null, .null, .null, .null, .null, .null, .null, .null, .null, .null, .null, .null, .int 0, .int 0, .int 0, .int 0, .int 0, .int 0] j := by decide +kernel
theorem d_Box_init_0 : decode prog_2_method_1_code 0 = .ok (.aload_n 0, 1) := by decide +kernel
theorem d_Box_init_1 : decode prog_2_method_1_code 1 = .ok (.invokespecial 1, 3) := by decide +kernel
theorem d_Box_init_4 : decode prog_2_method_1_code 4 = .ok (.return_, 1) := by decide +kernel
abbrev rm_Box_init : Room := { frames := 1, cells := 0, slots := 0, locals := 13 }
set_option maxRecDepth 100000 in
set_option maxHeartbeats 4000000 in
theorem k_Box_init {l : Launch} {D : va_G} {dA : Nat → ClassId} {b : Nat} (o : Nat) (ho : tcX o = 11) : CTk l y_Box_init w_Box_init rm_Box_init D (tysX dA) (enX dA b) b qXc o (o + 1) 0 0 (.inr (0, [.int 0, .int 0, .int 0, .int 0, .int 0, .int 0, .int 0, .int 0, .int 0, .int 0])) := by
  refine qm_k (cc := prog_2_method_1_code) (nL := 1) (by decide) rfl rfl (by decide) ?_
  intro p e s m args below meth c Q hx hb hts0 hown hml hin2 hK hs hret
  have hts : ∀ w ∈ lw_g, w.before args s = true := fun w h => hts0 w (List.mem_cons_of_mem _ h)
  refine qj_aload_n hx hb d_Box_init_0 rfl 0 rfl ?_
  refine qk_obj hx hb hml hown (hts _ tk_0) (hts _ tk_1) (hts _ tk_2) d_Box_init_1 (by decide) (Nat.le_of_ble_eq_true rfl) ?_
  exact hret _ _ _ _ d_Box_init_4 (fun H h => qk_done h (by rw [en_11 ho]; rfl))
theorem d_Letter_init_0 : decode prog_5_method_1_code 0 = .ok (.aload_n 0, 1) := by decide +kernel
theorem d_Letter_init_1 : decode prog_5_method_1_code 1 = .ok (.invokespecial 1, 3) := by decide +kernel
theorem d_Letter_init_4 : decode prog_5_method_1_code 4 = .ok (.return_, 1) := by decide +kernel
abbrev rm_Letter_init : Room := { frames := 1, cells := 0, slots := 0, locals := 13 }
set_option maxRecDepth 100000 in
set_option maxHeartbeats 4000000 in
theorem k_Letter_init {l : Launch} {D : va_G} {dA : Nat → ClassId} {b : Nat} (o : Nat) (ho : tcX o = 12) : CTk l y_Letter_init w_Letter_init rm_Letter_init D (tysX dA) (enX dA b) b qXc o (o + 1) 0 0 (.inr (2, [.int 0, .null, .int 0, .int 0, .int 0, .int 0])) := by
  refine qm_k (cc := prog_5_method_1_code) (nL := 1) (by decide) rfl rfl (by decide) ?_
  intro p e s m args below meth c Q hx hb hts0 hown hml hin2 hK hs hret
  have hts : ∀ w ∈ lw_g, w.before args s = true := fun w h => hts0 w (List.mem_cons_of_mem _ h)
  refine qj_aload_n hx hb d_Letter_init_0 rfl 0 rfl ?_
  refine qk_obj hx hb hml hown (hts _ tk_3) (hts _ tk_1) (hts _ tk_2) d_Letter_init_1 (by decide) (Nat.le_of_ble_eq_true rfl) ?_
  exact hret _ _ _ _ d_Letter_init_4 (fun H h => qk_done h (by rw [en_12 ho]; rfl))
theorem d_Typist_init_0 : decode prog_12_method_1_code 0 = .ok (.aload_n 0, 1) := by decide +kernel
theorem d_Typist_init_1 : decode prog_12_method_1_code 1 = .ok (.invokespecial 1, 3) := by decide +kernel
theorem d_Typist_init_4 : decode prog_12_method_1_code 4 = .ok (.return_, 1) := by decide +kernel
abbrev rm_Typist_init : Room := { frames := 1, cells := 0, slots := 0, locals := 13 }
set_option maxRecDepth 100000 in
set_option maxHeartbeats 4000000 in
theorem k_Typist_init {l : Launch} {D : va_G} {dA : Nat → ClassId} {b : Nat} : CTk l y_Typist_init w_Typist_init rm_Typist_init D (tysX dA) (enX dA b) b qXc 287 (288) 0 0 (.inr (6, [.int 0, .int 0, .int 0, .int 0])) := by
  refine qm_k (cc := prog_12_method_1_code) (nL := 1) (by decide) rfl rfl (by decide) ?_
  intro p e s m args below meth c Q hx hb hts0 hown hml hin2 hK hs hret
  have hts : ∀ w ∈ lw_g, w.before args s = true := fun w h => hts0 w (List.mem_cons_of_mem _ h)
  refine qj_aload_n hx hb d_Typist_init_0 rfl 0 rfl ?_
  refine qk_obj hx hb hml hown (hts _ tk_4) (hts _ tk_1) (hts _ tk_2) d_Typist_init_1 (by decide) (Nat.le_of_ble_eq_true rfl) ?_
  exact hret _ _ _ _ d_Typist_init_4 (fun H h => qk_done h (by rw [en_13 (rfl : tcX 287 = 13)]; rfl))
theorem d_FormattingList_init_0 : decode prog_3_method_1_code 0 = .ok (.aload_n 0, 1) := by decide +kernel
theorem d_FormattingList_init_1 : decode prog_3_method_1_code 1 = .ok (.invokespecial 3, 3) := by decide +kernel
theorem d_FormattingList_init_4 : decode prog_3_method_1_code 4 = .ok (.aload_n 0, 1) := by decide +kernel
theorem d_FormattingList_init_5 : decode prog_3_method_1_code 5 = .ok (.iconst 4, 1) := by decide +kernel
theorem d_FormattingList_init_6 : decode prog_3_method_1_code 6 = .ok (.anewarray 9, 3) := by decide +kernel
theorem d_FormattingList_init_9 : decode prog_3_method_1_code 9 = .ok (.putfield 11, 3) := by decide +kernel
theorem d_FormattingList_init_12 : decode prog_3_method_1_code 12 = .ok (.return_, 1) := by decide +kernel
abbrev rm_FormattingList_init : Room := { frames := 1, cells := 1, slots := 4, locals := 13 }
set_option maxRecDepth 100000 in
set_option maxHeartbeats 4000000 in
theorem k_FormattingList_init {l : Launch} {D : va_G} {dA : Nat → ClassId} {b : Nat} (o : Nat) (ho : tcX o = 8) : CTk l y_FormattingList_init w_FormattingList_init rm_FormattingList_init D (tysX dA) (enX dA b) b qXc o (o + 2) 1 4 (.inr (1, [.null, .int 0])) := by
  refine qm_k (cc := prog_3_method_1_code) (nL := 1) (by decide) rfl rfl (by decide) ?_
  intro p e s m args below meth c Q hx hb hts0 hown hml hin2 hK hs hret
  have hts : ∀ w ∈ lw_g, w.before args s = true := fun w h => hts0 w (List.mem_cons_of_mem _ h)
  refine qj_aload_n hx hb d_FormattingList_init_0 rfl 0 rfl ?_
  refine qk_obj hx hb hml hown (hts _ tk_5) (hts _ tk_1) (hts _ tk_2) d_FormattingList_init_1 (by decide) (Nat.le_of_ble_eq_true rfl) ?_
  refine qj_aload_n hx hb d_FormattingList_init_4 rfl 0 rfl ?_
  refine qj_iconst (v := 4) hx hb d_FormattingList_init_5 (by decide) ?_
  refine qk_anew (N' := 4) (cA := dA 3) hx hb hown (hts _ tk_6) hs.1.1 (hK.2 3 _ rfl).2.choose_spec.choose_spec.2.2.2 (by decide) rfl (by decide) (by decide) (by decide) (qk_one (by intro q hq; rw [List.mem_singleton.mp hq]; show o < o + 1; omega) (by rw [en_9 (tc_8_1 ho)]; rfl)) d_FormattingList_init_6 ?_
  refine qk_put (j := 0) (ty := .array (.object "PlainPage$Node")) (v := qr (some (o + 1))) hx hb hts hin_1 ty_1 tyok_1 nm_1 hown hK (by omega) rfl q_s1 rfl 0 (by decide) (hts _ tw_21) (fun _ h => h) hin2 rfl (by decide +kernel) rfl rfl (Nat.le_of_ble_eq_true rfl) d_FormattingList_init_9 ?_
  exact hret _ _ _ _ d_FormattingList_init_12 (fun H h => qk_done h (by rw [en_8 ho]; rfl))
theorem d_Node_init_0 : decode prog_6_method_1_code 0 = .ok (.aload_n 0, 1) := by decide +kernel
theorem d_Node_init_1 : decode prog_6_method_1_code 1 = .ok (.invokespecial 3, 3) := by decide +kernel
theorem d_Node_init_4 : decode prog_6_method_1_code 4 = .ok (.aload_n 0, 1) := by decide +kernel
theorem d_Node_init_5 : decode prog_6_method_1_code 5 = .ok (.new 9, 3) := by decide +kernel
theorem d_Node_init_8 : decode prog_6_method_1_code 8 = .ok (.dup, 1) := by decide +kernel
theorem d_Node_init_9 : decode prog_6_method_1_code 9 = .ok (.invokespecial 11, 3) := by decide +kernel
theorem d_Node_init_12 : decode prog_6_method_1_code 12 = .ok (.putfield 12, 3) := by decide +kernel
theorem d_Node_init_15 : decode prog_6_method_1_code 15 = .ok (.aload_n 0, 1) := by decide +kernel
theorem d_Node_init_16 : decode prog_6_method_1_code 16 = .ok (.bipush 7, 2) := by decide +kernel
theorem d_Node_init_18 : decode prog_6_method_1_code 18 = .ok (.newarray .int, 2) := by decide +kernel
theorem d_Node_init_20 : decode prog_6_method_1_code 20 = .ok (.putfield 18, 3) := by decide +kernel
theorem d_Node_init_23 : decode prog_6_method_1_code 23 = .ok (.aload_n 0, 1) := by decide +kernel
theorem d_Node_init_24 : decode prog_6_method_1_code 24 = .ok (.new 22, 3) := by decide +kernel
theorem d_Node_init_27 : decode prog_6_method_1_code 27 = .ok (.dup, 1) := by decide +kernel
theorem d_Node_init_28 : decode prog_6_method_1_code 28 = .ok (.invokespecial 24, 3) := by decide +kernel
theorem d_Node_init_31 : decode prog_6_method_1_code 31 = .ok (.putfield 25, 3) := by decide +kernel
theorem d_Node_init_34 : decode prog_6_method_1_code 34 = .ok (.return_, 1) := by decide +kernel
abbrev rm_Node_init : Room := { frames := 2, cells := 4, slots := 23, locals := 33 }
set_option maxRecDepth 100000 in
set_option maxHeartbeats 4000000 in
theorem k_Node_init {l : Launch} {D : va_G} {dA : Nat → ClassId} {b : Nat} (o : Nat) (ho : tcX o = 7) : CTk l y_Node_init w_Node_init rm_Node_init D (tysX dA) (enX dA b) b qXc o (o + 5) 4 23 (.inr (3, [.int 0, .int 0, .int 0, .int 0, .null, .null, .null, .null, .null, .null, .null, .null, .null, .null])) := by
  refine qm_k (cc := prog_6_method_1_code) (nL := 1) (by decide) rfl rfl (by decide) ?_
  intro p e s m args below meth c Q hx hb hts0 hown hml hin2 hK hs hret
  have hts : ∀ w ∈ lw_g, w.before args s = true := fun w h => hts0 w (List.mem_cons_of_mem _ h)
  refine qj_aload_n hx hb d_Node_init_0 rfl 0 rfl ?_
  refine qk_obj hx hb hml hown (hts _ tk_7) (hts _ tk_1) (hts _ tk_2) d_Node_init_1 (by decide) (Nat.le_of_ble_eq_true rfl) ?_
  refine qj_aload_n hx hb d_Node_init_4 rfl 0 rfl ?_
  refine qk_subN hx hb (by intro q hq; rw [List.mem_singleton.mp hq]; show o < o + 1; omega) hml hts hin_1 ty_1 tyok_1 hown (hts _ tk_9) (hts _ tk_10) (hts _ tw_59) hK qXc_ok hs rfl df_1 (k_FormattingList_init (o + 1) (tc_7_1 ho)) ⟨(va_cnB 0 hts (q_good tk_8) rfl rfl rfl (hs.2 ("PlainPage$Node", 11, y_FormattingList_init, "PlainPage") (by decide +kernel)) (hts _ tw_59) (by decide +kernel) ⟨by decide, by decide⟩), rfl, (hts _ tk_11)⟩ (by omega) (Nat.le_of_ble_eq_true rfl) (by decide) (by decide) d_Node_init_5 d_Node_init_8 d_Node_init_9 ?_
  refine qk_put (j := 0) (ty := .object "PlainPage$FormattingList") (v := qr (some (o + 1))) hx hb hts hin_3 ty_3 tyok_3 nm_3 hown hK (by omega) rfl q_s1 rfl 11 (by decide) (hts _ tw_33) (fun _ h => h) hin2 rfl (by decide +kernel) rfl rfl (Nat.le_of_ble_eq_true rfl) d_Node_init_12 ?_
  refine qj_aload_n hx hb d_Node_init_15 rfl 0 rfl ?_
  refine qj_bipush (v := 7) hx hb d_Node_init_16 (by decide) ?_
  refine qk_newa (atype := .int) (ty := .int) (N' := 7) (cA := dA 0) hx hb (by intro q hq; rw [List.mem_singleton.mp hq]; show o < o + 3; omega) (hts _ tk_12) rfl (hK.2 0 _ rfl).2 (en_10 (tc_7_3 ho) _ _) rfl (by decide) rfl (by decide) (by decide) (by decide) (by omega) d_Node_init_18 ?_
  refine qk_put (j := 0) (ty := .array (.int)) (v := qr (some (o + 3))) hx hb hts hin_3 ty_3 tyok_3 nm_3 hown hK (by omega) rfl q_s1 rfl 12 (by decide) (hts _ tk_13) (fun _ h => h) hin2 rfl (by decide +kernel) rfl rfl (Nat.le_of_ble_eq_true rfl) d_Node_init_20 ?_
  refine qj_aload_n hx hb d_Node_init_23 rfl 0 rfl ?_
  refine qk_subN hx hb (by intro q hq; rw [List.mem_singleton.mp hq]; show o < o + 4; omega) hml hts hin_0 ty_0 tyok_0 hown (hts _ tk_16) (hts _ tk_17) (hts _ tk_14) hK qXc_ok hs rfl df_0 (k_Box_init (o + 4) (tc_7_4 ho)) ⟨(va_cnB 0 hts (q_good tk_15) rfl rfl rfl (hs.2 ("PlainPage$Node", 24, y_Box_init, "PlainPage") (by decide +kernel)) (hts _ tk_14) (by decide +kernel) ⟨by decide, by decide⟩), rfl, (hts _ tk_18)⟩ (by omega) (Nat.le_of_ble_eq_true rfl) (by decide) (by decide) d_Node_init_24 d_Node_init_27 d_Node_init_28 ?_
  refine qk_put (j := 0) (ty := .object "PlainPage$Box") (v := qr (some (o + 4))) hx hb hts hin_3 ty_3 tyok_3 nm_3 hown hK (by omega) rfl q_s1 rfl 13 (by decide) (hts _ tk_19) (fun _ h => h) hin2 rfl (by decide +kernel) rfl rfl (Nat.le_of_ble_eq_true rfl) d_Node_init_31 ?_
  exact hret _ _ _ _ d_Node_init_34 (fun H h => qk_done h (by rw [en_7 ho]; rfl))
theorem d_OpenStack_init_0 : decode prog_7_method_1_code 0 = .ok (.aload_n 0, 1) := by decide +kernel
theorem d_OpenStack_init_1 : decode prog_7_method_1_code 1 = .ok (.invokespecial 3, 3) := by decide +kernel
theorem d_OpenStack_init_4 : decode prog_7_method_1_code 4 = .ok (.aload_n 0, 1) := by decide +kernel
theorem d_OpenStack_init_5 : decode prog_7_method_1_code 5 = .ok (.bipush 24, 2) := by decide +kernel
theorem d_OpenStack_init_7 : decode prog_7_method_1_code 7 = .ok (.anewarray 9, 3) := by decide +kernel
theorem d_OpenStack_init_10 : decode prog_7_method_1_code 10 = .ok (.putfield 11, 3) := by decide +kernel
theorem d_OpenStack_init_13 : decode prog_7_method_1_code 13 = .ok (.return_, 1) := by decide +kernel
abbrev rm_OpenStack_init : Room := { frames := 1, cells := 1, slots := 24, locals := 13 }
set_option maxRecDepth 100000 in
set_option maxHeartbeats 4000000 in
theorem k_OpenStack_init {l : Launch} {D : va_G} {dA : Nat → ClassId} {b : Nat} : CTk l y_OpenStack_init w_OpenStack_init rm_OpenStack_init D (tysX dA) (enX dA b) b qXc 5 (7) 1 24 (.inr (4, [.null, .int 0])) := by
  refine qm_k (cc := prog_7_method_1_code) (nL := 1) (by decide) rfl rfl (by decide) ?_
  intro p e s m args below meth c Q hx hb hts0 hown hml hin2 hK hs hret
  have hts : ∀ w ∈ lw_g, w.before args s = true := fun w h => hts0 w (List.mem_cons_of_mem _ h)
  refine qj_aload_n hx hb d_OpenStack_init_0 rfl 0 rfl ?_
  refine qk_obj hx hb hml hown (hts _ tk_20) (hts _ tk_1) (hts _ tk_2) d_OpenStack_init_1 (by decide) (Nat.le_of_ble_eq_true rfl) ?_
  refine qj_aload_n hx hb d_OpenStack_init_4 rfl 0 rfl ?_
  refine qj_bipush (v := 24) hx hb d_OpenStack_init_5 (by decide) ?_
  refine qk_anew (N' := 24) (cA := dA 3) hx hb hown (hts _ tk_21) hs.1.1 (hK.2 3 _ rfl).2.choose_spec.choose_spec.2.2.2 (by decide) rfl (by decide) (by decide) (by decide) (qk_one (by intro q hq; rw [List.mem_singleton.mp hq]; show 5 < 6; omega) (by rw [en_6 (rfl : tcX 6 = 6)]; rfl)) d_OpenStack_init_7 ?_
  refine qk_put (j := 0) (ty := .array (.object "PlainPage$Node")) (v := qr (some (6))) hx hb hts hin_4 ty_4 tyok_4 nm_4 hown hK (by omega) rfl q_s1 rfl 0 (by decide) (hts _ tw_10) (fun _ h => h) hin2 rfl (by decide +kernel) rfl rfl (Nat.le_of_ble_eq_true rfl) d_OpenStack_init_10 ?_
  exact hret _ _ _ _ d_OpenStack_init_13 (fun H h => qk_done h (by rw [en_5 (rfl : tcX 5 = 5)]; rfl))
theorem d_Run_init_0 : decode prog_9_method_1_code 0 = .ok (.aload_n 0, 1) := by decide +kernel
theorem d_Run_init_1 : decode prog_9_method_1_code 1 = .ok (.invokespecial 3, 3) := by decide +kernel
theorem d_Run_init_4 : decode prog_9_method_1_code 4 = .ok (.aload_n 0, 1) := by decide +kernel
theorem d_Run_init_5 : decode prog_9_method_1_code 5 = .ok (.sipush 160, 3) := by decide +kernel
theorem d_Run_init_8 : decode prog_9_method_1_code 8 = .ok (.anewarray 9, 3) := by decide +kernel
theorem d_Run_init_11 : decode prog_9_method_1_code 11 = .ok (.putfield 11, 3) := by decide +kernel
theorem d_Run_init_14 : decode prog_9_method_1_code 14 = .ok (.return_, 1) := by decide +kernel
abbrev rm_Run_init : Room := { frames := 1, cells := 1, slots := 160, locals := 13 }
set_option maxRecDepth 100000 in
set_option maxHeartbeats 4000000 in
theorem k_Run_init {l : Launch} {D : va_G} {dA : Nat → ClassId} {b : Nat} : CTk l y_Run_init w_Run_init rm_Run_init D (tysX dA) (enX dA b) b qXc 365 (367) 1 160 (.inr (9, [.null, .int 0, .int 0, .int 0, .int 0, .int 0, .int 0, .int 0, .int 0, .int 0, .int 0, .int 0, .int 0])) := by
  refine qm_k (cc := prog_9_method_1_code) (nL := 1) (by decide) rfl rfl (by decide) ?_
  intro p e s m args below meth c Q hx hb hts0 hown hml hin2 hK hs hret
  have hts : ∀ w ∈ lw_g, w.before args s = true := fun w h => hts0 w (List.mem_cons_of_mem _ h)
  refine qj_aload_n hx hb d_Run_init_0 rfl 0 rfl ?_
  refine qk_obj hx hb hml hown (hts _ tk_22) (hts _ tk_1) (hts _ tk_2) d_Run_init_1 (by decide) (Nat.le_of_ble_eq_true rfl) ?_
  refine qj_aload_n hx hb d_Run_init_4 rfl 0 rfl ?_
  refine qj_sipush (v := 160) hx hb d_Run_init_5 (by decide) ?_
  refine qk_anew (N' := 160) (cA := dA 4) hx hb hown (hts _ tk_23) hs.1.2.1 (hK.2 4 _ rfl).2.choose_spec.choose_spec.2.2.2 (by decide) rfl (by decide) (by decide) (by decide) (qk_one (by intro q hq; rw [List.mem_singleton.mp hq]; show 365 < 366; omega) (by rw [en_26 (rfl : tcX 366 = 26)]; rfl)) d_Run_init_8 ?_
  refine qk_put (j := 0) (ty := .array (.object "PlainPage$Letter")) (v := qr (some (366))) hx hb hts hin_9 ty_9 tyok_9 nm_9 hown hK (by omega) rfl q_s1 rfl 0 (by decide) (hts _ tw_383) (fun _ h => h) hin2 rfl (by decide +kernel) rfl rfl (Nat.le_of_ble_eq_true rfl) d_Run_init_11 ?_
  exact hret _ _ _ _ d_Run_init_14 (fun H h => qk_done h (by rw [en_25 (rfl : tcX 365 = 25)]; rfl))
theorem d_Layout_init_0 : decode prog_4_method_1_code 0 = .ok (.aload_n 0, 1) := by decide +kernel
theorem d_Layout_init_1 : decode prog_4_method_1_code 1 = .ok (.invokespecial 3, 3) := by decide +kernel
theorem d_Layout_init_4 : decode prog_4_method_1_code 4 = .ok (.aload_n 0, 1) := by decide +kernel
theorem d_Layout_init_5 : decode prog_4_method_1_code 5 = .ok (.new 9, 3) := by decide +kernel
theorem d_Layout_init_8 : decode prog_4_method_1_code 8 = .ok (.dup, 1) := by decide +kernel
theorem d_Layout_init_9 : decode prog_4_method_1_code 9 = .ok (.invokespecial 11, 3) := by decide +kernel
theorem d_Layout_init_12 : decode prog_4_method_1_code 12 = .ok (.putfield 12, 3) := by decide +kernel
theorem d_Layout_init_15 : decode prog_4_method_1_code 15 = .ok (.return_, 1) := by decide +kernel
abbrev rm_Layout_init : Room := { frames := 2, cells := 2, slots := 173, locals := 33 }
set_option maxRecDepth 100000 in
set_option maxHeartbeats 4000000 in
theorem k_Layout_init {l : Launch} {D : va_G} {dA : Nat → ClassId} {b : Nat} : CTk l y_Layout_init w_Layout_init rm_Layout_init D (tysX dA) (enX dA b) b qXc 364 (367) 2 173 (.inr (10, [.null, .int 0])) := by
  refine qm_k (cc := prog_4_method_1_code) (nL := 1) (by decide) rfl rfl (by decide) ?_
  intro p e s m args below meth c Q hx hb hts0 hown hml hin2 hK hs hret
  have hts : ∀ w ∈ lw_g, w.before args s = true := fun w h => hts0 w (List.mem_cons_of_mem _ h)
  refine qj_aload_n hx hb d_Layout_init_0 rfl 0 rfl ?_
  refine qk_obj hx hb hml hown (hts _ tk_24) (hts _ tk_1) (hts _ tk_2) d_Layout_init_1 (by decide) (Nat.le_of_ble_eq_true rfl) ?_
  refine qj_aload_n hx hb d_Layout_init_4 rfl 0 rfl ?_
  refine qk_subN hx hb (by intro q hq; rw [List.mem_singleton.mp hq]; show 364 < 365; omega) hml hts hin_9 ty_9 tyok_9 hown (hts _ tk_26) (hts _ tk_27) (hts _ tw_393) hK qXc_ok hs rfl df_9 (k_Run_init) ⟨(va_cnB 0 hts (q_good tk_25) rfl rfl rfl (hs.2 ("PlainPage$Layout", 11, y_Run_init, "PlainPage") (by decide +kernel)) (hts _ tw_393) (by decide +kernel) ⟨by decide, by decide⟩), rfl, (hts _ tk_28)⟩ (by omega) (Nat.le_of_ble_eq_true rfl) (by decide) (by decide) d_Layout_init_5 d_Layout_init_8 d_Layout_init_9 ?_
  refine qk_put (j := 0) (ty := .object "PlainPage$Run") (v := qr (some (365))) hx hb hts hin_10 ty_10 tyok_10 nm_10 hown hK (by omega) rfl q_s1 rfl 0 (by decide) (hts _ tk_29) (fun _ h => h) hin2 rfl (by decide +kernel) rfl rfl (Nat.le_of_ble_eq_true rfl) d_Layout_init_12 ?_
  exact hret _ _ _ _ d_Layout_init_15 (fun H h => qk_done h (by rw [en_24 (rfl : tcX 364 = 24)]; rfl))
theorem d_Rule_init_0 : decode prog_8_method_1_code 0 = .ok (.aload_n 0, 1) := by decide +kernel
theorem d_Rule_init_1 : decode prog_8_method_1_code 1 = .ok (.invokespecial 3, 3) := by decide +kernel
theorem d_Rule_init_4 : decode prog_8_method_1_code 4 = .ok (.aload_n 0, 1) := by decide +kernel
theorem d_Rule_init_5 : decode prog_8_method_1_code 5 = .ok (.iconst 4, 1) := by decide +kernel
theorem d_Rule_init_6 : decode prog_8_method_1_code 6 = .ok (.newarray .int, 2) := by decide +kernel
theorem d_Rule_init_8 : decode prog_8_method_1_code 8 = .ok (.putfield 9, 3) := by decide +kernel
theorem d_Rule_init_11 : decode prog_8_method_1_code 11 = .ok (.aload_n 0, 1) := by decide +kernel
theorem d_Rule_init_12 : decode prog_8_method_1_code 12 = .ok (.iconst 4, 1) := by decide +kernel
theorem d_Rule_init_13 : decode prog_8_method_1_code 13 = .ok (.newarray .int, 2) := by decide +kernel
theorem d_Rule_init_15 : decode prog_8_method_1_code 15 = .ok (.putfield 15, 3) := by decide +kernel
theorem d_Rule_init_18 : decode prog_8_method_1_code 18 = .ok (.aload_n 0, 1) := by decide +kernel
theorem d_Rule_init_19 : decode prog_8_method_1_code 19 = .ok (.iconst 4, 1) := by decide +kernel
theorem d_Rule_init_20 : decode prog_8_method_1_code 20 = .ok (.newarray .boolean, 2) := by decide +kernel
theorem d_Rule_init_22 : decode prog_8_method_1_code 22 = .ok (.putfield 18, 3) := by decide +kernel
theorem d_Rule_init_25 : decode prog_8_method_1_code 25 = .ok (.aload_n 0, 1) := by decide +kernel
theorem d_Rule_init_26 : decode prog_8_method_1_code 26 = .ok (.bipush 7, 2) := by decide +kernel
theorem d_Rule_init_28 : decode prog_8_method_1_code 28 = .ok (.newarray .int, 2) := by decide +kernel
theorem d_Rule_init_30 : decode prog_8_method_1_code 30 = .ok (.putfield 22, 3) := by decide +kernel
theorem d_Rule_init_33 : decode prog_8_method_1_code 33 = .ok (.aload_n 0, 1) := by decide +kernel
theorem d_Rule_init_34 : decode prog_8_method_1_code 34 = .ok (.bipush 7, 2) := by decide +kernel
theorem d_Rule_init_36 : decode prog_8_method_1_code 36 = .ok (.newarray .int, 2) := by decide +kernel
theorem d_Rule_init_38 : decode prog_8_method_1_code 38 = .ok (.putfield 25, 3) := by decide +kernel
theorem d_Rule_init_41 : decode prog_8_method_1_code 41 = .ok (.return_, 1) := by decide +kernel
abbrev rm_Rule_init : Room := { frames := 1, cells := 5, slots := 26, locals := 13 }
set_option maxRecDepth 100000 in
set_option maxHeartbeats 4000000 in
theorem k_Rule_init {l : Launch} {D : va_G} {dA : Nat → ClassId} {b : Nat} (o : Nat) (ho : tcX o = 18) : CTk l y_Rule_init w_Rule_init rm_Rule_init D (tysX dA) (enX dA b) b qXc o (o + 6) 5 26 (.inr (7, [.null, .null, .null, .null, .null, .int 0, .int 0, .int 0, .int 0])) := by
  refine qm_k (cc := prog_8_method_1_code) (nL := 1) (by decide) rfl rfl (by decide) ?_
  intro p e s m args below meth c Q hx hb hts0 hown hml hin2 hK hs hret
  have hts : ∀ w ∈ lw_g, w.before args s = true := fun w h => hts0 w (List.mem_cons_of_mem _ h)
  refine qj_aload_n hx hb d_Rule_init_0 rfl 0 rfl ?_
  refine qk_obj hx hb hml hown (hts _ tk_30) (hts _ tk_1) (hts _ tk_2) d_Rule_init_1 (by decide) (Nat.le_of_ble_eq_true rfl) ?_
  refine qj_aload_n hx hb d_Rule_init_4 rfl 0 rfl ?_
  refine qj_iconst (v := 4) hx hb d_Rule_init_5 (by decide) ?_
  refine qk_newa (atype := .int) (ty := .int) (N' := 4) (cA := dA 0) hx hb (by intro q hq; rw [List.mem_singleton.mp hq]; show o < o + 1; omega) (hts _ tk_12) rfl (hK.2 0 _ rfl).2 (en_19 (tc_18_1 ho) _ _) rfl (by decide) rfl (by decide) (by decide) (by decide) (by omega) d_Rule_init_6 ?_
  refine qk_put (j := 0) (ty := .array (.int)) (v := qr (some (o + 1))) hx hb hts hin_7 ty_7 tyok_7 nm_7 hown hK (by omega) rfl q_s1 rfl 0 (by decide) (hts _ tw_256) (fun _ h => h) hin2 rfl (by decide +kernel) rfl rfl (Nat.le_of_ble_eq_true rfl) d_Rule_init_8 ?_
  refine qj_aload_n hx hb d_Rule_init_11 rfl 0 rfl ?_
  refine qj_iconst (v := 4) hx hb d_Rule_init_12 (by decide) ?_
  refine qk_newa (atype := .int) (ty := .int) (N' := 4) (cA := dA 0) hx hb (by intro q hq; rw [List.mem_singleton.mp hq]; show o < o + 2; omega) (hts _ tk_12) rfl (hK.2 0 _ rfl).2 (en_20 (tc_18_2 ho) _ _) rfl (by decide) rfl (by decide) (by decide) (by decide) (by omega) d_Rule_init_13 ?_
  refine qk_put (j := 0) (ty := .array (.int)) (v := qr (some (o + 2))) hx hb hts hin_7 ty_7 tyok_7 nm_7 hown hK (by omega) rfl q_s1 rfl 1 (by decide) (hts _ tw_258) (fun _ h => h) hin2 rfl (by decide +kernel) rfl rfl (Nat.le_of_ble_eq_true rfl) d_Rule_init_15 ?_
  refine qj_aload_n hx hb d_Rule_init_18 rfl 0 rfl ?_
  refine qj_iconst (v := 4) hx hb d_Rule_init_19 (by decide) ?_
  refine qk_newa (atype := .boolean) (ty := .boolean) (N' := 4) (cA := dA 2) hx hb (by intro q hq; rw [List.mem_singleton.mp hq]; show o < o + 3; omega) (hts _ tk_31) rfl (hK.2 2 _ rfl).2 (en_21 (tc_18_3 ho) _ _) rfl (by decide) rfl (by decide) (by decide) (by decide) (by omega) d_Rule_init_20 ?_
  refine qk_put (j := 0) (ty := .array (.boolean)) (v := qr (some (o + 3))) hx hb hts hin_7 ty_7 tyok_7 nm_7 hown hK (by omega) rfl q_s1 rfl 2 (by decide) (hts _ tw_266) (fun _ h => h) hin2 rfl (by decide +kernel) rfl rfl (Nat.le_of_ble_eq_true rfl) d_Rule_init_22 ?_
  refine qj_aload_n hx hb d_Rule_init_25 rfl 0 rfl ?_
  refine qj_bipush (v := 7) hx hb d_Rule_init_26 (by decide) ?_
  refine qk_newa (atype := .int) (ty := .int) (N' := 7) (cA := dA 0) hx hb (by intro q hq; rw [List.mem_singleton.mp hq]; show o < o + 4; omega) (hts _ tk_12) rfl (hK.2 0 _ rfl).2 (en_22 (tc_18_4 ho) _ _) rfl (by decide) rfl (by decide) (by decide) (by decide) (by omega) d_Rule_init_28 ?_
  refine qk_put (j := 0) (ty := .array (.int)) (v := qr (some (o + 4))) hx hb hts hin_7 ty_7 tyok_7 nm_7 hown hK (by omega) rfl q_s1 rfl 3 (by decide) (hts _ tw_280) (fun _ h => h) hin2 rfl (by decide +kernel) rfl rfl (Nat.le_of_ble_eq_true rfl) d_Rule_init_30 ?_
  refine qj_aload_n hx hb d_Rule_init_33 rfl 0 rfl ?_
  refine qj_bipush (v := 7) hx hb d_Rule_init_34 (by decide) ?_
  refine qk_newa (atype := .int) (ty := .int) (N' := 7) (cA := dA 0) hx hb (by intro q hq; rw [List.mem_singleton.mp hq]; show o < o + 5; omega) (hts _ tk_12) rfl (hK.2 0 _ rfl).2 (en_23 (tc_18_5 ho) _ _) rfl (by decide) rfl (by decide) (by decide) (by decide) (by omega) d_Rule_init_36 ?_
  refine qk_put (j := 0) (ty := .array (.int)) (v := qr (some (o + 5))) hx hb hts hin_7 ty_7 tyok_7 nm_7 hown hK (by omega) rfl q_s1 rfl 4 (by decide) (hts _ tw_281) (fun _ h => h) hin2 rfl (by decide +kernel) rfl rfl (Nat.le_of_ble_eq_true rfl) d_Rule_init_38 ?_
  exact hret _ _ _ _ d_Rule_init_41 (fun H h => qk_done h (by rw [en_18 ho]; rfl))
