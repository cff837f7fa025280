theorem d_Node_leaveParent_0 : decode prog_6_method_5_code 0 = .ok (.aload_n 0, 1) := by decide +kernel
theorem d_Node_leaveParent_1 : decode prog_6_method_5_code 1 = .ok (.getfield 40, 3) := by decide +kernel
theorem d_Node_leaveParent_4 : decode prog_6_method_5_code 4 = .ok (.ifnonnull 4, 3) := by decide +kernel
theorem d_Node_leaveParent_7 : decode prog_6_method_5_code 7 = .ok (.return_, 1) := by decide +kernel
theorem d_Node_leaveParent_8 : decode prog_6_method_5_code 8 = .ok (.aload_n 0, 1) := by decide +kernel
theorem d_Node_leaveParent_9 : decode prog_6_method_5_code 9 = .ok (.getfield 50, 3) := by decide +kernel
theorem d_Node_leaveParent_12 : decode prog_6_method_5_code 12 = .ok (.ifnonnull 17, 3) := by decide +kernel
theorem d_Node_leaveParent_15 : decode prog_6_method_5_code 15 = .ok (.aload_n 0, 1) := by decide +kernel
theorem d_Node_leaveParent_16 : decode prog_6_method_5_code 16 = .ok (.getfield 40, 3) := by decide +kernel
theorem d_Node_leaveParent_19 : decode prog_6_method_5_code 19 = .ok (.aload_n 0, 1) := by decide +kernel
theorem d_Node_leaveParent_20 : decode prog_6_method_5_code 20 = .ok (.getfield 53, 3) := by decide +kernel
theorem d_Node_leaveParent_23 : decode prog_6_method_5_code 23 = .ok (.putfield 44, 3) := by decide +kernel
theorem d_Node_leaveParent_26 : decode prog_6_method_5_code 26 = .ok (.goto 14, 3) := by decide +kernel
theorem d_Node_leaveParent_29 : decode prog_6_method_5_code 29 = .ok (.aload_n 0, 1) := by decide +kernel
theorem d_Node_leaveParent_30 : decode prog_6_method_5_code 30 = .ok (.getfield 50, 3) := by decide +kernel
theorem d_Node_leaveParent_33 : decode prog_6_method_5_code 33 = .ok (.aload_n 0, 1) := by decide +kernel
theorem d_Node_leaveParent_34 : decode prog_6_method_5_code 34 = .ok (.getfield 53, 3) := by decide +kernel
theorem d_Node_leaveParent_37 : decode prog_6_method_5_code 37 = .ok (.putfield 53, 3) := by decide +kernel
theorem d_Node_leaveParent_40 : decode prog_6_method_5_code 40 = .ok (.aload_n 0, 1) := by decide +kernel
theorem d_Node_leaveParent_41 : decode prog_6_method_5_code 41 = .ok (.getfield 53, 3) := by decide +kernel
theorem d_Node_leaveParent_44 : decode prog_6_method_5_code 44 = .ok (.ifnonnull 17, 3) := by decide +kernel
theorem d_Node_leaveParent_47 : decode prog_6_method_5_code 47 = .ok (.aload_n 0, 1) := by decide +kernel
theorem d_Node_leaveParent_48 : decode prog_6_method_5_code 48 = .ok (.getfield 40, 3) := by decide +kernel
theorem d_Node_leaveParent_51 : decode prog_6_method_5_code 51 = .ok (.aload_n 0, 1) := by decide +kernel
theorem d_Node_leaveParent_52 : decode prog_6_method_5_code 52 = .ok (.getfield 50, 3) := by decide +kernel
theorem d_Node_leaveParent_55 : decode prog_6_method_5_code 55 = .ok (.putfield 47, 3) := by decide +kernel
theorem d_Node_leaveParent_58 : decode prog_6_method_5_code 58 = .ok (.goto 14, 3) := by decide +kernel
theorem d_Node_leaveParent_61 : decode prog_6_method_5_code 61 = .ok (.aload_n 0, 1) := by decide +kernel
theorem d_Node_leaveParent_62 : decode prog_6_method_5_code 62 = .ok (.getfield 53, 3) := by decide +kernel
theorem d_Node_leaveParent_65 : decode prog_6_method_5_code 65 = .ok (.aload_n 0, 1) := by decide +kernel
theorem d_Node_leaveParent_66 : decode prog_6_method_5_code 66 = .ok (.getfield 50, 3) := by decide +kernel
theorem d_Node_leaveParent_69 : decode prog_6_method_5_code 69 = .ok (.putfield 50, 3) := by decide +kernel
theorem d_Node_leaveParent_72 : decode prog_6_method_5_code 72 = .ok (.aload_n 0, 1) := by decide +kernel
theorem d_Node_leaveParent_73 : decode prog_6_method_5_code 73 = .ok (.aconst_null, 1) := by decide +kernel
theorem d_Node_leaveParent_74 : decode prog_6_method_5_code 74 = .ok (.putfield 40, 3) := by decide +kernel
theorem d_Node_leaveParent_77 : decode prog_6_method_5_code 77 = .ok (.aload_n 0, 1) := by decide +kernel
theorem d_Node_leaveParent_78 : decode prog_6_method_5_code 78 = .ok (.aconst_null, 1) := by decide +kernel
theorem d_Node_leaveParent_79 : decode prog_6_method_5_code 79 = .ok (.putfield 50, 3) := by decide +kernel
theorem d_Node_leaveParent_82 : decode prog_6_method_5_code 82 = .ok (.aload_n 0, 1) := by decide +kernel
theorem d_Node_leaveParent_83 : decode prog_6_method_5_code 83 = .ok (.aconst_null, 1) := by decide +kernel
theorem d_Node_leaveParent_84 : decode prog_6_method_5_code 84 = .ok (.putfield 53, 3) := by decide +kernel
theorem d_Node_leaveParent_87 : decode prog_6_method_5_code 87 = .ok (.return_, 1) := by decide +kernel
def f_Node_leaveParent (q0 : Nat) (M : qM) : Option qM := q_lt (M.2 q0 4) fun r1 => q_on r1 (some M) fun o2 => (q_lt (M.2 q0 7) fun r3 => q_lt (fun (M4 : qM) => q_lt (M4.2 q0 8) fun r5 => q_lt (fun (M6 : qM) => q_lt (qsR M6 q0 4 none) fun M7 => q_lt (qsR M7 q0 7 none) fun M8 => q_lt (qsR M8 q0 8 none) fun M9 => some M9) fun (j10 : qM → Option qM) => q_on r5 (q_lt (M4.2 q0 4) fun r12 => q_lt (M4.2 q0 7) fun r13 => q_nn r12 fun o14 => q_lt (qsR M4 o14 6 r13) fun M15 => j10 M15) fun o11 => (q_lt (M4.2 q0 8) fun r16 => q_lt (M4.2 q0 7) fun r17 => q_nn r16 fun o18 => q_lt (qsR M4 o18 7 r17) fun M19 => j10 M19)) fun (j21 : qM → Option qM) => q_on r3 (q_lt (M.2 q0 4) fun r23 => q_lt (M.2 q0 8) fun r24 => q_nn r23 fun o25 => q_lt (qsR M o25 5 r24) fun M26 => j21 M26) fun o22 => (q_lt (M.2 q0 7) fun r27 => q_lt (M.2 q0 8) fun r28 => q_nn r27 fun o29 => q_lt (qsR M o29 8 r28) fun M30 => j21 M30))
abbrev rm_Node_leaveParent : Room := { frames := 0, cells := 0, slots := 0, locals := 0 }
set_option maxRecDepth 100000 in
set_option maxHeartbeats 4000000 in
theorem c_Node_leaveParent {l : Launch} {D : va_G} {dA : Nat → ClassId} {b : Nat} {adK adV : Nat → Nat} (q0 : Nat) (tq0 : tcX q0 = 7) (M : qM) (out : qM) (hf : f_Node_leaveParent q0 M = some out) : CTv l y_Node_leaveParent w_Node_leaveParent rm_Node_leaveParent D (tysX dA) (enX dA b) 367 b (qX adK adV 367 b) [qr (some q0)] M out := by
  refine qm_v (cc := prog_6_method_5_code) (nL := 1) (by decide) rfl (Nat.le_of_ble_eq_true rfl) ?_
  intro p e s m args below meth c Q hx hb hts0 hown hml hK hs hret
  have hts : ∀ w ∈ lw_g, w.before args s = true := fun w h => hts0 w (List.mem_cons_of_mem _ h)
  show QJ p l e rm_Node_leaveParent s m args below meth c (qA 367 b) b 1 0 0 Q (qWd D (enX dA b) 367 b) M 0 [(0, qr (some q0))] []
  unfold f_Node_leaveParent at hf
  refine qj_aload_n hx hb d_Node_leaveParent_0 rfl 0 rfl ?_
  have hf9 := q_lt_s hf; clear hf; obtain ⟨r1, er1, hf⟩ := hf9
  refine qj_w fun w => ?_
  have tr1 : ∀ o, r1 = some o → tcX o = 7 := fun o h => (w _ _ o (er1.symm.trans h)).trans (by rw [tq0] <;> rfl)
  refine qj_get hx hb hts hin_3 hown hK (q_in tq0 (by decide)) (en_7 tq0) rfl 4 (by decide) (hts _ tw_26) (fun _ h => h) (qr r1) (by rw [er1]; rfl) d_Node_leaveParent_1 ?_
  refine qj_ifnonnull (tgt := 8) hx hb d_Node_leaveParent_4 (by decide) (fun o2 hn32 => ?_) (fun hn32 => ?_)
  · subst hn32
    replace hf := q_on_s hf
    refine qj_aload_n hx hb d_Node_leaveParent_8 rfl 0 rfl ?_
    have hf9 := q_lt_s hf; clear hf; obtain ⟨r3, er3, hf⟩ := hf9
    refine qj_w fun w => ?_
    have tr3 : ∀ o, r3 = some o → tcX o = 7 := fun o h => (w _ _ o (er3.symm.trans h)).trans (by rw [tq0] <;> rfl)
    refine qj_get hx hb hts hin_3 hown hK (q_in tq0 (by decide)) (en_7 tq0) rfl 7 (by decide) (hts _ tw_29) (fun _ h => h) (qr r3) (by rw [er3]; rfl) d_Node_leaveParent_9 ?_
    have hf9 := q_lt_s hf; clear hf; obtain ⟨j21, ej21, hf⟩ := hf9
    have hj21 : ∀ (M4 : qM), j21 M4 = some out → QJ p l e rm_Node_leaveParent s m args below meth c (qA 367 b) b 1 0 0 Q (qWd D (enX dA b) 367 b) M4 40 [(0, qr (some q0))] [] := by
      clear hf
      intro M4 hf
      rw [ej21] at hf
      refine qj_aload_n hx hb d_Node_leaveParent_40 rfl 0 rfl ?_
      have hf9 := q_lt_s hf; clear hf; obtain ⟨r5, er5, hf⟩ := hf9
      refine qj_w fun w => ?_
      have tr5 : ∀ o, r5 = some o → tcX o = 7 := fun o h => (w _ _ o (er5.symm.trans h)).trans (by rw [tq0] <;> rfl)
      refine qj_get hx hb hts hin_3 hown hK (q_in tq0 (by decide)) (en_7 tq0) rfl 8 (by decide) (hts _ tw_30) (fun _ h => h) (qr r5) (by rw [er5]; rfl) d_Node_leaveParent_41 ?_
      have hf9 := q_lt_s hf; clear hf; obtain ⟨j10, ej10, hf⟩ := hf9
      have hj10 : ∀ (M6 : qM), j10 M6 = some out → QJ p l e rm_Node_leaveParent s m args below meth c (qA 367 b) b 1 0 0 Q (qWd D (enX dA b) 367 b) M6 72 [(0, qr (some q0))] [] := by
        clear hf
        intro M6 hf
        rw [ej10] at hf
        refine qj_aload_n hx hb d_Node_leaveParent_72 rfl 0 rfl ?_
        refine qj_null hx hb d_Node_leaveParent_73 ?_
        have hf9 := q_lt_s hf; clear hf; obtain ⟨M7, eM7, hf⟩ := hf9
        refine qj_putr (Cr := "PlainPage$Node") hx hb hts hin_3 ty_3 tyok_3 nm_3 hown hK (q_in tq0 (by decide)) (en_7 tq0) rfl 4 (by decide) (hts _ tw_26) (fun _ h => h) rfl (by decide +kernel) (Nat.le_of_ble_eq_true rfl) (sp_7_4 tq0) (fun o h => (q_tn o h).trans (by rw [tq0] <;> rfl)) eM7 d_Node_leaveParent_74 ?_
        refine qj_aload_n hx hb d_Node_leaveParent_77 rfl 0 rfl ?_
        refine qj_null hx hb d_Node_leaveParent_78 ?_
        have hf9 := q_lt_s hf; clear hf; obtain ⟨M8, eM8, hf⟩ := hf9
        refine qj_putr (Cr := "PlainPage$Node") hx hb hts hin_3 ty_3 tyok_3 nm_3 hown hK (q_in tq0 (by decide)) (en_7 tq0) rfl 7 (by decide) (hts _ tw_29) (fun _ h => h) rfl (by decide +kernel) (Nat.le_of_ble_eq_true rfl) (sp_7_7 tq0) (fun o h => (q_tn o h).trans (by rw [tq0] <;> rfl)) eM8 d_Node_leaveParent_79 ?_
        refine qj_aload_n hx hb d_Node_leaveParent_82 rfl 0 rfl ?_
        refine qj_null hx hb d_Node_leaveParent_83 ?_
        have hf9 := q_lt_s hf; clear hf; obtain ⟨M9, eM9, hf⟩ := hf9
        refine qj_putr (Cr := "PlainPage$Node") hx hb hts hin_3 ty_3 tyok_3 nm_3 hown hK (q_in tq0 (by decide)) (en_7 tq0) rfl 8 (by decide) (hts _ tw_30) (fun _ h => h) rfl (by decide +kernel) (Nat.le_of_ble_eq_true rfl) (sp_7_8 tq0) (fun o h => (q_tn o h).trans (by rw [tq0] <;> rfl)) eM9 d_Node_leaveParent_84 ?_
        exact hret _ _ _ d_Node_leaveParent_87 (Option.some.inj hf)
      refine qj_ifnonnull (tgt := 61) hx hb d_Node_leaveParent_44 (by decide) (fun o11 hn20 => ?_) (fun hn20 => ?_)
      · subst hn20
        replace hf := q_on_s hf
        refine qj_aload_n hx hb d_Node_leaveParent_61 rfl 0 rfl ?_
        have hf9 := q_lt_s hf; clear hf; obtain ⟨r16, er16, hf⟩ := hf9
        refine qj_w fun w => ?_
        have tr16 : ∀ o, r16 = some o → tcX o = 7 := fun o h => (w _ _ o (er16.symm.trans h)).trans (by rw [tq0] <;> rfl)
        refine qj_get hx hb hts hin_3 hown hK (q_in tq0 (by decide)) (en_7 tq0) rfl 8 (by decide) (hts _ tw_30) (fun _ h => h) (qr r16) (by rw [er16]; rfl) d_Node_leaveParent_62 ?_
        refine qj_aload_n hx hb d_Node_leaveParent_65 rfl 0 rfl ?_
        have hf9 := q_lt_s hf; clear hf; obtain ⟨r17, er17, hf⟩ := hf9
        refine qj_w fun w => ?_
        have tr17 : ∀ o, r17 = some o → tcX o = 7 := fun o h => (w _ _ o (er17.symm.trans h)).trans (by rw [tq0] <;> rfl)
        refine qj_get hx hb hts hin_3 hown hK (q_in tq0 (by decide)) (en_7 tq0) rfl 7 (by decide) (hts _ tw_29) (fun _ h => h) (qr r17) (by rw [er17]; rfl) d_Node_leaveParent_66 ?_
        have hf9 := q_nn_s hf; clear hf; obtain ⟨o18, rfl, hf⟩ := hf9
        have hf9 := q_lt_s hf; clear hf; obtain ⟨M19, eM19, hf⟩ := hf9
        refine qj_putr (Cr := "PlainPage$Node") hx hb hts hin_3 ty_3 tyok_3 nm_3 hown hK (q_in (tr16 _ rfl) (by decide)) (en_7 (tr16 _ rfl)) rfl 7 (by decide) (hts _ tw_29) (fun _ h => h) rfl (by decide +kernel) (Nat.le_of_ble_eq_true rfl) (sp_7_7 (tr16 _ rfl)) (fun o h => (tr17 o h).trans (by rw [(tr16 _ rfl)] <;> rfl)) eM19 d_Node_leaveParent_69 ?_
        exact hj10 M19 hf
      · subst hn20
        replace hf := q_on_n hf
        refine qj_aload_n hx hb d_Node_leaveParent_47 rfl 0 rfl ?_
        have hf9 := q_lt_s hf; clear hf; obtain ⟨r12, er12, hf⟩ := hf9
        refine qj_w fun w => ?_
        have tr12 : ∀ o, r12 = some o → tcX o = 7 := fun o h => (w _ _ o (er12.symm.trans h)).trans (by rw [tq0] <;> rfl)
        refine qj_get hx hb hts hin_3 hown hK (q_in tq0 (by decide)) (en_7 tq0) rfl 4 (by decide) (hts _ tw_26) (fun _ h => h) (qr r12) (by rw [er12]; rfl) d_Node_leaveParent_48 ?_
        refine qj_aload_n hx hb d_Node_leaveParent_51 rfl 0 rfl ?_
        have hf9 := q_lt_s hf; clear hf; obtain ⟨r13, er13, hf⟩ := hf9
        refine qj_w fun w => ?_
        have tr13 : ∀ o, r13 = some o → tcX o = 7 := fun o h => (w _ _ o (er13.symm.trans h)).trans (by rw [tq0] <;> rfl)
        refine qj_get hx hb hts hin_3 hown hK (q_in tq0 (by decide)) (en_7 tq0) rfl 7 (by decide) (hts _ tw_29) (fun _ h => h) (qr r13) (by rw [er13]; rfl) d_Node_leaveParent_52 ?_
        have hf9 := q_nn_s hf; clear hf; obtain ⟨o14, rfl, hf⟩ := hf9
        have hf9 := q_lt_s hf; clear hf; obtain ⟨M15, eM15, hf⟩ := hf9
        refine qj_putr (Cr := "PlainPage$Node") hx hb hts hin_3 ty_3 tyok_3 nm_3 hown hK (q_in (tr12 _ rfl) (by decide)) (en_7 (tr12 _ rfl)) rfl 6 (by decide) (hts _ tw_28) (fun _ h => h) rfl (by decide +kernel) (Nat.le_of_ble_eq_true rfl) (sp_7_6 (tr12 _ rfl)) (fun o h => (tr13 o h).trans (by rw [(tr12 _ rfl)] <;> rfl)) eM15 d_Node_leaveParent_55 ?_
        refine qj_goto (tgt := 72) hx hb d_Node_leaveParent_58 (by decide) ?_
        exact hj10 M15 hf
    refine qj_ifnonnull (tgt := 29) hx hb d_Node_leaveParent_12 (by decide) (fun o22 hn31 => ?_) (fun hn31 => ?_)
    · subst hn31
      replace hf := q_on_s hf
      refine qj_aload_n hx hb d_Node_leaveParent_29 rfl 0 rfl ?_
      have hf9 := q_lt_s hf; clear hf; obtain ⟨r27, er27, hf⟩ := hf9
      refine qj_w fun w => ?_
      have tr27 : ∀ o, r27 = some o → tcX o = 7 := fun o h => (w _ _ o (er27.symm.trans h)).trans (by rw [tq0] <;> rfl)
      refine qj_get hx hb hts hin_3 hown hK (q_in tq0 (by decide)) (en_7 tq0) rfl 7 (by decide) (hts _ tw_29) (fun _ h => h) (qr r27) (by rw [er27]; rfl) d_Node_leaveParent_30 ?_
      refine qj_aload_n hx hb d_Node_leaveParent_33 rfl 0 rfl ?_
      have hf9 := q_lt_s hf; clear hf; obtain ⟨r28, er28, hf⟩ := hf9
      refine qj_w fun w => ?_
      have tr28 : ∀ o, r28 = some o → tcX o = 7 := fun o h => (w _ _ o (er28.symm.trans h)).trans (by rw [tq0] <;> rfl)
      refine qj_get hx hb hts hin_3 hown hK (q_in tq0 (by decide)) (en_7 tq0) rfl 8 (by decide) (hts _ tw_30) (fun _ h => h) (qr r28) (by rw [er28]; rfl) d_Node_leaveParent_34 ?_
      have hf9 := q_nn_s hf; clear hf; obtain ⟨o29, rfl, hf⟩ := hf9
      have hf9 := q_lt_s hf; clear hf; obtain ⟨M30, eM30, hf⟩ := hf9
      refine qj_putr (Cr := "PlainPage$Node") hx hb hts hin_3 ty_3 tyok_3 nm_3 hown hK (q_in (tr27 _ rfl) (by decide)) (en_7 (tr27 _ rfl)) rfl 8 (by decide) (hts _ tw_30) (fun _ h => h) rfl (by decide +kernel) (Nat.le_of_ble_eq_true rfl) (sp_7_8 (tr27 _ rfl)) (fun o h => (tr28 o h).trans (by rw [(tr27 _ rfl)] <;> rfl)) eM30 d_Node_leaveParent_37 ?_
      exact hj21 M30 hf
    · subst hn31
      replace hf := q_on_n hf
      refine qj_aload_n hx hb d_Node_leaveParent_15 rfl 0 rfl ?_
      have hf9 := q_lt_s hf; clear hf; obtain ⟨r23, er23, hf⟩ := hf9
      refine qj_w fun w => ?_
      have tr23 : ∀ o, r23 = some o → tcX o = 7 := fun o h => (w _ _ o (er23.symm.trans h)).trans (by rw [tq0] <;> rfl)
      refine qj_get hx hb hts hin_3 hown hK (q_in tq0 (by decide)) (en_7 tq0) rfl 4 (by decide) (hts _ tw_26) (fun _ h => h) (qr r23) (by rw [er23]; rfl) d_Node_leaveParent_16 ?_
      refine qj_aload_n hx hb d_Node_leaveParent_19 rfl 0 rfl ?_
      have hf9 := q_lt_s hf; clear hf; obtain ⟨r24, er24, hf⟩ := hf9
      refine qj_w fun w => ?_
      have tr24 : ∀ o, r24 = some o → tcX o = 7 := fun o h => (w _ _ o (er24.symm.trans h)).trans (by rw [tq0] <;> rfl)
      refine qj_get hx hb hts hin_3 hown hK (q_in tq0 (by decide)) (en_7 tq0) rfl 8 (by decide) (hts _ tw_30) (fun _ h => h) (qr r24) (by rw [er24]; rfl) d_Node_leaveParent_20 ?_
      have hf9 := q_nn_s hf; clear hf; obtain ⟨o25, rfl, hf⟩ := hf9
      have hf9 := q_lt_s hf; clear hf; obtain ⟨M26, eM26, hf⟩ := hf9
      refine qj_putr (Cr := "PlainPage$Node") hx hb hts hin_3 ty_3 tyok_3 nm_3 hown hK (q_in (tr23 _ rfl) (by decide)) (en_7 (tr23 _ rfl)) rfl 5 (by decide) (hts _ tw_27) (fun _ h => h) rfl (by decide +kernel) (Nat.le_of_ble_eq_true rfl) (sp_7_5 (tr23 _ rfl)) (fun o h => (tr24 o h).trans (by rw [(tr23 _ rfl)] <;> rfl)) eM26 d_Node_leaveParent_23 ?_
      refine qj_goto (tgt := 40) hx hb d_Node_leaveParent_26 (by decide) ?_
      exact hj21 M26 hf
  · subst hn32
    replace hf := q_on_n hf
    exact hret _ _ _ d_Node_leaveParent_7 (Option.some.inj hf)
theorem d_Node_giveChildrenTo_0 : decode prog_6_method_6_code 0 = .ok (.aload_n 0, 1) := by decide +kernel
theorem d_Node_giveChildrenTo_1 : decode prog_6_method_6_code 1 = .ok (.getfield 44, 3) := by decide +kernel
theorem d_Node_giveChildrenTo_4 : decode prog_6_method_6_code 4 = .ok (.astore_n 2, 1) := by decide +kernel
theorem d_Node_giveChildrenTo_5 : decode prog_6_method_6_code 5 = .ok (.aload_n 2, 1) := by decide +kernel
theorem d_Node_giveChildrenTo_6 : decode prog_6_method_6_code 6 = .ok (.ifnull 16, 3) := by decide +kernel
theorem d_Node_giveChildrenTo_9 : decode prog_6_method_6_code 9 = .ok (.aload_n 2, 1) := by decide +kernel
theorem d_Node_giveChildrenTo_10 : decode prog_6_method_6_code 10 = .ok (.aload_n 1, 1) := by decide +kernel
theorem d_Node_giveChildrenTo_11 : decode prog_6_method_6_code 11 = .ok (.putfield 40, 3) := by decide +kernel
theorem d_Node_giveChildrenTo_14 : decode prog_6_method_6_code 14 = .ok (.aload_n 2, 1) := by decide +kernel
theorem d_Node_giveChildrenTo_15 : decode prog_6_method_6_code 15 = .ok (.getfield 53, 3) := by decide +kernel
theorem d_Node_giveChildrenTo_18 : decode prog_6_method_6_code 18 = .ok (.astore_n 2, 1) := by decide +kernel
theorem d_Node_giveChildrenTo_19 : decode prog_6_method_6_code 19 = .ok (.goto (-14), 3) := by decide +kernel
theorem d_Node_giveChildrenTo_22 : decode prog_6_method_6_code 22 = .ok (.aload_n 1, 1) := by decide +kernel
theorem d_Node_giveChildrenTo_23 : decode prog_6_method_6_code 23 = .ok (.aload_n 0, 1) := by decide +kernel
theorem d_Node_giveChildrenTo_24 : decode prog_6_method_6_code 24 = .ok (.getfield 44, 3) := by decide +kernel
theorem d_Node_giveChildrenTo_27 : decode prog_6_method_6_code 27 = .ok (.putfield 44, 3) := by decide +kernel
theorem d_Node_giveChildrenTo_30 : decode prog_6_method_6_code 30 = .ok (.aload_n 1, 1) := by decide +kernel
theorem d_Node_giveChildrenTo_31 : decode prog_6_method_6_code 31 = .ok (.aload_n 0, 1) := by decide +kernel
theorem d_Node_giveChildrenTo_32 : decode prog_6_method_6_code 32 = .ok (.getfield 47, 3) := by decide +kernel
theorem d_Node_giveChildrenTo_35 : decode prog_6_method_6_code 35 = .ok (.putfield 47, 3) := by decide +kernel
theorem d_Node_giveChildrenTo_38 : decode prog_6_method_6_code 38 = .ok (.aload_n 0, 1) := by decide +kernel
theorem d_Node_giveChildrenTo_39 : decode prog_6_method_6_code 39 = .ok (.aconst_null, 1) := by decide +kernel
theorem d_Node_giveChildrenTo_40 : decode prog_6_method_6_code 40 = .ok (.putfield 44, 3) := by decide +kernel
theorem d_Node_giveChildrenTo_43 : decode prog_6_method_6_code 43 = .ok (.aload_n 0, 1) := by decide +kernel
theorem d_Node_giveChildrenTo_44 : decode prog_6_method_6_code 44 = .ok (.aconst_null, 1) := by decide +kernel
theorem d_Node_giveChildrenTo_45 : decode prog_6_method_6_code 45 = .ok (.putfield 47, 3) := by decide +kernel
theorem d_Node_giveChildrenTo_48 : decode prog_6_method_6_code 48 = .ok (.return_, 1) := by decide +kernel
def f_Node_giveChildrenTo_5 (q1 : Nat) : Nat → (qM → Option qM) → Option Nat → qM → Option qM
  | 0, _, _, _ => none
  | n + 1, K4, r2, M3 => q_on r2 (K4 M3) fun o5 => (q_lt (qsR M3 o5 4 (some q1)) fun M6 => q_lt (M6.2 o5 8) fun r7 => f_Node_giveChildrenTo_5 q1 n K4 r7 M6)
def f_Node_giveChildrenTo (q0 : Nat) (q1 : Nat) (M : qM) : Option qM := q_lt (M.2 q0 5) fun r1 => f_Node_giveChildrenTo_5 q1 1000 (fun (M9 : qM) => q_lt (M9.2 q0 5) fun r10 => q_lt (qsR M9 q1 5 r10) fun M11 => q_lt (M11.2 q0 6) fun r12 => q_lt (qsR M11 q1 6 r12) fun M13 => q_lt (qsR M13 q0 5 none) fun M14 => q_lt (qsR M14 q0 6 none) fun M15 => some M15) r1 M
abbrev rm_Node_giveChildrenTo : Room := { frames := 0, cells := 0, slots := 0, locals := 0 }
set_option maxRecDepth 100000 in
set_option maxHeartbeats 4000000 in
theorem c_Node_giveChildrenTo {l : Launch} {D : va_G} {dA : Nat → ClassId} {b : Nat} {adK adV : Nat → Nat} (q0 : Nat) (q1 : Nat) (tq0 : tcX q0 = 7) (tq1 : tcX q1 = 7) (M : qM) (out : qM) (hf : f_Node_giveChildrenTo q0 q1 M = some out) : CTv l y_Node_giveChildrenTo w_Node_giveChildrenTo rm_Node_giveChildrenTo D (tysX dA) (enX dA b) 367 b (qX adK adV 367 b) [qr (some q0), qr (some q1)] M out := by
  refine qm_v (cc := prog_6_method_6_code) (nL := 3) (by decide) rfl (Nat.le_of_ble_eq_true rfl) ?_
  intro p e s m args below meth c Q hx hb hts0 hown hml hK hs hret
  have hts : ∀ w ∈ lw_g, w.before args s = true := fun w h => hts0 w (List.mem_cons_of_mem _ h)
  show QJ p l e rm_Node_giveChildrenTo s m args below meth c (qA 367 b) b 3 0 0 Q (qWd D (enX dA b) 367 b) M 0 [(0, qr (some q0)), (1, qr (some q1))] []
  unfold f_Node_giveChildrenTo at hf
  refine qj_aload_n hx hb d_Node_giveChildrenTo_0 rfl 0 rfl ?_
  have hf9 := q_lt_s hf; clear hf; obtain ⟨r1, er1, hf⟩ := hf9
  refine qj_w fun w => ?_
  have tr1 : ∀ o, r1 = some o → tcX o = 7 := fun o h => (w _ _ o (er1.symm.trans h)).trans (by rw [tq0] <;> rfl)
  refine qj_get hx hb hts hin_3 hown hK (q_in tq0 (by decide)) (en_7 tq0) rfl 5 (by decide) (hts _ tw_27) (fun _ h => h) (qr r1) (by rw [er1]; rfl) d_Node_giveChildrenTo_1 ?_
  refine qj_astore_n hx hb d_Node_giveChildrenTo_4 rfl (by decide) rfl ?_
  have hL5 : ∀ (n : Nat) (K4 : qM → Option qM), (∀ (M9 : qM), K4 M9 = some out → QJ p l e rm_Node_giveChildrenTo s m args below meth c (qA 367 b) b 3 0 0 Q (qWd D (enX dA b) 367 b) M9 22 [(0, qr (some q0)), (1, qr (some q1))] []) → ∀ (r2 : Option Nat) (M3 : qM), (∀ o, r2 = some o → tcX o = 7) → f_Node_giveChildrenTo_5 q1 n K4 r2 M3 = some out → QJ p l e rm_Node_giveChildrenTo s m args below meth c (qA 367 b) b 3 0 0 Q (qWd D (enX dA b) 367 b) M3 5 [(0, qr (some q0)), (1, qr (some q1)), (2, qr r2)] [] := by
    clear hf
    intro n
    induction n with
    | zero =>
      intro K4 hK4 r2 M3 tr2 hf
      exact absurd hf (by simp [f_Node_giveChildrenTo_5])
    | succ n ih5 =>
      intro K4 hK4 r2 M3 tr2 hf
      rw [f_Node_giveChildrenTo_5] at hf
      have ih5 := ih5 K4 hK4
      refine qj_aload_n hx hb d_Node_giveChildrenTo_5 rfl 2 rfl ?_
      refine qj_ifnull (tgt := 22) hx hb d_Node_giveChildrenTo_6 (by decide) (fun hn8 => ?_) (fun o5 hn8 => ?_)
      · subst hn8
        replace hf := q_on_n hf
        refine qj_sub [0, 1] rfl ?_
        exact hK4 M3 hf
      · subst hn8
        replace hf := q_on_s hf
        refine qj_aload_n hx hb d_Node_giveChildrenTo_9 rfl 2 rfl ?_
        refine qj_aload_n hx hb d_Node_giveChildrenTo_10 rfl 1 rfl ?_
        have hf9 := q_lt_s hf; clear hf; obtain ⟨M6, eM6, hf⟩ := hf9
        refine qj_putr (Cr := "PlainPage$Node") hx hb hts hin_3 ty_3 tyok_3 nm_3 hown hK (q_in (tr2 _ rfl) (by decide)) (en_7 (tr2 _ rfl)) rfl 4 (by decide) (hts _ tw_26) (fun _ h => h) rfl (by decide +kernel) (Nat.le_of_ble_eq_true rfl) (sp_7_4 (tr2 _ rfl)) (fun o h => ((q_ts tq1) o h).trans (by rw [(tr2 _ rfl)] <;> rfl)) eM6 d_Node_giveChildrenTo_11 ?_
        refine qj_aload_n hx hb d_Node_giveChildrenTo_14 rfl 2 rfl ?_
        have hf9 := q_lt_s hf; clear hf; obtain ⟨r7, er7, hf⟩ := hf9
        refine qj_w fun w => ?_
        have tr7 : ∀ o, r7 = some o → tcX o = 7 := fun o h => (w _ _ o (er7.symm.trans h)).trans (by rw [(tr2 _ rfl)] <;> rfl)
        refine qj_get hx hb hts hin_3 hown hK (q_in (tr2 _ rfl) (by decide)) (en_7 (tr2 _ rfl)) rfl 8 (by decide) (hts _ tw_30) (fun _ h => h) (qr r7) (by rw [er7]; rfl) d_Node_giveChildrenTo_15 ?_
        refine qj_astore_n hx hb d_Node_giveChildrenTo_18 rfl (by decide) rfl ?_
        refine qj_goto (tgt := 5) hx hb d_Node_giveChildrenTo_19 (by decide) ?_
        refine qj_sub [1, 2, 0] rfl ?_
        exact ih5 r7 M6 tr7 hf
  refine qj_sub [1, 2, 0] rfl ?_
  refine hL5 _ _ (fun M9 hf9 => ?_) r1 M tr1 hf
  clear hf; have hf := hf9; clear hf9
  refine qj_aload_n hx hb d_Node_giveChildrenTo_22 rfl 1 rfl ?_
  refine qj_aload_n hx hb d_Node_giveChildrenTo_23 rfl 0 rfl ?_
  have hf9 := q_lt_s hf; clear hf; obtain ⟨r10, er10, hf⟩ := hf9
  refine qj_w fun w => ?_
  have tr10 : ∀ o, r10 = some o → tcX o = 7 := fun o h => (w _ _ o (er10.symm.trans h)).trans (by rw [tq0] <;> rfl)
  refine qj_get hx hb hts hin_3 hown hK (q_in tq0 (by decide)) (en_7 tq0) rfl 5 (by decide) (hts _ tw_27) (fun _ h => h) (qr r10) (by rw [er10]; rfl) d_Node_giveChildrenTo_24 ?_
  have hf9 := q_lt_s hf; clear hf; obtain ⟨M11, eM11, hf⟩ := hf9
  refine qj_putr (Cr := "PlainPage$Node") hx hb hts hin_3 ty_3 tyok_3 nm_3 hown hK (q_in tq1 (by decide)) (en_7 tq1) rfl 5 (by decide) (hts _ tw_27) (fun _ h => h) rfl (by decide +kernel) (Nat.le_of_ble_eq_true rfl) (sp_7_5 tq1) (fun o h => (tr10 o h).trans (by rw [tq1] <;> rfl)) eM11 d_Node_giveChildrenTo_27 ?_
  refine qj_aload_n hx hb d_Node_giveChildrenTo_30 rfl 1 rfl ?_
  refine qj_aload_n hx hb d_Node_giveChildrenTo_31 rfl 0 rfl ?_
  have hf9 := q_lt_s hf; clear hf; obtain ⟨r12, er12, hf⟩ := hf9
  refine qj_w fun w => ?_
  have tr12 : ∀ o, r12 = some o → tcX o = 7 := fun o h => (w _ _ o (er12.symm.trans h)).trans (by rw [tq0] <;> rfl)
  refine qj_get hx hb hts hin_3 hown hK (q_in tq0 (by decide)) (en_7 tq0) rfl 6 (by decide) (hts _ tw_28) (fun _ h => h) (qr r12) (by rw [er12]; rfl) d_Node_giveChildrenTo_32 ?_
  have hf9 := q_lt_s hf; clear hf; obtain ⟨M13, eM13, hf⟩ := hf9
  refine qj_putr (Cr := "PlainPage$Node") hx hb hts hin_3 ty_3 tyok_3 nm_3 hown hK (q_in tq1 (by decide)) (en_7 tq1) rfl 6 (by decide) (hts _ tw_28) (fun _ h => h) rfl (by decide +kernel) (Nat.le_of_ble_eq_true rfl) (sp_7_6 tq1) (fun o h => (tr12 o h).trans (by rw [tq1] <;> rfl)) eM13 d_Node_giveChildrenTo_35 ?_
  refine qj_aload_n hx hb d_Node_giveChildrenTo_38 rfl 0 rfl ?_
  refine qj_null hx hb d_Node_giveChildrenTo_39 ?_
  have hf9 := q_lt_s hf; clear hf; obtain ⟨M14, eM14, hf⟩ := hf9
  refine qj_putr (Cr := "PlainPage$Node") hx hb hts hin_3 ty_3 tyok_3 nm_3 hown hK (q_in tq0 (by decide)) (en_7 tq0) rfl 5 (by decide) (hts _ tw_27) (fun _ h => h) rfl (by decide +kernel) (Nat.le_of_ble_eq_true rfl) (sp_7_5 tq0) (fun o h => (q_tn o h).trans (by rw [tq0] <;> rfl)) eM14 d_Node_giveChildrenTo_40 ?_
  refine qj_aload_n hx hb d_Node_giveChildrenTo_43 rfl 0 rfl ?_
  refine qj_null hx hb d_Node_giveChildrenTo_44 ?_
  have hf9 := q_lt_s hf; clear hf; obtain ⟨M15, eM15, hf⟩ := hf9
  refine qj_putr (Cr := "PlainPage$Node") hx hb hts hin_3 ty_3 tyok_3 nm_3 hown hK (q_in tq0 (by decide)) (en_7 tq0) rfl 6 (by decide) (hts _ tw_28) (fun _ h => h) rfl (by decide +kernel) (Nat.le_of_ble_eq_true rfl) (sp_7_6 tq0) (fun o h => (q_tn o h).trans (by rw [tq0] <;> rfl)) eM15 d_Node_giveChildrenTo_45 ?_
  exact hret _ _ _ d_Node_giveChildrenTo_48 (Option.some.inj hf)
theorem d_Tree_adopt_0 : decode prog_11_method_11_code 0 = .ok (.aload_n 0, 1) := by decide +kernel
theorem d_Tree_adopt_1 : decode prog_11_method_11_code 1 = .ok (.getfield 29, 3) := by decide +kernel
theorem d_Tree_adopt_4 : decode prog_11_method_11_code 4 = .ok (.aload_n 1, 1) := by decide +kernel
theorem d_Tree_adopt_5 : decode prog_11_method_11_code 5 = .ok (.invokevirtual 163, 3) := by decide +kernel
theorem d_Tree_adopt_8 : decode prog_11_method_11_code 8 = .ok (.istore_n 3, 1) := by decide +kernel
theorem d_Tree_adopt_9 : decode prog_11_method_11_code 9 = .ok (.aload_n 0, 1) := by decide +kernel
theorem d_Tree_adopt_10 : decode prog_11_method_11_code 10 = .ok (.getfield 29, 3) := by decide +kernel
theorem d_Tree_adopt_13 : decode prog_11_method_11_code 13 = .ok (.iload_n 3, 1) := by decide +kernel
theorem d_Tree_adopt_14 : decode prog_11_method_11_code 14 = .ok (.aload_n 0, 1) := by decide +kernel
theorem d_Tree_adopt_15 : decode prog_11_method_11_code 15 = .ok (.getfield 29, 3) := by decide +kernel
theorem d_Tree_adopt_18 : decode prog_11_method_11_code 18 = .ok (.aload_n 2, 1) := by decide +kernel
theorem d_Tree_adopt_19 : decode prog_11_method_11_code 19 = .ok (.invokevirtual 163, 3) := by decide +kernel
theorem d_Tree_adopt_22 : decode prog_11_method_11_code 22 = .ok (.invokevirtual 167, 3) := by decide +kernel
theorem d_Tree_adopt_25 : decode prog_11_method_11_code 25 = .ok (.aload_n 2, 1) := by decide +kernel
theorem d_Tree_adopt_26 : decode prog_11_method_11_code 26 = .ok (.invokevirtual 170, 3) := by decide +kernel
theorem d_Tree_adopt_29 : decode prog_11_method_11_code 29 = .ok (.aload_n 0, 1) := by decide +kernel
theorem d_Tree_adopt_30 : decode prog_11_method_11_code 30 = .ok (.aload_n 2, 1) := by decide +kernel
theorem d_Tree_adopt_31 : decode prog_11_method_11_code 31 = .ok (.iload_n 3, 1) := by decide +kernel
theorem d_Tree_adopt_32 : decode prog_11_method_11_code 32 = .ok (.invokevirtual 173, 3) := by decide +kernel
theorem d_Tree_adopt_35 : decode prog_11_method_11_code 35 = .ok (.aload_n 0, 1) := by decide +kernel
theorem d_Tree_adopt_36 : decode prog_11_method_11_code 36 = .ok (.aload_n 1, 1) := by decide +kernel
theorem d_Tree_adopt_37 : decode prog_11_method_11_code 37 = .ok (.getfield 177, 3) := by decide +kernel
theorem d_Tree_adopt_40 : decode prog_11_method_11_code 40 = .ok (.aload_n 1, 1) := by decide +kernel
theorem d_Tree_adopt_41 : decode prog_11_method_11_code 41 = .ok (.getfield 180, 3) := by decide +kernel
theorem d_Tree_adopt_44 : decode prog_11_method_11_code 44 = .ok (.invokevirtual 183, 3) := by decide +kernel
theorem d_Tree_adopt_47 : decode prog_11_method_11_code 47 = .ok (.astore 4, 2) := by decide +kernel
theorem d_Tree_adopt_49 : decode prog_11_method_11_code 49 = .ok (.aload 4, 2) := by decide +kernel
theorem d_Tree_adopt_51 : decode prog_11_method_11_code 51 = .ok (.ifnull 16, 3) := by decide +kernel
theorem d_Tree_adopt_54 : decode prog_11_method_11_code 54 = .ok (.aload_n 2, 1) := by decide +kernel
theorem d_Tree_adopt_55 : decode prog_11_method_11_code 55 = .ok (.aload 4, 2) := by decide +kernel
theorem d_Tree_adopt_57 : decode prog_11_method_11_code 57 = .ok (.invokevirtual 186, 3) := by decide +kernel
theorem d_Tree_adopt_60 : decode prog_11_method_11_code 60 = .ok (.aload_n 2, 1) := by decide +kernel
theorem d_Tree_adopt_61 : decode prog_11_method_11_code 61 = .ok (.aload 4, 2) := by decide +kernel
theorem d_Tree_adopt_63 : decode prog_11_method_11_code 63 = .ok (.aconst_null, 1) := by decide +kernel
theorem d_Tree_adopt_64 : decode prog_11_method_11_code 64 = .ok (.invokevirtual 189, 3) := by decide +kernel
theorem d_Tree_adopt_67 : decode prog_11_method_11_code 67 = .ok (.return_, 1) := by decide +kernel
def f_Tree_adopt (q1 : Nat) (q2 : Nat) (M : qM) : Option qM := q_bp (f_OpenStack_indexOf (some q1) M) fun x1 => q_bp (f_OpenStack_indexOf (some q2) M) fun x2 => q_cv (f_OpenStack_takeOut x1 x2 M) fun M3 => q_cv (f_Node_leaveParent q2 M3) fun M4 => q_cv (f_Tree_putAtPlace q2 x1 M4) fun M5 => q_cl (f_Tree_make (M5.1 q1 0) (M5.1 q1 1) M5) fun r6 M7 => q_on r6 (some M7) fun o8 => (q_cv (f_Node_giveChildrenTo q2 o8 M7) fun M9 => q_cv (f_Node_insert q2 o8 none M9) fun M10 => some M10)
abbrev rm_Tree_adopt : Room := { frames := 2, cells := 0, slots := 0, locals := 45 }
set_option maxRecDepth 100000 in
set_option maxHeartbeats 4000000 in
theorem c_Tree_adopt {l : Launch} {D : va_G} {dA : Nat → ClassId} {b : Nat} {adK adV : Nat → Nat} (q1 : Nat) (q2 : Nat) (tq1 : tcX q1 = 7) (tq2 : tcX q2 = 7) (M : qM) (out : qM) (hf : f_Tree_adopt q1 q2 M = some out) : CTv l y_Tree_adopt w_Tree_adopt rm_Tree_adopt D (tysX dA) (enX dA b) 367 b (qX adK adV 367 b) [qr (some 1), qr (some q1), qr (some q2)] M out := by
  refine qm_v (cc := prog_11_method_11_code) (nL := 5) (by decide) rfl (Nat.le_of_ble_eq_true rfl) ?_
  intro p e s m args below meth c Q hx hb hts0 hown hml hK hs hret
  have hts : ∀ w ∈ lw_g, w.before args s = true := fun w h => hts0 w (List.mem_cons_of_mem _ h)
  show QJ p l e rm_Tree_adopt s m args below meth c (qA 367 b) b 5 0 0 Q (qWd D (enX dA b) 367 b) M 0 [(0, qr (some 1)), (1, qr (some q1)), (2, qr (some q2))] []
  unfold f_Tree_adopt at hf
  refine qj_aload_n hx hb d_Tree_adopt_0 rfl 0 rfl ?_
  refine qj_get hx hb hts hin_5 hown hK (q_in (rfl : tcX 1 = 1) (by decide)) (en_1 (rfl : tcX 1 = 1)) rfl 3 (by decide) (hts _ tw_12) (fun _ h => h) (qr (some 5)) rfl d_Tree_adopt_1 ?_
  refine qj_aload_n hx hb d_Tree_adopt_4 rfl 1 rfl ?_
  have hf9 := q_bp_s hf; clear hf; obtain ⟨x1, hx1, hf⟩ := hf9
  refine qc_Vi (st := []) hx hb hml hown hts hK (qX_ok _ _ _ _) hs (c_OpenStack_indexOf (some q1) (q_ts tq1) M _ hx1) ⟨(callB_of 1 hts (q_good tw_119) rfl rfl rfl (hts _ tw_13) (hts _ tw_157) (by decide +kernel) ⟨by decide, by decide⟩), (hts _ tw_121), (hts _ tw_122)⟩ (q_in (rfl : tcX 5 = 5) (by decide)) (en_5 (rfl : tcX 5 = 5)) rfl rfl rfl (Nat.le_of_ble_eq_true rfl) d_Tree_adopt_5 ?_
  refine qj_istore_n hx hb d_Tree_adopt_8 rfl (by decide) rfl ?_
  refine qj_aload_n hx hb d_Tree_adopt_9 rfl 1 rfl ?_
  refine qj_get hx hb hts hin_5 hown hK (q_in (rfl : tcX 1 = 1) (by decide)) (en_1 (rfl : tcX 1 = 1)) rfl 3 (by decide) (hts _ tw_12) (fun _ h => h) (qr (some 5)) rfl d_Tree_adopt_10 ?_
  refine qj_iload_n hx hb d_Tree_adopt_13 rfl 0 rfl ?_
  refine qj_aload_n hx hb d_Tree_adopt_14 rfl 1 rfl ?_
  refine qj_get hx hb hts hin_5 hown hK (q_in (rfl : tcX 1 = 1) (by decide)) (en_1 (rfl : tcX 1 = 1)) rfl 3 (by decide) (hts _ tw_12) (fun _ h => h) (qr (some 5)) rfl d_Tree_adopt_15 ?_
  refine qj_aload_n hx hb d_Tree_adopt_18 rfl 3 rfl ?_
  have hf9 := q_bp_s hf; clear hf; obtain ⟨x2, hx2, hf⟩ := hf9
  refine qc_Vi (st := [qi x1, qr (some 5)]) hx hb hml hown hts hK (qX_ok _ _ _ _) hs (c_OpenStack_indexOf (some q2) (q_ts tq2) M _ hx2) ⟨(callB_of 1 hts (q_good tw_119) rfl rfl rfl (hts _ tw_13) (hts _ tw_157) (by decide +kernel) ⟨by decide, by decide⟩), (hts _ tw_121), (hts _ tw_122)⟩ (q_in (rfl : tcX 5 = 5) (by decide)) (en_5 (rfl : tcX 5 = 5)) rfl rfl rfl (Nat.le_of_ble_eq_true rfl) d_Tree_adopt_19 ?_
  have hf9 := q_cv_s hf; clear hf; obtain ⟨M3, hM3, hf⟩ := hf9
  refine qc_Vv (st := []) hx hb hml hown hts hK (qX_ok _ _ _ _) hs (c_OpenStack_takeOut x1 x2 M _ hM3) ⟨(callB_of 2 hts (q_good tw_123) rfl rfl rfl (hts _ tw_13) (hts _ tw_158) (by decide +kernel) ⟨by decide, by decide⟩), (hts _ tw_125), (hts _ tw_126)⟩ (q_in (rfl : tcX 5 = 5) (by decide)) (en_5 (rfl : tcX 5 = 5)) rfl rfl rfl (Nat.le_of_ble_eq_true rfl) d_Tree_adopt_22 ?_
  refine qj_aload_n hx hb d_Tree_adopt_25 rfl 3 rfl ?_
  have hf9 := q_cv_s hf; clear hf; obtain ⟨M4, hM4, hf⟩ := hf9
  refine qc_Vv (st := []) hx hb hml hown hts hK (qX_ok _ _ _ _) hs (c_Node_leaveParent q2 tq2 M3 _ hM4) ⟨(callB_of 0 hts (q_good tw_159) rfl rfl rfl (hts _ tw_37) (hts _ tw_160) (by decide +kernel) ⟨by decide, by decide⟩), (hts _ tw_161), (hts _ tw_162)⟩ (q_in tq2 (by decide)) (en_7 tq2) rfl rfl rfl (Nat.le_of_ble_eq_true rfl) d_Tree_adopt_26 ?_
  refine qj_aload_n hx hb d_Tree_adopt_29 rfl 1 rfl ?_
  refine qj_aload_n hx hb d_Tree_adopt_30 rfl 3 rfl ?_
  refine qj_iload_n hx hb d_Tree_adopt_31 rfl 0 rfl ?_
  have hf9 := q_cv_s hf; clear hf; obtain ⟨M5, hM5, hf⟩ := hf9
  refine qc_Vv (st := []) hx hb hml hown hts hK (qX_ok _ _ _ _) hs (c_Tree_putAtPlace q2 x1 tq2 M4 _ hM5) ⟨(callB_of 2 hts (q_good tw_73) rfl rfl rfl (hts _ tw_54) (hts _ tw_74) (by decide +kernel) ⟨by decide, by decide⟩), (hts _ tw_75), (hts _ tw_76)⟩ (q_in (rfl : tcX 1 = 1) (by decide)) (en_1 (rfl : tcX 1 = 1)) rfl rfl rfl (Nat.le_of_ble_eq_true rfl) d_Tree_adopt_32 ?_
  refine qj_aload_n hx hb d_Tree_adopt_35 rfl 1 rfl ?_
  refine qj_aload_n hx hb d_Tree_adopt_36 rfl 2 rfl ?_
  refine qj_get hx hb hts hin_3 hown hK (q_in tq1 (by decide)) (en_7 tq1) rfl 0 (by decide) (hts _ tw_66) (fun _ h => h) (qi (M5.1 q1 0)) rfl d_Tree_adopt_37 ?_
  refine qj_aload_n hx hb d_Tree_adopt_40 rfl 2 rfl ?_
  refine qj_get hx hb hts hin_3 hown hK (q_in tq1 (by decide)) (en_7 tq1) rfl 1 (by decide) (hts _ tw_67) (fun _ h => h) (qi (M5.1 q1 1)) rfl d_Tree_adopt_41 ?_
  have hf9 := q_cl_s hf; clear hf; obtain ⟨r6, M7, hr6, hf⟩ := hf9
  refine qc_Vr (st := []) hx hb hml hown hts hK (qX_ok _ _ _ _) hs (c_Tree_make (M5.1 q1 0) (M5.1 q1 1) M5 _ hr6) ⟨(callB_of 2 hts (q_good tw_68) rfl rfl rfl (hts _ tw_54) (hts _ tw_69) (by decide +kernel) ⟨by decide, by decide⟩), (hts _ tw_70), (hts _ tw_71)⟩ (q_in (rfl : tcX 1 = 1) (by decide)) (en_1 (rfl : tcX 1 = 1)) rfl rfl rfl (Nat.le_of_ble_eq_true rfl) d_Tree_adopt_44 (fun tr6 => ?_)
  refine qj_astore hx hb d_Tree_adopt_47 (by decide) rfl ?_
  refine qj_aload hx hb d_Tree_adopt_49 0 rfl ?_
  refine qj_ifnull (tgt := 67) hx hb d_Tree_adopt_51 (by decide) (fun hn11 => ?_) (fun o8 hn11 => ?_)
  · subst hn11
    replace hf := q_on_n hf
    exact hret _ _ _ d_Tree_adopt_67 (Option.some.inj hf)
  · subst hn11
    replace hf := q_on_s hf
    refine qj_aload_n hx hb d_Tree_adopt_54 rfl 4 rfl ?_
    refine qj_aload hx hb d_Tree_adopt_55 0 rfl ?_
    have hf9 := q_cv_s hf; clear hf; obtain ⟨M9, hM9, hf⟩ := hf9
    refine qc_Vv (st := []) hx hb hml hown hts hK (qX_ok _ _ _ _) hs (c_Node_giveChildrenTo q2 o8 tq2 (tr6 _ rfl) M7 _ hM9) ⟨(callB_of 1 hts (q_good tw_163) rfl rfl rfl (hts _ tw_37) (hts _ tw_164) (by decide +kernel) ⟨by decide, by decide⟩), (hts _ tw_165), (hts _ tw_166)⟩ (q_in tq2 (by decide)) (en_7 tq2) rfl rfl rfl (Nat.le_of_ble_eq_true rfl) d_Tree_adopt_57 ?_
    refine qj_aload_n hx hb d_Tree_adopt_60 rfl 4 rfl ?_
    refine qj_aload hx hb d_Tree_adopt_61 0 rfl ?_
    refine qj_null hx hb d_Tree_adopt_63 ?_
    have hf9 := q_cv_s hf; clear hf; obtain ⟨M10, hM10, hf⟩ := hf9
    refine qc_Vv (st := []) hx hb hml hown hts hK (qX_ok _ _ _ _) hs (c_Node_insert q2 o8 none tq2 (tr6 _ rfl) q_tn M9 _ hM10) ⟨(callB_of 2 hts (q_good tw_48) rfl rfl rfl (hts _ tw_37) (hts _ tw_49) (by decide +kernel) ⟨by decide, by decide⟩), (hts _ tw_50), (hts _ tw_51)⟩ (q_in tq2 (by decide)) (en_7 tq2) rfl rfl rfl (Nat.le_of_ble_eq_true rfl) d_Tree_adopt_64 ?_
    exact hret _ _ _ d_Tree_adopt_67 (Option.some.inj hf)
theorem d_Tree_endOther_0 : decode prog_11_method_10_code 0 = .ok (.aload_n 0, 1) := by decide +kernel
theorem d_Tree_endOther_1 : decode prog_11_method_10_code 1 = .ok (.invokevirtual 114, 3) := by decide +kernel
theorem d_Tree_endOther_4 : decode prog_11_method_10_code 4 = .ok (.astore_n 2, 1) := by decide +kernel
theorem d_Tree_endOther_5 : decode prog_11_method_10_code 5 = .ok (.iload_n 1, 1) := by decide +kernel
theorem d_Tree_endOther_6 : decode prog_11_method_10_code 6 = .ok (.ldc 112, 2) := by decide +kernel
theorem d_Tree_endOther_8 : decode prog_11_method_10_code 8 = .ok (.invokestatic 83, 3) := by decide +kernel
theorem d_Tree_endOther_11 : decode prog_11_method_10_code 11 = .ok (.ifCond .eq 11, 3) := by decide +kernel
theorem d_Tree_endOther_14 : decode prog_11_method_10_code 14 = .ok (.aload_n 2, 1) := by decide +kernel
theorem d_Tree_endOther_15 : decode prog_11_method_10_code 15 = .ok (.iload_n 1, 1) := by decide +kernel
theorem d_Tree_endOther_16 : decode prog_11_method_10_code 16 = .ok (.invokevirtual 144, 3) := by decide +kernel
theorem d_Tree_endOther_19 : decode prog_11_method_10_code 19 = .ok (.goto 4, 3) := by decide +kernel
theorem d_Tree_endOther_22 : decode prog_11_method_10_code 22 = .ok (.aconst_null, 1) := by decide +kernel
theorem d_Tree_endOther_23 : decode prog_11_method_10_code 23 = .ok (.astore_n 3, 1) := by decide +kernel
theorem d_Tree_endOther_24 : decode prog_11_method_10_code 24 = .ok (.aload_n 3, 1) := by decide +kernel
theorem d_Tree_endOther_25 : decode prog_11_method_10_code 25 = .ok (.ifnonnull 21, 3) := by decide +kernel
theorem d_Tree_endOther_28 : decode prog_11_method_10_code 28 = .ok (.aload_n 0, 1) := by decide +kernel
theorem d_Tree_endOther_29 : decode prog_11_method_10_code 29 = .ok (.getfield 29, 3) := by decide +kernel
theorem d_Tree_endOther_32 : decode prog_11_method_10_code 32 = .ok (.aload_n 0, 1) := by decide +kernel
theorem d_Tree_endOther_33 : decode prog_11_method_10_code 33 = .ok (.getfield 29, 3) := by decide +kernel
theorem d_Tree_endOther_36 : decode prog_11_method_10_code 36 = .ok (.iload_n 1, 1) := by decide +kernel
theorem d_Tree_endOther_37 : decode prog_11_method_10_code 37 = .ok (.ldc 147, 2) := by decide +kernel
theorem d_Tree_endOther_39 : decode prog_11_method_10_code 39 = .ok (.invokevirtual 94, 3) := by decide +kernel
theorem d_Tree_endOther_42 : decode prog_11_method_10_code 42 = .ok (.invokevirtual 98, 3) := by decide +kernel
theorem d_Tree_endOther_45 : decode prog_11_method_10_code 45 = .ok (.return_, 1) := by decide +kernel
theorem d_Tree_endOther_46 : decode prog_11_method_10_code 46 = .ok (.aload_n 3, 1) := by decide +kernel
theorem d_Tree_endOther_47 : decode prog_11_method_10_code 47 = .ok (.getfield 149, 3) := by decide +kernel
theorem d_Tree_endOther_50 : decode prog_11_method_10_code 50 = .ok (.ifCond .ne 9, 3) := by decide +kernel
theorem d_Tree_endOther_53 : decode prog_11_method_10_code 53 = .ok (.aload_n 2, 1) := by decide +kernel
theorem d_Tree_endOther_54 : decode prog_11_method_10_code 54 = .ok (.aload_n 3, 1) := by decide +kernel
theorem d_Tree_endOther_55 : decode prog_11_method_10_code 55 = .ok (.invokevirtual 152, 3) := by decide +kernel
theorem d_Tree_endOther_58 : decode prog_11_method_10_code 58 = .ok (.return_, 1) := by decide +kernel
theorem d_Tree_endOther_59 : decode prog_11_method_10_code 59 = .ok (.aload_n 0, 1) := by decide +kernel
theorem d_Tree_endOther_60 : decode prog_11_method_10_code 60 = .ok (.getfield 29, 3) := by decide +kernel
theorem d_Tree_endOther_63 : decode prog_11_method_10_code 63 = .ok (.aload_n 3, 1) := by decide +kernel
theorem d_Tree_endOther_64 : decode prog_11_method_10_code 64 = .ok (.ldc 138, 2) := by decide +kernel
theorem d_Tree_endOther_66 : decode prog_11_method_10_code 66 = .ok (.invokevirtual 155, 3) := by decide +kernel
theorem d_Tree_endOther_69 : decode prog_11_method_10_code 69 = .ok (.ifnull 4, 3) := by decide +kernel
theorem d_Tree_endOther_72 : decode prog_11_method_10_code 72 = .ok (.return_, 1) := by decide +kernel
theorem d_Tree_endOther_73 : decode prog_11_method_10_code 73 = .ok (.aload_n 2, 1) := by decide +kernel
theorem d_Tree_endOther_74 : decode prog_11_method_10_code 74 = .ok (.aload_n 3, 1) := by decide +kernel
theorem d_Tree_endOther_75 : decode prog_11_method_10_code 75 = .ok (.invokevirtual 152, 3) := by decide +kernel
theorem d_Tree_endOther_78 : decode prog_11_method_10_code 78 = .ok (.aload_n 0, 1) := by decide +kernel
theorem d_Tree_endOther_79 : decode prog_11_method_10_code 79 = .ok (.getfield 29, 3) := by decide +kernel
theorem d_Tree_endOther_82 : decode prog_11_method_10_code 82 = .ok (.aload_n 3, 1) := by decide +kernel
theorem d_Tree_endOther_83 : decode prog_11_method_10_code 83 = .ok (.ldc 90, 2) := by decide +kernel
theorem d_Tree_endOther_85 : decode prog_11_method_10_code 85 = .ok (.invokevirtual 155, 3) := by decide +kernel
theorem d_Tree_endOther_88 : decode prog_11_method_10_code 88 = .ok (.astore 4, 2) := by decide +kernel
theorem d_Tree_endOther_90 : decode prog_11_method_10_code 90 = .ok (.aload 4, 2) := by decide +kernel
theorem d_Tree_endOther_92 : decode prog_11_method_10_code 92 = .ok (.ifnonnull 14, 3) := by decide +kernel
theorem d_Tree_endOther_95 : decode prog_11_method_10_code 95 = .ok (.aload_n 0, 1) := by decide +kernel
theorem d_Tree_endOther_96 : decode prog_11_method_10_code 96 = .ok (.getfield 29, 3) := by decide +kernel
theorem d_Tree_endOther_99 : decode prog_11_method_10_code 99 = .ok (.aload_n 3, 1) := by decide +kernel
theorem d_Tree_endOther_100 : decode prog_11_method_10_code 100 = .ok (.invokevirtual 98, 3) := by decide +kernel
theorem d_Tree_endOther_103 : decode prog_11_method_10_code 103 = .ok (.goto 10, 3) := by decide +kernel
theorem d_Tree_endOther_106 : decode prog_11_method_10_code 106 = .ok (.aload_n 0, 1) := by decide +kernel
theorem d_Tree_endOther_107 : decode prog_11_method_10_code 107 = .ok (.aload_n 3, 1) := by decide +kernel
theorem d_Tree_endOther_108 : decode prog_11_method_10_code 108 = .ok (.aload 4, 2) := by decide +kernel
theorem d_Tree_endOther_110 : decode prog_11_method_10_code 110 = .ok (.invokevirtual 159, 3) := by decide +kernel
theorem d_Tree_endOther_113 : decode prog_11_method_10_code 113 = .ok (.return_, 1) := by decide +kernel
def f_Tree_endOther (a1 : Int32) (M : qM) : Option qM := q_bp (f_Tree_theList M) fun r1 => q_bp (f_Pg_isOneOf a1 7 M) fun x2 => q_lt (fun (r3 : Option Nat) => q_on r3 (q_bp (f_OpenStack_inReach a1 8 M) fun r5 => q_cv (f_OpenStack_closeTo r5 M) fun M6 => some M6) fun o4 => (if (M.1 o4 3) = 0 then (q_nn r1 fun o18 => q_cv (f_FormattingList_remove o18 o4 M) fun M19 => some M19) else (q_bp (f_OpenStack_lowestAbove o4 2 M) fun r8 => q_on r8 (q_nn r1 fun o10 => q_cv (f_FormattingList_remove o10 o4 M) fun M11 => q_bp (f_OpenStack_lowestAbove o4 3 M11) fun r12 => q_on r12 (q_cv (f_OpenStack_closeTo (some o4) M11) fun M14 => some M14) fun o13 => (q_cv (f_Tree_adopt o4 o13 M11) fun M15 => some M15)) fun o9 => (some M)))) fun (j21 : Option Nat → Option qM) => if x2 = 0 then (j21 none) else (q_nn r1 fun o23 => q_bp (f_FormattingList_lastNamed o23 a1 M) fun r24 => j21 r24)
abbrev rm_Tree_endOther : Room := { frames := 12, cells := 0, slots := 0, locals := 465 }
set_option maxRecDepth 100000 in
set_option maxHeartbeats 4000000 in
theorem c_Tree_endOther {l : Launch} {D : va_G} {dA : Nat → ClassId} {b : Nat} {adK adV : Nat → Nat} (a1 : Int32)  (M : qM) (out : qM) (hf : f_Tree_endOther a1 M = some out) : CTv l y_Tree_endOther w_Tree_endOther rm_Tree_endOther D (tysX dA) (enX dA b) 367 b (qX adK adV 367 b) [qr (some 1), qi a1] M out := by
  refine qm_v (cc := prog_11_method_10_code) (nL := 5) (by decide) rfl (Nat.le_of_ble_eq_true rfl) ?_
  intro p e s m args below meth c Q hx hb hts0 hown hml hK hs hret
  have hts : ∀ w ∈ lw_g, w.before args s = true := fun w h => hts0 w (List.mem_cons_of_mem _ h)
  show QJ p l e rm_Tree_endOther s m args below meth c (qA 367 b) b 5 0 0 Q (qWd D (enX dA b) 367 b) M 0 [(0, qr (some 1)), (1, qi a1)] []
  unfold f_Tree_endOther at hf
  refine qj_aload_n hx hb d_Tree_endOther_0 rfl 0 rfl ?_
  have hf9 := q_bp_s hf; clear hf; obtain ⟨r1, hr1, hf⟩ := hf9
  refine qc_Vr (st := []) hx hb hml hown hts hK (qX_ok _ _ _ _) hs (c_Tree_theList  M _ hr1) ⟨(callB_of 0 hts (q_good tw_55) rfl rfl rfl (hts _ tw_54) (hts _ tw_56) (by decide +kernel) ⟨by decide, by decide⟩), (hts _ tw_57), (hts _ tw_58)⟩ (q_in (rfl : tcX 1 = 1) (by decide)) (en_1 (rfl : tcX 1 = 1)) rfl rfl rfl (Nat.le_of_ble_eq_true rfl) d_Tree_endOther_1 (fun tr1 => ?_)
  refine qj_astore_n hx hb d_Tree_endOther_4 rfl (by decide) rfl ?_
  refine qj_iload_n hx hb d_Tree_endOther_5 rfl 2 rfl ?_
  refine qj_ldcS hx hb hown (hs.2.1 ("PlainPage$Tree", 112, "bis", 7) (by decide +kernel)) d_Tree_endOther_6 ?_
  have hf9 := q_bp_s hf; clear hf; obtain ⟨x2, hx2, hf⟩ := hf9
  refine qc_SNi (st := []) hx hb hml hown hts hK (qX_ok _ _ _ _) hs (c_Pg_isOneOf a1 7 M _ hx2) ⟨(va_cnB 2 hts (q_good tw_5) rfl rfl rfl (hs.2.2.1 ("PlainPage$Tree", 83, y_Pg_isOneOf, "PlainPage") (by decide +kernel)) (hts _ tw_4) (by decide +kernel) ⟨by decide, by decide⟩), (hts _ tw_6), trivial⟩ rfl rfl (Nat.le_of_ble_eq_true rfl) d_Tree_endOther_8 ?_
  have hf9 := q_lt_s hf; clear hf; obtain ⟨j21, ej21, hf⟩ := hf9
  have hj21 : ∀ (r3 : Option Nat), (∀ o, r3 = some o → tcX o = 7) → j21 r3 = some out → QJ p l e rm_Tree_endOther s m args below meth c (qA 367 b) b 5 0 0 Q (qWd D (enX dA b) 367 b) M 23 [(0, qr (some 1)), (1, qi a1), (2, qr r1)] [qr r3] := by
    clear hf
    intro r3 tr3 hf
    rw [ej21] at hf
    refine qj_astore_n hx hb d_Tree_endOther_23 rfl (by decide) rfl ?_
    refine qj_aload_n hx hb d_Tree_endOther_24 rfl 0 rfl ?_
    refine qj_ifnonnull (tgt := 46) hx hb d_Tree_endOther_25 (by decide) (fun o4 hn20 => ?_) (fun hn20 => ?_)
    · subst hn20
      replace hf := q_on_s hf
      refine qj_aload_n hx hb d_Tree_endOther_46 rfl 0 rfl ?_
      refine qj_get hx hb hts hin_3 hown hK (q_in (tr3 _ rfl) (by decide)) (en_7 (tr3 _ rfl)) rfl 3 (by decide) (hts _ tw_167) (fun _ h => h) (qi (M.1 o4 3)) rfl d_Tree_endOther_47 ?_
      refine qj_if_ne (tgt := 59) hx hb d_Tree_endOther_50 (by decide) (fun hc7 => ?_) (fun hc7 => ?_)
      · replace hf := q_if_f hc7 hf
        refine qj_aload_n hx hb d_Tree_endOther_59 rfl 1 rfl ?_
        refine qj_get hx hb hts hin_5 hown hK (q_in (rfl : tcX 1 = 1) (by decide)) (en_1 (rfl : tcX 1 = 1)) rfl 3 (by decide) (hts _ tw_12) (fun _ h => h) (qr (some 5)) rfl d_Tree_endOther_60 ?_
        refine qj_aload_n hx hb d_Tree_endOther_63 rfl 0 rfl ?_
        refine qj_ldcS hx hb hown (hs.2.1 ("PlainPage$Tree", 138, "t", 2) (by decide +kernel)) d_Tree_endOther_64 ?_
        have hf9 := q_bp_s hf; clear hf; obtain ⟨r8, hr8, hf⟩ := hf9
        refine qc_Vr (st := []) hx hb hml hown hts hK (qX_ok _ _ _ _) hs (c_OpenStack_lowestAbove o4 2 (tr3 _ rfl) M _ hr8) ⟨(callB_of 2 hts (q_good tw_168) rfl rfl rfl (hts _ tw_13) (hts _ tw_169) (by decide +kernel) ⟨by decide, by decide⟩), (hts _ tw_170), (hts _ tw_171)⟩ (q_in (rfl : tcX 5 = 5) (by decide)) (en_5 (rfl : tcX 5 = 5)) rfl rfl rfl (Nat.le_of_ble_eq_true rfl) d_Tree_endOther_66 (fun tr8 => ?_)
        refine qj_ifnull (tgt := 73) hx hb d_Tree_endOther_69 (by decide) (fun hn17 => ?_) (fun o9 hn17 => ?_)
        · subst hn17
          replace hf := q_on_n hf
          refine qj_aload_n hx hb d_Tree_endOther_73 rfl 3 rfl ?_
          refine qj_aload_n hx hb d_Tree_endOther_74 rfl 0 rfl ?_
          have hf9 := q_nn_s hf; clear hf; obtain ⟨o10, rfl, hf⟩ := hf9
          have hf9 := q_cv_s hf; clear hf; obtain ⟨M11, hM11, hf⟩ := hf9
          refine qc_Vv (st := []) hx hb hml hown hts hK (qX_ok _ _ _ _) hs (c_FormattingList_remove o10 o4 (tr1 _ rfl) (tr3 _ rfl) M _ hM11) ⟨(callB_of 1 hts (q_good tw_172) rfl rfl rfl (hts _ tw_59) (hts _ tw_173) (by decide +kernel) ⟨by decide, by decide⟩), (hts _ tw_174), (hts _ tw_175)⟩ (q_in (tr1 _ rfl) (by decide)) (en_8 (tr1 _ rfl)) rfl rfl rfl (Nat.le_of_ble_eq_true rfl) d_Tree_endOther_75 ?_
          refine qj_aload_n hx hb d_Tree_endOther_78 rfl 1 rfl ?_
          refine qj_get hx hb hts hin_5 hown hK (q_in (rfl : tcX 1 = 1) (by decide)) (en_1 (rfl : tcX 1 = 1)) rfl 3 (by decide) (hts _ tw_12) (fun _ h => h) (qr (some 5)) rfl d_Tree_endOther_79 ?_
          refine qj_aload_n hx hb d_Tree_endOther_82 rfl 0 rfl ?_
          refine qj_ldcS hx hb hown (hs.2.1 ("PlainPage$Tree", 90, "pdulht", 3) (by decide +kernel)) d_Tree_endOther_83 ?_
          have hf9 := q_bp_s hf; clear hf; obtain ⟨r12, hr12, hf⟩ := hf9
          refine qc_Vr (st := []) hx hb hml hown hts hK (qX_ok _ _ _ _) hs (c_OpenStack_lowestAbove o4 3 (tr3 _ rfl) M11 _ hr12) ⟨(callB_of 2 hts (q_good tw_168) rfl rfl rfl (hts _ tw_13) (hts _ tw_169) (by decide +kernel) ⟨by decide, by decide⟩), (hts _ tw_170), (hts _ tw_171)⟩ (q_in (rfl : tcX 5 = 5) (by decide)) (en_5 (rfl : tcX 5 = 5)) rfl rfl rfl (Nat.le_of_ble_eq_true rfl) d_Tree_endOther_85 (fun tr12 => ?_)
          refine qj_astore hx hb d_Tree_endOther_88 (by decide) rfl ?_
          refine qj_aload hx hb d_Tree_endOther_90 0 rfl ?_
          refine qj_ifnonnull (tgt := 106) hx hb d_Tree_endOther_92 (by decide) (fun o13 hn16 => ?_) (fun hn16 => ?_)
          · subst hn16
            replace hf := q_on_s hf
            refine qj_aload_n hx hb d_Tree_endOther_106 rfl 2 rfl ?_
            refine qj_aload_n hx hb d_Tree_endOther_107 rfl 1 rfl ?_
            refine qj_aload hx hb d_Tree_endOther_108 0 rfl ?_
            have hf9 := q_cv_s hf; clear hf; obtain ⟨M15, hM15, hf⟩ := hf9
            refine qc_Vv (st := []) hx hb hml hown hts hK (qX_ok _ _ _ _) hs (c_Tree_adopt o4 o13 (tr3 _ rfl) (tr12 _ rfl) M11 _ hM15) ⟨(callB_of 2 hts (q_good tw_176) rfl rfl rfl (hts _ tw_54) (hts _ tw_177) (by decide +kernel) ⟨by decide, by decide⟩), (hts _ tw_178), (hts _ tw_179)⟩ (q_in (rfl : tcX 1 = 1) (by decide)) (en_1 (rfl : tcX 1 = 1)) rfl rfl rfl (Nat.le_of_ble_eq_true rfl) d_Tree_endOther_110 ?_
            exact hret _ _ _ d_Tree_endOther_113 (Option.some.inj hf)
          · subst hn16
            replace hf := q_on_n hf
            refine qj_aload_n hx hb d_Tree_endOther_95 rfl 2 rfl ?_
            refine qj_get hx hb hts hin_5 hown hK (q_in (rfl : tcX 1 = 1) (by decide)) (en_1 (rfl : tcX 1 = 1)) rfl 3 (by decide) (hts _ tw_12) (fun _ h => h) (qr (some 5)) rfl d_Tree_endOther_96 ?_
            refine qj_aload_n hx hb d_Tree_endOther_99 rfl 1 rfl ?_
            have hf9 := q_cv_s hf; clear hf; obtain ⟨M14, hM14, hf⟩ := hf9
            refine qc_Vv (st := []) hx hb hml hown hts hK (qX_ok _ _ _ _) hs (c_OpenStack_closeTo (some o4) (q_ts (tr3 _ rfl)) M11 _ hM14) ⟨(callB_of 1 hts (q_good tw_148) rfl rfl rfl (hts _ tw_13) (hts _ tw_149) (by decide +kernel) ⟨by decide, by decide⟩), (hts _ tw_150), (hts _ tw_151)⟩ (q_in (rfl : tcX 5 = 5) (by decide)) (en_5 (rfl : tcX 5 = 5)) rfl rfl rfl (Nat.le_of_ble_eq_true rfl) d_Tree_endOther_100 ?_
            refine qj_goto (tgt := 113) hx hb d_Tree_endOther_103 (by decide) ?_
            exact hret _ _ _ d_Tree_endOther_113 (Option.some.inj hf)
        · subst hn17
          replace hf := q_on_s hf
          exact hret _ _ _ d_Tree_endOther_72 (Option.some.inj hf)
      · replace hf := q_if_t hc7 hf
        refine qj_aload_n hx hb d_Tree_endOther_53 rfl 3 rfl ?_
        refine qj_aload_n hx hb d_Tree_endOther_54 rfl 0 rfl ?_
        have hf9 := q_nn_s hf; clear hf; obtain ⟨o18, rfl, hf⟩ := hf9
        have hf9 := q_cv_s hf; clear hf; obtain ⟨M19, hM19, hf⟩ := hf9
        refine qc_Vv (st := []) hx hb hml hown hts hK (qX_ok _ _ _ _) hs (c_FormattingList_remove o18 o4 (tr1 _ rfl) (tr3 _ rfl) M _ hM19) ⟨(callB_of 1 hts (q_good tw_172) rfl rfl rfl (hts _ tw_59) (hts _ tw_173) (by decide +kernel) ⟨by decide, by decide⟩), (hts _ tw_174), (hts _ tw_175)⟩ (q_in (tr1 _ rfl) (by decide)) (en_8 (tr1 _ rfl)) rfl rfl rfl (Nat.le_of_ble_eq_true rfl) d_Tree_endOther_55 ?_
        exact hret _ _ _ d_Tree_endOther_58 (Option.some.inj hf)
    · subst hn20
      replace hf := q_on_n hf
      refine qj_aload_n hx hb d_Tree_endOther_28 rfl 1 rfl ?_
      refine qj_get hx hb hts hin_5 hown hK (q_in (rfl : tcX 1 = 1) (by decide)) (en_1 (rfl : tcX 1 = 1)) rfl 3 (by decide) (hts _ tw_12) (fun _ h => h) (qr (some 5)) rfl d_Tree_endOther_29 ?_
      refine qj_aload_n hx hb d_Tree_endOther_32 rfl 1 rfl ?_
      refine qj_get hx hb hts hin_5 hown hK (q_in (rfl : tcX 1 = 1) (by decide)) (en_1 (rfl : tcX 1 = 1)) rfl 3 (by decide) (hts _ tw_12) (fun _ h => h) (qr (some 5)) rfl d_Tree_endOther_33 ?_
      refine qj_iload_n hx hb d_Tree_endOther_36 rfl 2 rfl ?_
      refine qj_ldcS hx hb hown (hs.2.1 ("PlainPage$Tree", 147, "pdulhtrc", 8) (by decide +kernel)) d_Tree_endOther_37 ?_
      have hf9 := q_bp_s hf; clear hf; obtain ⟨r5, hr5, hf⟩ := hf9
      refine qc_Vr (st := [qr (some 5)]) hx hb hml hown hts hK (qX_ok _ _ _ _) hs (c_OpenStack_inReach a1 8 M _ hr5) ⟨(callB_of 2 hts (q_good tw_115) rfl rfl rfl (hts _ tw_13) (hts _ tw_147) (by decide +kernel) ⟨by decide, by decide⟩), (hts _ tw_117), (hts _ tw_118)⟩ (q_in (rfl : tcX 5 = 5) (by decide)) (en_5 (rfl : tcX 5 = 5)) rfl rfl rfl (Nat.le_of_ble_eq_true rfl) d_Tree_endOther_39 (fun tr5 => ?_)
      have hf9 := q_cv_s hf; clear hf; obtain ⟨M6, hM6, hf⟩ := hf9
      refine qc_Vv (st := []) hx hb hml hown hts hK (qX_ok _ _ _ _) hs (c_OpenStack_closeTo r5 tr5 M _ hM6) ⟨(callB_of 1 hts (q_good tw_148) rfl rfl rfl (hts _ tw_13) (hts _ tw_149) (by decide +kernel) ⟨by decide, by decide⟩), (hts _ tw_150), (hts _ tw_151)⟩ (q_in (rfl : tcX 5 = 5) (by decide)) (en_5 (rfl : tcX 5 = 5)) rfl rfl rfl (Nat.le_of_ble_eq_true rfl) d_Tree_endOther_42 ?_
      exact hret _ _ _ d_Tree_endOther_45 (Option.some.inj hf)
  refine qj_if_eq (tgt := 22) hx hb d_Tree_endOther_11 (by decide) (fun hc22 => ?_) (fun hc22 => ?_)
  · replace hf := q_if_t hc22 hf
    refine qj_null hx hb d_Tree_endOther_22 ?_
    refine qj_sub [1, 2, 0] rfl ?_
    exact hj21 none q_tn hf
  · replace hf := q_if_f hc22 hf
    refine qj_aload_n hx hb d_Tree_endOther_14 rfl 0 rfl ?_
    refine qj_iload_n hx hb d_Tree_endOther_15 rfl 2 rfl ?_
    have hf9 := q_nn_s hf; clear hf; obtain ⟨o23, rfl, hf⟩ := hf9
    have hf9 := q_bp_s hf; clear hf; obtain ⟨r24, hr24, hf⟩ := hf9
    refine qc_Vr (st := []) hx hb hml hown hts hK (qX_ok _ _ _ _) hs (c_FormattingList_lastNamed o23 a1 (tr1 _ rfl) M _ hr24) ⟨(callB_of 1 hts (q_good tw_180) rfl rfl rfl (hts _ tw_59) (hts _ tw_181) (by decide +kernel) ⟨by decide, by decide⟩), (hts _ tw_182), (hts _ tw_183)⟩ (q_in (tr1 _ rfl) (by decide)) (en_8 (tr1 _ rfl)) rfl rfl rfl (Nat.le_of_ble_eq_true rfl) d_Tree_endOther_16 (fun tr24 => ?_)
    refine qj_goto (tgt := 23) hx hb d_Tree_endOther_19 (by decide) ?_
    refine qj_sub [1, 2, 0] rfl ?_
    exact hj21 r24 tr24 hf
theorem d_Tree_endTag_0 : decode prog_11_method_8_code 0 = .ok (.iload_n 1, 1) := by decide +kernel
theorem d_Tree_endTag_1 : decode prog_11_method_8_code 1 = .ok (.tableswitch 199 99 117 #[175, 98, 199, 199, 199, 196, 199, 199, 196, 118, 199, 199, 199, 91, 199, 158, 199, 139, 98], 91) := by decide +kernel
theorem d_Tree_endTag_92 : decode prog_11_method_8_code 92 = .ok (.aload_n 0, 1) := by decide +kernel
theorem d_Tree_endTag_93 : decode prog_11_method_8_code 93 = .ok (.invokevirtual 135, 3) := by decide +kernel
theorem d_Tree_endTag_96 : decode prog_11_method_8_code 96 = .ok (.goto 109, 3) := by decide +kernel
theorem d_Tree_endTag_99 : decode prog_11_method_8_code 99 = .ok (.aload_n 0, 1) := by decide +kernel
theorem d_Tree_endTag_100 : decode prog_11_method_8_code 100 = .ok (.getfield 29, 3) := by decide +kernel
theorem d_Tree_endTag_103 : decode prog_11_method_8_code 103 = .ok (.aload_n 0, 1) := by decide +kernel
theorem d_Tree_endTag_104 : decode prog_11_method_8_code 104 = .ok (.getfield 29, 3) := by decide +kernel
theorem d_Tree_endTag_107 : decode prog_11_method_8_code 107 = .ok (.iload_n 1, 1) := by decide +kernel
theorem d_Tree_endTag_108 : decode prog_11_method_8_code 108 = .ok (.ldc 92, 2) := by decide +kernel
theorem d_Tree_endTag_110 : decode prog_11_method_8_code 110 = .ok (.invokevirtual 94, 3) := by decide +kernel
theorem d_Tree_endTag_113 : decode prog_11_method_8_code 113 = .ok (.invokevirtual 98, 3) := by decide +kernel
theorem d_Tree_endTag_116 : decode prog_11_method_8_code 116 = .ok (.goto 89, 3) := by decide +kernel
theorem d_Tree_endTag_119 : decode prog_11_method_8_code 119 = .ok (.aload_n 0, 1) := by decide +kernel
theorem d_Tree_endTag_120 : decode prog_11_method_8_code 120 = .ok (.getfield 29, 3) := by decide +kernel
theorem d_Tree_endTag_123 : decode prog_11_method_8_code 123 = .ok (.aload_n 0, 1) := by decide +kernel
theorem d_Tree_endTag_124 : decode prog_11_method_8_code 124 = .ok (.getfield 29, 3) := by decide +kernel
theorem d_Tree_endTag_127 : decode prog_11_method_8_code 127 = .ok (.bipush 108, 2) := by decide +kernel
theorem d_Tree_endTag_129 : decode prog_11_method_8_code 129 = .ok (.ldc 104, 2) := by decide +kernel
theorem d_Tree_endTag_131 : decode prog_11_method_8_code 131 = .ok (.invokevirtual 94, 3) := by decide +kernel
theorem d_Tree_endTag_134 : decode prog_11_method_8_code 134 = .ok (.invokevirtual 98, 3) := by decide +kernel
theorem d_Tree_endTag_137 : decode prog_11_method_8_code 137 = .ok (.goto 68, 3) := by decide +kernel
theorem d_Tree_endTag_140 : decode prog_11_method_8_code 140 = .ok (.aload_n 0, 1) := by decide +kernel
theorem d_Tree_endTag_141 : decode prog_11_method_8_code 141 = .ok (.getfield 29, 3) := by decide +kernel
theorem d_Tree_endTag_144 : decode prog_11_method_8_code 144 = .ok (.aload_n 0, 1) := by decide +kernel
theorem d_Tree_endTag_145 : decode prog_11_method_8_code 145 = .ok (.getfield 29, 3) := by decide +kernel
theorem d_Tree_endTag_148 : decode prog_11_method_8_code 148 = .ok (.bipush 116, 2) := by decide +kernel
theorem d_Tree_endTag_150 : decode prog_11_method_8_code 150 = .ok (.invokevirtual 123, 3) := by decide +kernel
theorem d_Tree_endTag_153 : decode prog_11_method_8_code 153 = .ok (.invokevirtual 98, 3) := by decide +kernel
theorem d_Tree_endTag_156 : decode prog_11_method_8_code 156 = .ok (.goto 49, 3) := by decide +kernel
theorem d_Tree_endTag_159 : decode prog_11_method_8_code 159 = .ok (.aload_n 0, 1) := by decide +kernel
theorem d_Tree_endTag_160 : decode prog_11_method_8_code 160 = .ok (.getfield 29, 3) := by decide +kernel
theorem d_Tree_endTag_163 : decode prog_11_method_8_code 163 = .ok (.aload_n 0, 1) := by decide +kernel
theorem d_Tree_endTag_164 : decode prog_11_method_8_code 164 = .ok (.getfield 29, 3) := by decide +kernel
theorem d_Tree_endTag_167 : decode prog_11_method_8_code 167 = .ok (.invokevirtual 126, 3) := by decide +kernel
theorem d_Tree_endTag_170 : decode prog_11_method_8_code 170 = .ok (.invokevirtual 98, 3) := by decide +kernel
theorem d_Tree_endTag_173 : decode prog_11_method_8_code 173 = .ok (.goto 32, 3) := by decide +kernel
theorem d_Tree_endTag_176 : decode prog_11_method_8_code 176 = .ok (.aload_n 0, 1) := by decide +kernel
theorem d_Tree_endTag_177 : decode prog_11_method_8_code 177 = .ok (.getfield 29, 3) := by decide +kernel
theorem d_Tree_endTag_180 : decode prog_11_method_8_code 180 = .ok (.aload_n 0, 1) := by decide +kernel
theorem d_Tree_endTag_181 : decode prog_11_method_8_code 181 = .ok (.getfield 29, 3) := by decide +kernel
theorem d_Tree_endTag_184 : decode prog_11_method_8_code 184 = .ok (.bipush 99, 2) := by decide +kernel
theorem d_Tree_endTag_186 : decode prog_11_method_8_code 186 = .ok (.ldc 138, 2) := by decide +kernel
theorem d_Tree_endTag_188 : decode prog_11_method_8_code 188 = .ok (.invokevirtual 94, 3) := by decide +kernel
theorem d_Tree_endTag_191 : decode prog_11_method_8_code 191 = .ok (.invokevirtual 98, 3) := by decide +kernel
theorem d_Tree_endTag_194 : decode prog_11_method_8_code 194 = .ok (.goto 11, 3) := by decide +kernel
theorem d_Tree_endTag_197 : decode prog_11_method_8_code 197 = .ok (.goto 8, 3) := by decide +kernel
theorem d_Tree_endTag_200 : decode prog_11_method_8_code 200 = .ok (.aload_n 0, 1) := by decide +kernel
theorem d_Tree_endTag_201 : decode prog_11_method_8_code 201 = .ok (.iload_n 1, 1) := by decide +kernel
theorem d_Tree_endTag_202 : decode prog_11_method_8_code 202 = .ok (.invokevirtual 140, 3) := by decide +kernel
theorem d_Tree_endTag_205 : decode prog_11_method_8_code 205 = .ok (.return_, 1) := by decide +kernel
def f_Tree_endTag (a1 : Int32) (M : qM) : Option qM := if a1 = 99 then (q_bp (f_OpenStack_inReach 99 2 M) fun r2 => q_cv (f_OpenStack_closeTo r2 M) fun M3 => some M3) else if a1 = 100 then (q_bp (f_OpenStack_inReach a1 4 M) fun r5 => q_cv (f_OpenStack_closeTo r5 M) fun M6 => some M6) else if a1 = 101 then (q_cv (f_Tree_endOther a1 M) fun M8 => some M8) else if a1 = 102 then (q_cv (f_Tree_endOther a1 M) fun M10 => some M10) else if a1 = 103 then (q_cv (f_Tree_endOther a1 M) fun M12 => some M12) else if a1 = 104 then (some M) else if a1 = 105 then (q_cv (f_Tree_endOther a1 M) fun M15 => some M15) else if a1 = 106 then (q_cv (f_Tree_endOther a1 M) fun M17 => some M17) else if a1 = 107 then (some M) else if a1 = 108 then (q_bp (f_OpenStack_inReach 108 5 M) fun r20 => q_cv (f_OpenStack_closeTo r20 M) fun M21 => some M21) else if a1 = 109 then (q_cv (f_Tree_endOther a1 M) fun M23 => some M23) else if a1 = 110 then (q_cv (f_Tree_endOther a1 M) fun M25 => some M25) else if a1 = 111 then (q_cv (f_Tree_endOther a1 M) fun M27 => some M27) else if a1 = 112 then (q_cv (f_Tree_endParagraph M) fun M29 => some M29) else if a1 = 113 then (q_cv (f_Tree_endOther a1 M) fun M31 => some M31) else if a1 = 114 then (q_bp (f_OpenStack_rowOfTable M) fun r33 => q_cv (f_OpenStack_closeTo r33 M) fun M34 => some M34) else if a1 = 115 then (q_cv (f_Tree_endOther a1 M) fun M36 => some M36) else if a1 = 116 then (q_bp (f_OpenStack_topmost 116 M) fun r38 => q_cv (f_OpenStack_closeTo r38 M) fun M39 => some M39) else if a1 = 117 then (q_bp (f_OpenStack_inReach a1 4 M) fun r41 => q_cv (f_OpenStack_closeTo r41 M) fun M42 => some M42) else (q_cv (f_Tree_endOther a1 M) fun M43 => some M43)
abbrev rm_Tree_endTag : Room := { frames := 13, cells := 0, slots := 0, locals := 489 }
set_option maxRecDepth 100000 in
set_option maxHeartbeats 4000000 in
theorem c_Tree_endTag {l : Launch} {D : va_G} {dA : Nat → ClassId} {b : Nat} {adK adV : Nat → Nat} (a1 : Int32)  (M : qM) (out : qM) (hf : f_Tree_endTag a1 M = some out) : CTv l y_Tree_endTag w_Tree_endTag rm_Tree_endTag D (tysX dA) (enX dA b) 367 b (qX adK adV 367 b) [qr (some 1), qi a1] M out := by
  refine qm_v (cc := prog_11_method_8_code) (nL := 2) (by decide) rfl (Nat.le_of_ble_eq_true rfl) ?_
  intro p e s m args below meth c Q hx hb hts0 hown hml hK hs hret
  have hts : ∀ w ∈ lw_g, w.before args s = true := fun w h => hts0 w (List.mem_cons_of_mem _ h)
  show QJ p l e rm_Tree_endTag s m args below meth c (qA 367 b) b 2 0 0 Q (qWd D (enX dA b) 367 b) M 0 [(0, qr (some 1)), (1, qi a1)] []
  unfold f_Tree_endTag at hf
  refine qj_iload_n hx hb d_Tree_endTag_0 rfl 1 rfl ?_
  by_cases hk1 : a1 = 99
  · replace hf := q_if_t hk1 hf
    refine qj_tableIn (off := 175) (tgt := 176) hx hb d_Tree_endTag_1 (by rw [hk1]; decide) (by rw [hk1]; decide) (by rw [hk1] <;> rfl) (by decide) ?_
    refine qj_aload_n hx hb d_Tree_endTag_176 rfl 0 rfl ?_
    refine qj_get hx hb hts hin_5 hown hK (q_in (rfl : tcX 1 = 1) (by decide)) (en_1 (rfl : tcX 1 = 1)) rfl 3 (by decide) (hts _ tw_12) (fun _ h => h) (qr (some 5)) rfl d_Tree_endTag_177 ?_
    refine qj_aload_n hx hb d_Tree_endTag_180 rfl 0 rfl ?_
    refine qj_get hx hb hts hin_5 hown hK (q_in (rfl : tcX 1 = 1) (by decide)) (en_1 (rfl : tcX 1 = 1)) rfl 3 (by decide) (hts _ tw_12) (fun _ h => h) (qr (some 5)) rfl d_Tree_endTag_181 ?_
    refine qj_bipush (v := 99) hx hb d_Tree_endTag_184 (by decide) ?_
    refine qj_ldcS hx hb hown (hs.2.1 ("PlainPage$Tree", 138, "t", 2) (by decide +kernel)) d_Tree_endTag_186 ?_
    have hf9 := q_bp_s hf; clear hf; obtain ⟨r2, hr2, hf⟩ := hf9
    refine qc_Vr (st := [qr (some 5)]) hx hb hml hown hts hK (qX_ok _ _ _ _) hs (c_OpenStack_inReach 99 2 M _ hr2) ⟨(callB_of 2 hts (q_good tw_115) rfl rfl rfl (hts _ tw_13) (hts _ tw_147) (by decide +kernel) ⟨by decide, by decide⟩), (hts _ tw_117), (hts _ tw_118)⟩ (q_in (rfl : tcX 5 = 5) (by decide)) (en_5 (rfl : tcX 5 = 5)) rfl rfl rfl (Nat.le_of_ble_eq_true rfl) d_Tree_endTag_188 (fun tr2 => ?_)
    have hf9 := q_cv_s hf; clear hf; obtain ⟨M3, hM3, hf⟩ := hf9
    refine qc_Vv (st := []) hx hb hml hown hts hK (qX_ok _ _ _ _) hs (c_OpenStack_closeTo r2 tr2 M _ hM3) ⟨(callB_of 1 hts (q_good tw_148) rfl rfl rfl (hts _ tw_13) (hts _ tw_149) (by decide +kernel) ⟨by decide, by decide⟩), (hts _ tw_150), (hts _ tw_151)⟩ (q_in (rfl : tcX 5 = 5) (by decide)) (en_5 (rfl : tcX 5 = 5)) rfl rfl rfl (Nat.le_of_ble_eq_true rfl) d_Tree_endTag_191 ?_
    refine qj_goto (tgt := 205) hx hb d_Tree_endTag_194 (by decide) ?_
    exact hret _ _ _ d_Tree_endTag_205 (Option.some.inj hf)
  replace hf := q_if_f hk1 hf
  by_cases hk4 : a1 = 100
  · replace hf := q_if_t hk4 hf
    refine qj_tableIn (off := 98) (tgt := 99) hx hb d_Tree_endTag_1 (by rw [hk4]; decide) (by rw [hk4]; decide) (by rw [hk4] <;> rfl) (by decide) ?_
    refine qj_aload_n hx hb d_Tree_endTag_99 rfl 0 rfl ?_
    refine qj_get hx hb hts hin_5 hown hK (q_in (rfl : tcX 1 = 1) (by decide)) (en_1 (rfl : tcX 1 = 1)) rfl 3 (by decide) (hts _ tw_12) (fun _ h => h) (qr (some 5)) rfl d_Tree_endTag_100 ?_
    refine qj_aload_n hx hb d_Tree_endTag_103 rfl 0 rfl ?_
    refine qj_get hx hb hts hin_5 hown hK (q_in (rfl : tcX 1 = 1) (by decide)) (en_1 (rfl : tcX 1 = 1)) rfl 3 (by decide) (hts _ tw_12) (fun _ h => h) (qr (some 5)) rfl d_Tree_endTag_104 ?_
    refine qj_iload_n hx hb d_Tree_endTag_107 rfl 1 rfl ?_
    refine qj_ldcS hx hb hown (hs.2.1 ("PlainPage$Tree", 92, "c", 4) (by decide +kernel)) d_Tree_endTag_108 ?_
    have hf9 := q_bp_s hf; clear hf; obtain ⟨r5, hr5, hf⟩ := hf9
    refine qc_Vr (st := [qr (some 5)]) hx hb hml hown hts hK (qX_ok _ _ _ _) hs (c_OpenStack_inReach a1 4 M _ hr5) ⟨(callB_of 2 hts (q_good tw_115) rfl rfl rfl (hts _ tw_13) (hts _ tw_147) (by decide +kernel) ⟨by decide, by decide⟩), (hts _ tw_117), (hts _ tw_118)⟩ (q_in (rfl : tcX 5 = 5) (by decide)) (en_5 (rfl : tcX 5 = 5)) rfl rfl rfl (Nat.le_of_ble_eq_true rfl) d_Tree_endTag_110 (fun tr5 => ?_)
    have hf9 := q_cv_s hf; clear hf; obtain ⟨M6, hM6, hf⟩ := hf9
    refine qc_Vv (st := []) hx hb hml hown hts hK (qX_ok _ _ _ _) hs (c_OpenStack_closeTo r5 tr5 M _ hM6) ⟨(callB_of 1 hts (q_good tw_148) rfl rfl rfl (hts _ tw_13) (hts _ tw_149) (by decide +kernel) ⟨by decide, by decide⟩), (hts _ tw_150), (hts _ tw_151)⟩ (q_in (rfl : tcX 5 = 5) (by decide)) (en_5 (rfl : tcX 5 = 5)) rfl rfl rfl (Nat.le_of_ble_eq_true rfl) d_Tree_endTag_113 ?_
    refine qj_goto (tgt := 205) hx hb d_Tree_endTag_116 (by decide) ?_
    exact hret _ _ _ d_Tree_endTag_205 (Option.some.inj hf)
  replace hf := q_if_f hk4 hf
  by_cases hk7 : a1 = 101
  · replace hf := q_if_t hk7 hf
    refine qj_tableIn (off := 199) (tgt := 200) hx hb d_Tree_endTag_1 (by rw [hk7]; decide) (by rw [hk7]; decide) (by rw [hk7] <;> rfl) (by decide) ?_
    refine qj_aload_n hx hb d_Tree_endTag_200 rfl 0 rfl ?_
    refine qj_iload_n hx hb d_Tree_endTag_201 rfl 1 rfl ?_
    have hf9 := q_cv_s hf; clear hf; obtain ⟨M8, hM8, hf⟩ := hf9
    refine qc_Vv (st := []) hx hb hml hown hts hK (qX_ok _ _ _ _) hs (c_Tree_endOther a1 M _ hM8) ⟨(callB_of 1 hts (q_good tw_184) rfl rfl rfl (hts _ tw_54) (hts _ tw_185) (by decide +kernel) ⟨by decide, by decide⟩), (hts _ tw_186), (hts _ tw_187)⟩ (q_in (rfl : tcX 1 = 1) (by decide)) (en_1 (rfl : tcX 1 = 1)) rfl rfl rfl (Nat.le_of_ble_eq_true rfl) d_Tree_endTag_202 ?_
    exact hret _ _ _ d_Tree_endTag_205 (Option.some.inj hf)
  replace hf := q_if_f hk7 hf
  by_cases hk9 : a1 = 102
  · replace hf := q_if_t hk9 hf
    refine qj_tableIn (off := 199) (tgt := 200) hx hb d_Tree_endTag_1 (by rw [hk9]; decide) (by rw [hk9]; decide) (by rw [hk9] <;> rfl) (by decide) ?_
    refine qj_aload_n hx hb d_Tree_endTag_200 rfl 0 rfl ?_
    refine qj_iload_n hx hb d_Tree_endTag_201 rfl 1 rfl ?_
    have hf9 := q_cv_s hf; clear hf; obtain ⟨M10, hM10, hf⟩ := hf9
    refine qc_Vv (st := []) hx hb hml hown hts hK (qX_ok _ _ _ _) hs (c_Tree_endOther a1 M _ hM10) ⟨(callB_of 1 hts (q_good tw_184) rfl rfl rfl (hts _ tw_54) (hts _ tw_185) (by decide +kernel) ⟨by decide, by decide⟩), (hts _ tw_186), (hts _ tw_187)⟩ (q_in (rfl : tcX 1 = 1) (by decide)) (en_1 (rfl : tcX 1 = 1)) rfl rfl rfl (Nat.le_of_ble_eq_true rfl) d_Tree_endTag_202 ?_
    exact hret _ _ _ d_Tree_endTag_205 (Option.some.inj hf)
  replace hf := q_if_f hk9 hf
  by_cases hk11 : a1 = 103
  · replace hf := q_if_t hk11 hf
    refine qj_tableIn (off := 199) (tgt := 200) hx hb d_Tree_endTag_1 (by rw [hk11]; decide) (by rw [hk11]; decide) (by rw [hk11] <;> rfl) (by decide) ?_
    refine qj_aload_n hx hb d_Tree_endTag_200 rfl 0 rfl ?_
    refine qj_iload_n hx hb d_Tree_endTag_201 rfl 1 rfl ?_
    have hf9 := q_cv_s hf; clear hf; obtain ⟨M12, hM12, hf⟩ := hf9
    refine qc_Vv (st := []) hx hb hml hown hts hK (qX_ok _ _ _ _) hs (c_Tree_endOther a1 M _ hM12) ⟨(callB_of 1 hts (q_good tw_184) rfl rfl rfl (hts _ tw_54) (hts _ tw_185) (by decide +kernel) ⟨by decide, by decide⟩), (hts _ tw_186), (hts _ tw_187)⟩ (q_in (rfl : tcX 1 = 1) (by decide)) (en_1 (rfl : tcX 1 = 1)) rfl rfl rfl (Nat.le_of_ble_eq_true rfl) d_Tree_endTag_202 ?_
    exact hret _ _ _ d_Tree_endTag_205 (Option.some.inj hf)
  replace hf := q_if_f hk11 hf
  by_cases hk13 : a1 = 104
  · replace hf := q_if_t hk13 hf
    refine qj_tableIn (off := 196) (tgt := 197) hx hb d_Tree_endTag_1 (by rw [hk13]; decide) (by rw [hk13]; decide) (by rw [hk13] <;> rfl) (by decide) ?_
    refine qj_goto (tgt := 205) hx hb d_Tree_endTag_197 (by decide) ?_
    exact hret _ _ _ d_Tree_endTag_205 (Option.some.inj hf)
  replace hf := q_if_f hk13 hf
  by_cases hk14 : a1 = 105
  · replace hf := q_if_t hk14 hf
    refine qj_tableIn (off := 199) (tgt := 200) hx hb d_Tree_endTag_1 (by rw [hk14]; decide) (by rw [hk14]; decide) (by rw [hk14] <;> rfl) (by decide) ?_
    refine qj_aload_n hx hb d_Tree_endTag_200 rfl 0 rfl ?_
    refine qj_iload_n hx hb d_Tree_endTag_201 rfl 1 rfl ?_
    have hf9 := q_cv_s hf; clear hf; obtain ⟨M15, hM15, hf⟩ := hf9
    refine qc_Vv (st := []) hx hb hml hown hts hK (qX_ok _ _ _ _) hs (c_Tree_endOther a1 M _ hM15) ⟨(callB_of 1 hts (q_good tw_184) rfl rfl rfl (hts _ tw_54) (hts _ tw_185) (by decide +kernel) ⟨by decide, by decide⟩), (hts _ tw_186), (hts _ tw_187)⟩ (q_in (rfl : tcX 1 = 1) (by decide)) (en_1 (rfl : tcX 1 = 1)) rfl rfl rfl (Nat.le_of_ble_eq_true rfl) d_Tree_endTag_202 ?_
    exact hret _ _ _ d_Tree_endTag_205 (Option.some.inj hf)
  replace hf := q_if_f hk14 hf
  by_cases hk16 : a1 = 106
  · replace hf := q_if_t hk16 hf
    refine qj_tableIn (off := 199) (tgt := 200) hx hb d_Tree_endTag_1 (by rw [hk16]; decide) (by rw [hk16]; decide) (by rw [hk16] <;> rfl) (by decide) ?_
    refine qj_aload_n hx hb d_Tree_endTag_200 rfl 0 rfl ?_
    refine qj_iload_n hx hb d_Tree_endTag_201 rfl 1 rfl ?_
    have hf9 := q_cv_s hf; clear hf; obtain ⟨M17, hM17, hf⟩ := hf9
    refine qc_Vv (st := []) hx hb hml hown hts hK (qX_ok _ _ _ _) hs (c_Tree_endOther a1 M _ hM17) ⟨(callB_of 1 hts (q_good tw_184) rfl rfl rfl (hts _ tw_54) (hts _ tw_185) (by decide +kernel) ⟨by decide, by decide⟩), (hts _ tw_186), (hts _ tw_187)⟩ (q_in (rfl : tcX 1 = 1) (by decide)) (en_1 (rfl : tcX 1 = 1)) rfl rfl rfl (Nat.le_of_ble_eq_true rfl) d_Tree_endTag_202 ?_
    exact hret _ _ _ d_Tree_endTag_205 (Option.some.inj hf)
  replace hf := q_if_f hk16 hf
  by_cases hk18 : a1 = 107
  · replace hf := q_if_t hk18 hf
    refine qj_tableIn (off := 196) (tgt := 197) hx hb d_Tree_endTag_1 (by rw [hk18]; decide) (by rw [hk18]; decide) (by rw [hk18] <;> rfl) (by decide) ?_
    refine qj_goto (tgt := 205) hx hb d_Tree_endTag_197 (by decide) ?_
    exact hret _ _ _ d_Tree_endTag_205 (Option.some.inj hf)
  replace hf := q_if_f hk18 hf
  by_cases hk19 : a1 = 108
  · replace hf := q_if_t hk19 hf
    refine qj_tableIn (off := 118) (tgt := 119) hx hb d_Tree_endTag_1 (by rw [hk19]; decide) (by rw [hk19]; decide) (by rw [hk19] <;> rfl) (by decide) ?_
    refine qj_aload_n hx hb d_Tree_endTag_119 rfl 0 rfl ?_
    refine qj_get hx hb hts hin_5 hown hK (q_in (rfl : tcX 1 = 1) (by decide)) (en_1 (rfl : tcX 1 = 1)) rfl 3 (by decide) (hts _ tw_12) (fun _ h => h) (qr (some 5)) rfl d_Tree_endTag_120 ?_
    refine qj_aload_n hx hb d_Tree_endTag_123 rfl 0 rfl ?_
    refine qj_get hx hb hts hin_5 hown hK (q_in (rfl : tcX 1 = 1) (by decide)) (en_1 (rfl : tcX 1 = 1)) rfl 3 (by decide) (hts _ tw_12) (fun _ h => h) (qr (some 5)) rfl d_Tree_endTag_124 ?_
    refine qj_bipush (v := 108) hx hb d_Tree_endTag_127 (by decide) ?_
    refine qj_ldcS hx hb hown (hs.2.1 ("PlainPage$Tree", 104, "uc", 5) (by decide +kernel)) d_Tree_endTag_129 ?_
    have hf9 := q_bp_s hf; clear hf; obtain ⟨r20, hr20, hf⟩ := hf9
    refine qc_Vr (st := [qr (some 5)]) hx hb hml hown hts hK (qX_ok _ _ _ _) hs (c_OpenStack_inReach 108 5 M _ hr20) ⟨(callB_of 2 hts (q_good tw_115) rfl rfl rfl (hts _ tw_13) (hts _ tw_147) (by decide +kernel) ⟨by decide, by decide⟩), (hts _ tw_117), (hts _ tw_118)⟩ (q_in (rfl : tcX 5 = 5) (by decide)) (en_5 (rfl : tcX 5 = 5)) rfl rfl rfl (Nat.le_of_ble_eq_true rfl) d_Tree_endTag_131 (fun tr20 => ?_)
    have hf9 := q_cv_s hf; clear hf; obtain ⟨M21, hM21, hf⟩ := hf9
    refine qc_Vv (st := []) hx hb hml hown hts hK (qX_ok _ _ _ _) hs (c_OpenStack_closeTo r20 tr20 M _ hM21) ⟨(callB_of 1 hts (q_good tw_148) rfl rfl rfl (hts _ tw_13) (hts _ tw_149) (by decide +kernel) ⟨by decide, by decide⟩), (hts _ tw_150), (hts _ tw_151)⟩ (q_in (rfl : tcX 5 = 5) (by decide)) (en_5 (rfl : tcX 5 = 5)) rfl rfl rfl (Nat.le_of_ble_eq_true rfl) d_Tree_endTag_134 ?_
    refine qj_goto (tgt := 205) hx hb d_Tree_endTag_137 (by decide) ?_
    exact hret _ _ _ d_Tree_endTag_205 (Option.some.inj hf)
  replace hf := q_if_f hk19 hf
  by_cases hk22 : a1 = 109
  · replace hf := q_if_t hk22 hf
    refine qj_tableIn (off := 199) (tgt := 200) hx hb d_Tree_endTag_1 (by rw [hk22]; decide) (by rw [hk22]; decide) (by rw [hk22] <;> rfl) (by decide) ?_
    refine qj_aload_n hx hb d_Tree_endTag_200 rfl 0 rfl ?_
    refine qj_iload_n hx hb d_Tree_endTag_201 rfl 1 rfl ?_
    have hf9 := q_cv_s hf; clear hf; obtain ⟨M23, hM23, hf⟩ := hf9
    refine qc_Vv (st := []) hx hb hml hown hts hK (qX_ok _ _ _ _) hs (c_Tree_endOther a1 M _ hM23) ⟨(callB_of 1 hts (q_good tw_184) rfl rfl rfl (hts _ tw_54) (hts _ tw_185) (by decide +kernel) ⟨by decide, by decide⟩), (hts _ tw_186), (hts _ tw_187)⟩ (q_in (rfl : tcX 1 = 1) (by decide)) (en_1 (rfl : tcX 1 = 1)) rfl rfl rfl (Nat.le_of_ble_eq_true rfl) d_Tree_endTag_202 ?_
    exact hret _ _ _ d_Tree_endTag_205 (Option.some.inj hf)
  replace hf := q_if_f hk22 hf
  by_cases hk24 : a1 = 110
  · replace hf := q_if_t hk24 hf
    refine qj_tableIn (off := 199) (tgt := 200) hx hb d_Tree_endTag_1 (by rw [hk24]; decide) (by rw [hk24]; decide) (by rw [hk24] <;> rfl) (by decide) ?_
    refine qj_aload_n hx hb d_Tree_endTag_200 rfl 0 rfl ?_
    refine qj_iload_n hx hb d_Tree_endTag_201 rfl 1 rfl ?_
    have hf9 := q_cv_s hf; clear hf; obtain ⟨M25, hM25, hf⟩ := hf9
    refine qc_Vv (st := []) hx hb hml hown hts hK (qX_ok _ _ _ _) hs (c_Tree_endOther a1 M _ hM25) ⟨(callB_of 1 hts (q_good tw_184) rfl rfl rfl (hts _ tw_54) (hts _ tw_185) (by decide +kernel) ⟨by decide, by decide⟩), (hts _ tw_186), (hts _ tw_187)⟩ (q_in (rfl : tcX 1 = 1) (by decide)) (en_1 (rfl : tcX 1 = 1)) rfl rfl rfl (Nat.le_of_ble_eq_true rfl) d_Tree_endTag_202 ?_
    exact hret _ _ _ d_Tree_endTag_205 (Option.some.inj hf)
  replace hf := q_if_f hk24 hf
  by_cases hk26 : a1 = 111
  · replace hf := q_if_t hk26 hf
    refine qj_tableIn (off := 199) (tgt := 200) hx hb d_Tree_endTag_1 (by rw [hk26]; decide) (by rw [hk26]; decide) (by rw [hk26] <;> rfl) (by decide) ?_
    refine qj_aload_n hx hb d_Tree_endTag_200 rfl 0 rfl ?_
    refine qj_iload_n hx hb d_Tree_endTag_201 rfl 1 rfl ?_
    have hf9 := q_cv_s hf; clear hf; obtain ⟨M27, hM27, hf⟩ := hf9
    refine qc_Vv (st := []) hx hb hml hown hts hK (qX_ok _ _ _ _) hs (c_Tree_endOther a1 M _ hM27) ⟨(callB_of 1 hts (q_good tw_184) rfl rfl rfl (hts _ tw_54) (hts _ tw_185) (by decide +kernel) ⟨by decide, by decide⟩), (hts _ tw_186), (hts _ tw_187)⟩ (q_in (rfl : tcX 1 = 1) (by decide)) (en_1 (rfl : tcX 1 = 1)) rfl rfl rfl (Nat.le_of_ble_eq_true rfl) d_Tree_endTag_202 ?_
    exact hret _ _ _ d_Tree_endTag_205 (Option.some.inj hf)
  replace hf := q_if_f hk26 hf
  by_cases hk28 : a1 = 112
  · replace hf := q_if_t hk28 hf
    refine qj_tableIn (off := 91) (tgt := 92) hx hb d_Tree_endTag_1 (by rw [hk28]; decide) (by rw [hk28]; decide) (by rw [hk28] <;> rfl) (by decide) ?_
    refine qj_aload_n hx hb d_Tree_endTag_92 rfl 0 rfl ?_
    have hf9 := q_cv_s hf; clear hf; obtain ⟨M29, hM29, hf⟩ := hf9
    refine qc_Vv (st := []) hx hb hml hown hts hK (qX_ok _ _ _ _) hs (c_Tree_endParagraph  M _ hM29) ⟨(callB_of 0 hts (q_good tw_188) rfl rfl rfl (hts _ tw_54) (hts _ tw_189) (by decide +kernel) ⟨by decide, by decide⟩), (hts _ tw_190), (hts _ tw_191)⟩ (q_in (rfl : tcX 1 = 1) (by decide)) (en_1 (rfl : tcX 1 = 1)) rfl rfl rfl (Nat.le_of_ble_eq_true rfl) d_Tree_endTag_93 ?_
    refine qj_goto (tgt := 205) hx hb d_Tree_endTag_96 (by decide) ?_
    exact hret _ _ _ d_Tree_endTag_205 (Option.some.inj hf)
  replace hf := q_if_f hk28 hf
  by_cases hk30 : a1 = 113
  · replace hf := q_if_t hk30 hf
    refine qj_tableIn (off := 199) (tgt := 200) hx hb d_Tree_endTag_1 (by rw [hk30]; decide) (by rw [hk30]; decide) (by rw [hk30] <;> rfl) (by decide) ?_
    refine qj_aload_n hx hb d_Tree_endTag_200 rfl 0 rfl ?_
    refine qj_iload_n hx hb d_Tree_endTag_201 rfl 1 rfl ?_
    have hf9 := q_cv_s hf; clear hf; obtain ⟨M31, hM31, hf⟩ := hf9
    refine qc_Vv (st := []) hx hb hml hown hts hK (qX_ok _ _ _ _) hs (c_Tree_endOther a1 M _ hM31) ⟨(callB_of 1 hts (q_good tw_184) rfl rfl rfl (hts _ tw_54) (hts _ tw_185) (by decide +kernel) ⟨by decide, by decide⟩), (hts _ tw_186), (hts _ tw_187)⟩ (q_in (rfl : tcX 1 = 1) (by decide)) (en_1 (rfl : tcX 1 = 1)) rfl rfl rfl (Nat.le_of_ble_eq_true rfl) d_Tree_endTag_202 ?_
    exact hret _ _ _ d_Tree_endTag_205 (Option.some.inj hf)
  replace hf := q_if_f hk30 hf
  by_cases hk32 : a1 = 114
  · replace hf := q_if_t hk32 hf
    refine qj_tableIn (off := 158) (tgt := 159) hx hb d_Tree_endTag_1 (by rw [hk32]; decide) (by rw [hk32]; decide) (by rw [hk32] <;> rfl) (by decide) ?_
    refine qj_aload_n hx hb d_Tree_endTag_159 rfl 0 rfl ?_
    refine qj_get hx hb hts hin_5 hown hK (q_in (rfl : tcX 1 = 1) (by decide)) (en_1 (rfl : tcX 1 = 1)) rfl 3 (by decide) (hts _ tw_12) (fun _ h => h) (qr (some 5)) rfl d_Tree_endTag_160 ?_
    refine qj_aload_n hx hb d_Tree_endTag_163 rfl 0 rfl ?_
    refine qj_get hx hb hts hin_5 hown hK (q_in (rfl : tcX 1 = 1) (by decide)) (en_1 (rfl : tcX 1 = 1)) rfl 3 (by decide) (hts _ tw_12) (fun _ h => h) (qr (some 5)) rfl d_Tree_endTag_164 ?_
    have hf9 := q_bp_s hf; clear hf; obtain ⟨r33, hr33, hf⟩ := hf9
    refine qc_Vr (st := [qr (some 5)]) hx hb hml hown hts hK (qX_ok _ _ _ _) hs (c_OpenStack_rowOfTable  M _ hr33) ⟨(callB_of 0 hts (q_good tw_135) rfl rfl rfl (hts _ tw_13) (hts _ tw_136) (by decide +kernel) ⟨by decide, by decide⟩), (hts _ tw_137), (hts _ tw_138)⟩ (q_in (rfl : tcX 5 = 5) (by decide)) (en_5 (rfl : tcX 5 = 5)) rfl rfl rfl (Nat.le_of_ble_eq_true rfl) d_Tree_endTag_167 (fun tr33 => ?_)
    have hf9 := q_cv_s hf; clear hf; obtain ⟨M34, hM34, hf⟩ := hf9
    refine qc_Vv (st := []) hx hb hml hown hts hK (qX_ok _ _ _ _) hs (c_OpenStack_closeTo r33 tr33 M _ hM34) ⟨(callB_of 1 hts (q_good tw_148) rfl rfl rfl (hts _ tw_13) (hts _ tw_149) (by decide +kernel) ⟨by decide, by decide⟩), (hts _ tw_150), (hts _ tw_151)⟩ (q_in (rfl : tcX 5 = 5) (by decide)) (en_5 (rfl : tcX 5 = 5)) rfl rfl rfl (Nat.le_of_ble_eq_true rfl) d_Tree_endTag_170 ?_
    refine qj_goto (tgt := 205) hx hb d_Tree_endTag_173 (by decide) ?_
    exact hret _ _ _ d_Tree_endTag_205 (Option.some.inj hf)
  replace hf := q_if_f hk32 hf
  by_cases hk35 : a1 = 115
  · replace hf := q_if_t hk35 hf
    refine qj_tableIn (off := 199) (tgt := 200) hx hb d_Tree_endTag_1 (by rw [hk35]; decide) (by rw [hk35]; decide) (by rw [hk35] <;> rfl) (by decide) ?_
    refine qj_aload_n hx hb d_Tree_endTag_200 rfl 0 rfl ?_
    refine qj_iload_n hx hb d_Tree_endTag_201 rfl 1 rfl ?_
    have hf9 := q_cv_s hf; clear hf; obtain ⟨M36, hM36, hf⟩ := hf9
    refine qc_Vv (st := []) hx hb hml hown hts hK (qX_ok _ _ _ _) hs (c_Tree_endOther a1 M _ hM36) ⟨(callB_of 1 hts (q_good tw_184) rfl rfl rfl (hts _ tw_54) (hts _ tw_185) (by decide +kernel) ⟨by decide, by decide⟩), (hts _ tw_186), (hts _ tw_187)⟩ (q_in (rfl : tcX 1 = 1) (by decide)) (en_1 (rfl : tcX 1 = 1)) rfl rfl rfl (Nat.le_of_ble_eq_true rfl) d_Tree_endTag_202 ?_
    exact hret _ _ _ d_Tree_endTag_205 (Option.some.inj hf)
  replace hf := q_if_f hk35 hf
  by_cases hk37 : a1 = 116
  · replace hf := q_if_t hk37 hf
    refine qj_tableIn (off := 139) (tgt := 140) hx hb d_Tree_endTag_1 (by rw [hk37]; decide) (by rw [hk37]; decide) (by rw [hk37] <;> rfl) (by decide) ?_
    refine qj_aload_n hx hb d_Tree_endTag_140 rfl 0 rfl ?_
    refine qj_get hx hb hts hin_5 hown hK (q_in (rfl : tcX 1 = 1) (by decide)) (en_1 (rfl : tcX 1 = 1)) rfl 3 (by decide) (hts _ tw_12) (fun _ h => h) (qr (some 5)) rfl d_Tree_endTag_141 ?_
    refine qj_aload_n hx hb d_Tree_endTag_144 rfl 0 rfl ?_
    refine qj_get hx hb hts hin_5 hown hK (q_in (rfl : tcX 1 = 1) (by decide)) (en_1 (rfl : tcX 1 = 1)) rfl 3 (by decide) (hts _ tw_12) (fun _ h => h) (qr (some 5)) rfl d_Tree_endTag_145 ?_
    refine qj_bipush (v := 116) hx hb d_Tree_endTag_148 (by decide) ?_
    have hf9 := q_bp_s hf; clear hf; obtain ⟨r38, hr38, hf⟩ := hf9
    refine qc_Vr (st := [qr (some 5)]) hx hb hml hown hts hK (qX_ok _ _ _ _) hs (c_OpenStack_topmost 116 M _ hr38) ⟨(callB_of 1 hts (q_good tw_14) rfl rfl rfl (hts _ tw_13) (hts _ tw_15) (by decide +kernel) ⟨by decide, by decide⟩), (hts _ tw_16), (hts _ tw_17)⟩ (q_in (rfl : tcX 5 = 5) (by decide)) (en_5 (rfl : tcX 5 = 5)) rfl rfl rfl (Nat.le_of_ble_eq_true rfl) d_Tree_endTag_150 (fun tr38 => ?_)
    have hf9 := q_cv_s hf; clear hf; obtain ⟨M39, hM39, hf⟩ := hf9
    refine qc_Vv (st := []) hx hb hml hown hts hK (qX_ok _ _ _ _) hs (c_OpenStack_closeTo r38 tr38 M _ hM39) ⟨(callB_of 1 hts (q_good tw_148) rfl rfl rfl (hts _ tw_13) (hts _ tw_149) (by decide +kernel) ⟨by decide, by decide⟩), (hts _ tw_150), (hts _ tw_151)⟩ (q_in (rfl : tcX 5 = 5) (by decide)) (en_5 (rfl : tcX 5 = 5)) rfl rfl rfl (Nat.le_of_ble_eq_true rfl) d_Tree_endTag_153 ?_
    refine qj_goto (tgt := 205) hx hb d_Tree_endTag_156 (by decide) ?_
    exact hret _ _ _ d_Tree_endTag_205 (Option.some.inj hf)
  replace hf := q_if_f hk37 hf
  by_cases hk40 : a1 = 117
  · replace hf := q_if_t hk40 hf
    refine qj_tableIn (off := 98) (tgt := 99) hx hb d_Tree_endTag_1 (by rw [hk40]; decide) (by rw [hk40]; decide) (by rw [hk40] <;> rfl) (by decide) ?_
    refine qj_aload_n hx hb d_Tree_endTag_99 rfl 0 rfl ?_
    refine qj_get hx hb hts hin_5 hown hK (q_in (rfl : tcX 1 = 1) (by decide)) (en_1 (rfl : tcX 1 = 1)) rfl 3 (by decide) (hts _ tw_12) (fun _ h => h) (qr (some 5)) rfl d_Tree_endTag_100 ?_
    refine qj_aload_n hx hb d_Tree_endTag_103 rfl 0 rfl ?_
    refine qj_get hx hb hts hin_5 hown hK (q_in (rfl : tcX 1 = 1) (by decide)) (en_1 (rfl : tcX 1 = 1)) rfl 3 (by decide) (hts _ tw_12) (fun _ h => h) (qr (some 5)) rfl d_Tree_endTag_104 ?_
    refine qj_iload_n hx hb d_Tree_endTag_107 rfl 1 rfl ?_
    refine qj_ldcS hx hb hown (hs.2.1 ("PlainPage$Tree", 92, "c", 4) (by decide +kernel)) d_Tree_endTag_108 ?_
    have hf9 := q_bp_s hf; clear hf; obtain ⟨r41, hr41, hf⟩ := hf9
    refine qc_Vr (st := [qr (some 5)]) hx hb hml hown hts hK (qX_ok _ _ _ _) hs (c_OpenStack_inReach a1 4 M _ hr41) ⟨(callB_of 2 hts (q_good tw_115) rfl rfl rfl (hts _ tw_13) (hts _ tw_147) (by decide +kernel) ⟨by decide, by decide⟩), (hts _ tw_117), (hts _ tw_118)⟩ (q_in (rfl : tcX 5 = 5) (by decide)) (en_5 (rfl : tcX 5 = 5)) rfl rfl rfl (Nat.le_of_ble_eq_true rfl) d_Tree_endTag_110 (fun tr41 => ?_)
    have hf9 := q_cv_s hf; clear hf; obtain ⟨M42, hM42, hf⟩ := hf9
    refine qc_Vv (st := []) hx hb hml hown hts hK (qX_ok _ _ _ _) hs (c_OpenStack_closeTo r41 tr41 M _ hM42) ⟨(callB_of 1 hts (q_good tw_148) rfl rfl rfl (hts _ tw_13) (hts _ tw_149) (by decide +kernel) ⟨by decide, by decide⟩), (hts _ tw_150), (hts _ tw_151)⟩ (q_in (rfl : tcX 5 = 5) (by decide)) (en_5 (rfl : tcX 5 = 5)) rfl rfl rfl (Nat.le_of_ble_eq_true rfl) d_Tree_endTag_113 ?_
    refine qj_goto (tgt := 205) hx hb d_Tree_endTag_116 (by decide) ?_
    exact hret _ _ _ d_Tree_endTag_205 (Option.some.inj hf)
  replace hf := q_if_f hk40 hf
  refine qj_tableOut (tgt := 200) hx hb d_Tree_endTag_1 (by have z0 := lv_neT hk1 (a := 99) (by decide); have z1 := lv_neT hk4 (a := 100) (by decide); have z2 := lv_neT hk7 (a := 101) (by decide); have z3 := lv_neT hk9 (a := 102) (by decide); have z4 := lv_neT hk11 (a := 103) (by decide); have z5 := lv_neT hk13 (a := 104) (by decide); have z6 := lv_neT hk14 (a := 105) (by decide); have z7 := lv_neT hk16 (a := 106) (by decide); have z8 := lv_neT hk18 (a := 107) (by decide); have z9 := lv_neT hk19 (a := 108) (by decide); have z10 := lv_neT hk22 (a := 109) (by decide); have z11 := lv_neT hk24 (a := 110) (by decide); have z12 := lv_neT hk26 (a := 111) (by decide); have z13 := lv_neT hk28 (a := 112) (by decide); have z14 := lv_neT hk30 (a := 113) (by decide); have z15 := lv_neT hk32 (a := 114) (by decide); have z16 := lv_neT hk35 (a := 115) (by decide); have z17 := lv_neT hk37 (a := 116) (by decide); have z18 := lv_neT hk40 (a := 117) (by decide); omega) (by decide) ?_
  refine qj_aload_n hx hb d_Tree_endTag_200 rfl 0 rfl ?_
  refine qj_iload_n hx hb d_Tree_endTag_201 rfl 1 rfl ?_
  have hf9 := q_cv_s hf; clear hf; obtain ⟨M43, hM43, hf⟩ := hf9
  refine qc_Vv (st := []) hx hb hml hown hts hK (qX_ok _ _ _ _) hs (c_Tree_endOther a1 M _ hM43) ⟨(callB_of 1 hts (q_good tw_184) rfl rfl rfl (hts _ tw_54) (hts _ tw_185) (by decide +kernel) ⟨by decide, by decide⟩), (hts _ tw_186), (hts _ tw_187)⟩ (q_in (rfl : tcX 1 = 1) (by decide)) (en_1 (rfl : tcX 1 = 1)) rfl rfl rfl (Nat.le_of_ble_eq_true rfl) d_Tree_endTag_202 ?_
  exact hret _ _ _ d_Tree_endTag_205 (Option.some.inj hf)
theorem d_Typist_typeInTag_0 : decode prog_12_method_9_code 0 = .ok (.iload_n 1, 1) := by decide +kernel
theorem d_Typist_typeInTag_1 : decode prog_12_method_9_code 1 = .ok (.bipush 62, 2) := by decide +kernel
theorem d_Typist_typeInTag_3 : decode prog_12_method_9_code 3 = .ok (.if_icmp .eq 26, 3) := by decide +kernel
theorem d_Typist_typeInTag_6 : decode prog_12_method_9_code 6 = .ok (.iload_n 1, 1) := by decide +kernel
theorem d_Typist_typeInTag_7 : decode prog_12_method_9_code 7 = .ok (.invokestatic 66, 3) := by decide +kernel
theorem d_Typist_typeInTag_10 : decode prog_12_method_9_code 10 = .ok (.ifCond .eq 18, 3) := by decide +kernel
theorem d_Typist_typeInTag_13 : decode prog_12_method_9_code 13 = .ok (.aload_n 0, 1) := by decide +kernel
theorem d_Typist_typeInTag_14 : decode prog_12_method_9_code 14 = .ok (.dup, 1) := by decide +kernel
theorem d_Typist_typeInTag_15 : decode prog_12_method_9_code 15 = .ok (.getfield 63, 3) := by decide +kernel
theorem d_Typist_typeInTag_18 : decode prog_12_method_9_code 18 = .ok (.iconst 1, 1) := by decide +kernel
theorem d_Typist_typeInTag_19 : decode prog_12_method_9_code 19 = .ok (.iload_n 1, 1) := by decide +kernel
theorem d_Typist_typeInTag_20 : decode prog_12_method_9_code 20 = .ok (.bipush 65, 2) := by decide +kernel
theorem d_Typist_typeInTag_22 : decode prog_12_method_9_code 22 = .ok (.isub, 1) := by decide +kernel
theorem d_Typist_typeInTag_23 : decode prog_12_method_9_code 23 = .ok (.ishl, 1) := by decide +kernel
theorem d_Typist_typeInTag_24 : decode prog_12_method_9_code 24 = .ok (.ior, 1) := by decide +kernel
theorem d_Typist_typeInTag_25 : decode prog_12_method_9_code 25 = .ok (.putfield 63, 3) := by decide +kernel
theorem d_Typist_typeInTag_28 : decode prog_12_method_9_code 28 = .ok (.return_, 1) := by decide +kernel
theorem d_Typist_typeInTag_29 : decode prog_12_method_9_code 29 = .ok (.aload_n 0, 1) := by decide +kernel
theorem d_Typist_typeInTag_30 : decode prog_12_method_9_code 30 = .ok (.getfield 9, 3) := by decide +kernel
theorem d_Typist_typeInTag_33 : decode prog_12_method_9_code 33 = .ok (.iconst 5, 1) := by decide +kernel
theorem d_Typist_typeInTag_34 : decode prog_12_method_9_code 34 = .ok (.if_icmp .ne 18, 3) := by decide +kernel
theorem d_Typist_typeInTag_37 : decode prog_12_method_9_code 37 = .ok (.aload_n 2, 1) := by decide +kernel
theorem d_Typist_typeInTag_38 : decode prog_12_method_9_code 38 = .ok (.aload_n 0, 1) := by decide +kernel
theorem d_Typist_typeInTag_39 : decode prog_12_method_9_code 39 = .ok (.getfield 60, 3) := by decide +kernel
theorem d_Typist_typeInTag_42 : decode prog_12_method_9_code 42 = .ok (.aload_n 0, 1) := by decide +kernel
theorem d_Typist_typeInTag_43 : decode prog_12_method_9_code 43 = .ok (.getfield 63, 3) := by decide +kernel
theorem d_Typist_typeInTag_46 : decode prog_12_method_9_code 46 = .ok (.invokevirtual 69, 3) := by decide +kernel
theorem d_Typist_typeInTag_49 : decode prog_12_method_9_code 49 = .ok (.goto 20, 3) := by decide +kernel
theorem d_Typist_typeInTag_52 : decode prog_12_method_9_code 52 = .ok (.aload_n 0, 1) := by decide +kernel
theorem d_Typist_typeInTag_53 : decode prog_12_method_9_code 53 = .ok (.getfield 9, 3) := by decide +kernel
theorem d_Typist_typeInTag_56 : decode prog_12_method_9_code 56 = .ok (.bipush 6, 2) := by decide +kernel
theorem d_Typist_typeInTag_58 : decode prog_12_method_9_code 58 = .ok (.if_icmp .ne 11, 3) := by decide +kernel
theorem d_Typist_typeInTag_61 : decode prog_12_method_9_code 61 = .ok (.aload_n 2, 1) := by decide +kernel
theorem d_Typist_typeInTag_62 : decode prog_12_method_9_code 62 = .ok (.aload_n 0, 1) := by decide +kernel
theorem d_Typist_typeInTag_63 : decode prog_12_method_9_code 63 = .ok (.getfield 60, 3) := by decide +kernel
theorem d_Typist_typeInTag_66 : decode prog_12_method_9_code 66 = .ok (.invokevirtual 73, 3) := by decide +kernel
theorem d_Typist_typeInTag_69 : decode prog_12_method_9_code 69 = .ok (.aload_n 0, 1) := by decide +kernel
theorem d_Typist_typeInTag_70 : decode prog_12_method_9_code 70 = .ok (.iconst 0, 1) := by decide +kernel
theorem d_Typist_typeInTag_71 : decode prog_12_method_9_code 71 = .ok (.putfield 9, 3) := by decide +kernel
theorem d_Typist_typeInTag_74 : decode prog_12_method_9_code 74 = .ok (.return_, 1) := by decide +kernel
def f_Typist_typeInTag (a1 : Int32) (M : qM) : Option qM := if a1 = 62 then (q_lt (fun (M2 : qM) => q_lt (qsI M2 287 0 0) fun M3 => some M3) fun (j4 : qM → Option qM) => if (M.1 287 0) = 5 then (q_cv (f_Tree_startTag (M.1 287 2) (M.1 287 3) M) fun M8 => j4 M8) else (if (M.1 287 0) = 6 then (q_cv (f_Tree_endTag (M.1 287 2) M) fun M7 => j4 M7) else (j4 M))) else (q_bp (f_Pg_isCapital a1 M) fun x9 => if x9 = 0 then (some M) else (q_lt (qsI M 287 3 ((M.1 287 3) ||| (1 <<< ((a1 - 65) &&& 31)))) fun M11 => some M11))
abbrev rm_Typist_typeInTag : Room := { frames := 15, cells := 0, slots := 0, locals := 532 }
set_option maxRecDepth 100000 in
set_option maxHeartbeats 4000000 in
theorem c_Typist_typeInTag {l : Launch} {D : va_G} {dA : Nat → ClassId} {b : Nat} {adK adV : Nat → Nat} (a1 : Int32)  (M : qM) (out : qM) (hf : f_Typist_typeInTag a1 M = some out) : CTv l y_Typist_typeInTag w_Typist_typeInTag rm_Typist_typeInTag D (tysX dA) (enX dA b) 367 b (qX adK adV 367 b) [qr (some 287), qi a1, qr (some 1)] M out := by
  refine qm_v (cc := prog_12_method_9_code) (nL := 3) (by decide) rfl (Nat.le_of_ble_eq_true rfl) ?_
  intro p e s m args below meth c Q hx hb hts0 hown hml hK hs hret
  have hts : ∀ w ∈ lw_g, w.before args s = true := fun w h => hts0 w (List.mem_cons_of_mem _ h)
  show QJ p l e rm_Typist_typeInTag s m args below meth c (qA 367 b) b 3 0 0 Q (qWd D (enX dA b) 367 b) M 0 [(0, qr (some 287)), (1, qi a1), (2, qr (some 1))] []
  unfold f_Typist_typeInTag at hf
  refine qj_iload_n hx hb d_Typist_typeInTag_0 rfl 1 rfl ?_
  refine qj_bipush (v := 62) hx hb d_Typist_typeInTag_1 (by decide) ?_
  refine qj_icmp_eq (tgt := 29) hx hb d_Typist_typeInTag_3 (by decide) (fun hc1 => ?_) (fun hc1 => ?_)
  · replace hf := q_if_t hc1 hf
    refine qj_aload_n hx hb d_Typist_typeInTag_29 rfl 0 rfl ?_
    refine qj_get hx hb hts hin_6 hown hK (q_in (rfl : tcX 287 = 13) (by decide)) (en_13 (rfl : tcX 287 = 13)) rfl 0 (by decide) (hts _ tw_3) (fun _ h => h) (qi (M.1 287 0)) rfl d_Typist_typeInTag_30 ?_
    refine qj_iconst (v := 5) hx hb d_Typist_typeInTag_33 (by decide) ?_
    have hf9 := q_lt_s hf; clear hf; obtain ⟨j4, ej4, hf⟩ := hf9
    have hj4 : ∀ (M2 : qM), j4 M2 = some out → QJ p l e rm_Typist_typeInTag s m args below meth c (qA 367 b) b 3 0 0 Q (qWd D (enX dA b) 367 b) M2 69 [(0, qr (some 287))] [] := by
      clear hf
      intro M2 hf
      rw [ej4] at hf
      refine qj_aload_n hx hb d_Typist_typeInTag_69 rfl 0 rfl ?_
      refine qj_iconst (v := 0) hx hb d_Typist_typeInTag_70 (by decide) ?_
      have hf9 := q_lt_s hf; clear hf; obtain ⟨M3, eM3, hf⟩ := hf9
      refine qj_puti (ty := .int) hx hb hts hin_6 ty_6 tyok_6 nm_6 hown hK (q_in (rfl : tcX 287 = 13) (by decide)) (en_13 (rfl : tcX 287 = 13)) rfl 0 (by decide) (hts _ tw_3) (fun _ h => h) rfl (by decide +kernel) rfl rfl (Nat.le_of_ble_eq_true rfl) (sp_13_0 (rfl : tcX 287 = 13)) eM3 d_Typist_typeInTag_71 ?_
      exact hret _ _ _ d_Typist_typeInTag_74 (Option.some.inj hf)
    refine qj_icmp_ne (tgt := 52) hx hb d_Typist_typeInTag_34 (by decide) (fun hc5 => ?_) (fun hc5 => ?_)
    · replace hf := q_if_f hc5 hf
      refine qj_aload_n hx hb d_Typist_typeInTag_52 rfl 0 rfl ?_
      refine qj_get hx hb hts hin_6 hown hK (q_in (rfl : tcX 287 = 13) (by decide)) (en_13 (rfl : tcX 287 = 13)) rfl 0 (by decide) (hts _ tw_3) (fun _ h => h) (qi (M.1 287 0)) rfl d_Typist_typeInTag_53 ?_
      refine qj_bipush (v := 6) hx hb d_Typist_typeInTag_56 (by decide) ?_
      refine qj_icmp_ne (tgt := 69) hx hb d_Typist_typeInTag_58 (by decide) (fun hc6 => ?_) (fun hc6 => ?_)
      · replace hf := q_if_f hc6 hf
        refine qj_sub [0] rfl ?_
        exact hj4 M hf
      · replace hf := q_if_t hc6 hf
        refine qj_aload_n hx hb d_Typist_typeInTag_61 rfl 2 rfl ?_
        refine qj_aload_n hx hb d_Typist_typeInTag_62 rfl 0 rfl ?_
        refine qj_get hx hb hts hin_6 hown hK (q_in (rfl : tcX 287 = 13) (by decide)) (en_13 (rfl : tcX 287 = 13)) rfl 2 (by decide) (hts _ tw_113) (fun _ h => h) (qi (M.1 287 2)) rfl d_Typist_typeInTag_63 ?_
        have hf9 := q_cv_s hf; clear hf; obtain ⟨M7, hM7, hf⟩ := hf9
        refine qc_Vv (st := []) hx hb hml hown hts hK (qX_ok _ _ _ _) hs (c_Tree_endTag (M.1 287 2) M _ hM7) ⟨(callB_of 1 hts (q_good tw_192) rfl rfl rfl (hts _ tw_54) (hts _ tw_193) (by decide +kernel) ⟨by decide, by decide⟩), (hts _ tw_194), (hts _ tw_195)⟩ (q_in (rfl : tcX 1 = 1) (by decide)) (en_1 (rfl : tcX 1 = 1)) rfl rfl rfl (Nat.le_of_ble_eq_true rfl) d_Typist_typeInTag_66 ?_
        refine qj_sub [0] rfl ?_
        exact hj4 M7 hf
    · replace hf := q_if_t hc5 hf
      refine qj_aload_n hx hb d_Typist_typeInTag_37 rfl 2 rfl ?_
      refine qj_aload_n hx hb d_Typist_typeInTag_38 rfl 0 rfl ?_
      refine qj_get hx hb hts hin_6 hown hK (q_in (rfl : tcX 287 = 13) (by decide)) (en_13 (rfl : tcX 287 = 13)) rfl 2 (by decide) (hts _ tw_113) (fun _ h => h) (qi (M.1 287 2)) rfl d_Typist_typeInTag_39 ?_
      refine qj_aload_n hx hb d_Typist_typeInTag_42 rfl 0 rfl ?_
      refine qj_get hx hb hts hin_6 hown hK (q_in (rfl : tcX 287 = 13) (by decide)) (en_13 (rfl : tcX 287 = 13)) rfl 3 (by decide) (hts _ tw_114) (fun _ h => h) (qi (M.1 287 3)) rfl d_Typist_typeInTag_43 ?_
      have hf9 := q_cv_s hf; clear hf; obtain ⟨M8, hM8, hf⟩ := hf9
      refine qc_Vv (st := []) hx hb hml hown hts hK (qX_ok _ _ _ _) hs (c_Tree_startTag (M.1 287 2) (M.1 287 3) M _ hM8) ⟨(callB_of 2 hts (q_good tw_196) rfl rfl rfl (hts _ tw_54) (hts _ tw_197) (by decide +kernel) ⟨by decide, by decide⟩), (hts _ tw_198), (hts _ tw_199)⟩ (q_in (rfl : tcX 1 = 1) (by decide)) (en_1 (rfl : tcX 1 = 1)) rfl rfl rfl (Nat.le_of_ble_eq_true rfl) d_Typist_typeInTag_46 ?_
      refine qj_goto (tgt := 69) hx hb d_Typist_typeInTag_49 (by decide) ?_
      refine qj_sub [0] rfl ?_
      exact hj4 M8 hf
  · replace hf := q_if_f hc1 hf
    refine qj_iload_n hx hb d_Typist_typeInTag_6 rfl 1 rfl ?_
    have hf9 := q_bp_s hf; clear hf; obtain ⟨x9, hx9, hf⟩ := hf9
    refine qc_SNi (st := []) hx hb hml hown hts hK (qX_ok _ _ _ _) hs (c_Pg_isCapital a1 M _ hx9) ⟨(va_cnB 1 hts (q_good tw_200) rfl rfl rfl (hs.2.2.1 ("PlainPage$Typist", 66, y_Pg_isCapital, "PlainPage") (by decide +kernel)) (hts _ tw_4) (by decide +kernel) ⟨by decide, by decide⟩), (hts _ tw_201), trivial⟩ rfl rfl (Nat.le_of_ble_eq_true rfl) d_Typist_typeInTag_7 ?_
    refine qj_if_eq (tgt := 28) hx hb d_Typist_typeInTag_10 (by decide) (fun hc10 => ?_) (fun hc10 => ?_)
    · replace hf := q_if_t hc10 hf
      exact hret _ _ _ d_Typist_typeInTag_28 (Option.some.inj hf)
    · replace hf := q_if_f hc10 hf
      refine qj_aload_n hx hb d_Typist_typeInTag_13 rfl 0 rfl ?_
      refine qj_dup hx hb d_Typist_typeInTag_14 ?_
      refine qj_get hx hb hts hin_6 hown hK (q_in (rfl : tcX 287 = 13) (by decide)) (en_13 (rfl : tcX 287 = 13)) rfl 3 (by decide) (hts _ tw_114) (fun _ h => h) (qi (M.1 287 3)) rfl d_Typist_typeInTag_15 ?_
      refine qj_iconst (v := 1) hx hb d_Typist_typeInTag_18 (by decide) ?_
      refine qj_iload_n hx hb d_Typist_typeInTag_19 rfl 1 rfl ?_
      refine qj_bipush (v := 65) hx hb d_Typist_typeInTag_20 (by decide) ?_
      refine qj_isub hx hb d_Typist_typeInTag_22 ?_
      refine qj_ishl hx hb d_Typist_typeInTag_23 ?_
      refine qj_ior hx hb d_Typist_typeInTag_24 ?_
      have hf9 := q_lt_s hf; clear hf; obtain ⟨M11, eM11, hf⟩ := hf9
      refine qj_puti (ty := .int) hx hb hts hin_6 ty_6 tyok_6 nm_6 hown hK (q_in (rfl : tcX 287 = 13) (by decide)) (en_13 (rfl : tcX 287 = 13)) rfl 3 (by decide) (hts _ tw_114) (fun _ h => h) rfl (by decide +kernel) rfl rfl (Nat.le_of_ble_eq_true rfl) (sp_13_3 (rfl : tcX 287 = 13)) eM11 d_Typist_typeInTag_25 ?_
      exact hret _ _ _ d_Typist_typeInTag_28 (Option.some.inj hf)
theorem d_Typist_type_0 : decode prog_12_method_3_code 0 = .ok (.aload_n 0, 1) := by decide +kernel
theorem d_Typist_type_1 : decode prog_12_method_3_code 1 = .ok (.iload_n 1, 1) := by decide +kernel
theorem d_Typist_type_2 : decode prog_12_method_3_code 2 = .ok (.invokevirtual 13, 3) := by decide +kernel
theorem d_Typist_type_5 : decode prog_12_method_3_code 5 = .ok (.ifCond .ne 8, 3) := by decide +kernel
theorem d_Typist_type_8 : decode prog_12_method_3_code 8 = .ok (.aload_n 0, 1) := by decide +kernel
theorem d_Typist_type_9 : decode prog_12_method_3_code 9 = .ok (.aload_n 2, 1) := by decide +kernel
theorem d_Typist_type_10 : decode prog_12_method_3_code 10 = .ok (.invokevirtual 17, 3) := by decide +kernel
theorem d_Typist_type_13 : decode prog_12_method_3_code 13 = .ok (.aload_n 0, 1) := by decide +kernel
theorem d_Typist_type_14 : decode prog_12_method_3_code 14 = .ok (.getfield 9, 3) := by decide +kernel
theorem d_Typist_type_17 : decode prog_12_method_3_code 17 = .ok (.tableswitch 92 0 4 #[35, 44, 57, 76, 84], 35) := by decide +kernel
theorem d_Typist_type_52 : decode prog_12_method_3_code 52 = .ok (.aload_n 0, 1) := by decide +kernel
theorem d_Typist_type_53 : decode prog_12_method_3_code 53 = .ok (.iload_n 1, 1) := by decide +kernel
theorem d_Typist_type_54 : decode prog_12_method_3_code 54 = .ok (.aload_n 2, 1) := by decide +kernel
theorem d_Typist_type_55 : decode prog_12_method_3_code 55 = .ok (.invokevirtual 21, 3) := by decide +kernel
theorem d_Typist_type_58 : decode prog_12_method_3_code 58 = .ok (.goto 57, 3) := by decide +kernel
theorem d_Typist_type_61 : decode prog_12_method_3_code 61 = .ok (.aload_n 0, 1) := by decide +kernel
theorem d_Typist_type_62 : decode prog_12_method_3_code 62 = .ok (.iload_n 1, 1) := by decide +kernel
theorem d_Typist_type_63 : decode prog_12_method_3_code 63 = .ok (.putfield 25, 3) := by decide +kernel
theorem d_Typist_type_66 : decode prog_12_method_3_code 66 = .ok (.aload_n 0, 1) := by decide +kernel
theorem d_Typist_type_67 : decode prog_12_method_3_code 67 = .ok (.iconst 2, 1) := by decide +kernel
theorem d_Typist_type_68 : decode prog_12_method_3_code 68 = .ok (.putfield 9, 3) := by decide +kernel
theorem d_Typist_type_71 : decode prog_12_method_3_code 71 = .ok (.goto 44, 3) := by decide +kernel
theorem d_Typist_type_74 : decode prog_12_method_3_code 74 = .ok (.aload_n 0, 1) := by decide +kernel
theorem d_Typist_type_75 : decode prog_12_method_3_code 75 = .ok (.iconst 0, 1) := by decide +kernel
theorem d_Typist_type_76 : decode prog_12_method_3_code 76 = .ok (.putfield 9, 3) := by decide +kernel
theorem d_Typist_type_79 : decode prog_12_method_3_code 79 = .ok (.aload_n 2, 1) := by decide +kernel
theorem d_Typist_type_80 : decode prog_12_method_3_code 80 = .ok (.aload_n 0, 1) := by decide +kernel
theorem d_Typist_type_81 : decode prog_12_method_3_code 81 = .ok (.getfield 25, 3) := by decide +kernel
theorem d_Typist_type_84 : decode prog_12_method_3_code 84 = .ok (.invokestatic 28, 3) := by decide +kernel
theorem d_Typist_type_87 : decode prog_12_method_3_code 87 = .ok (.invokevirtual 32, 3) := by decide +kernel
theorem d_Typist_type_90 : decode prog_12_method_3_code 90 = .ok (.goto 25, 3) := by decide +kernel
theorem d_Typist_type_93 : decode prog_12_method_3_code 93 = .ok (.aload_n 0, 1) := by decide +kernel
theorem d_Typist_type_94 : decode prog_12_method_3_code 94 = .ok (.iload_n 1, 1) := by decide +kernel
theorem d_Typist_type_95 : decode prog_12_method_3_code 95 = .ok (.invokevirtual 38, 3) := by decide +kernel
theorem d_Typist_type_98 : decode prog_12_method_3_code 98 = .ok (.goto 17, 3) := by decide +kernel
theorem d_Typist_type_101 : decode prog_12_method_3_code 101 = .ok (.aload_n 0, 1) := by decide +kernel
theorem d_Typist_type_102 : decode prog_12_method_3_code 102 = .ok (.iload_n 1, 1) := by decide +kernel
theorem d_Typist_type_103 : decode prog_12_method_3_code 103 = .ok (.invokevirtual 42, 3) := by decide +kernel
theorem d_Typist_type_106 : decode prog_12_method_3_code 106 = .ok (.goto 9, 3) := by decide +kernel
theorem d_Typist_type_109 : decode prog_12_method_3_code 109 = .ok (.aload_n 0, 1) := by decide +kernel
theorem d_Typist_type_110 : decode prog_12_method_3_code 110 = .ok (.iload_n 1, 1) := by decide +kernel
theorem d_Typist_type_111 : decode prog_12_method_3_code 111 = .ok (.aload_n 2, 1) := by decide +kernel
theorem d_Typist_type_112 : decode prog_12_method_3_code 112 = .ok (.invokevirtual 45, 3) := by decide +kernel
theorem d_Typist_type_115 : decode prog_12_method_3_code 115 = .ok (.return_, 1) := by decide +kernel
def f_Typist_type (a1 : Int32) (M : qM) : Option qM := q_bp (f_Typist_goesOn a1 M) fun x1 => q_lt (fun (M2 : qM) => if (M2.1 287 0) = 0 then (q_cv (f_Typist_typeInText a1 M2) fun M4 => some M4) else if (M2.1 287 0) = 1 then (q_lt (qsI M2 287 1 a1) fun M6 => q_lt (qsI M6 287 0 2) fun M7 => some M7) else if (M2.1 287 0) = 2 then (q_lt (qsI M2 287 0 0) fun M9 => q_bp (f_Typist_meaningOf (M9.1 287 1) M9) fun x10 => q_cv (f_Tree_character x10 M9) fun M11 => some M11) else if (M2.1 287 0) = 3 then (q_cv (f_Typist_typeAfterLess a1 M2) fun M13 => some M13) else if (M2.1 287 0) = 4 then (q_cv (f_Typist_typeAfterLessSlash a1 M2) fun M15 => some M15) else (q_cv (f_Typist_typeInTag a1 M2) fun M16 => some M16)) fun (j17 : qM → Option qM) => if x1 = 0 then (q_cv (f_Typist_giveUpHeld M) fun M19 => j17 M19) else (j17 M)
abbrev rm_Typist_type : Room := { frames := 16, cells := 0, slots := 0, locals := 554 }
set_option maxRecDepth 100000 in
set_option maxHeartbeats 4000000 in
theorem c_Typist_type {l : Launch} {D : va_G} {dA : Nat → ClassId} {b : Nat} {adK adV : Nat → Nat} (a1 : Int32)  (M : qM) (out : qM) (hf : f_Typist_type a1 M = some out) : CTv l y_Typist_type w_Typist_type rm_Typist_type D (tysX dA) (enX dA b) 367 b (qX adK adV 367 b) [qr (some 287), qi a1, qr (some 1)] M out := by
  refine qm_v (cc := prog_12_method_3_code) (nL := 3) (by decide) rfl (Nat.le_of_ble_eq_true rfl) ?_
  intro p e s m args below meth c Q hx hb hts0 hown hml hK hs hret
  have hts : ∀ w ∈ lw_g, w.before args s = true := fun w h => hts0 w (List.mem_cons_of_mem _ h)
  show QJ p l e rm_Typist_type s m args below meth c (qA 367 b) b 3 0 0 Q (qWd D (enX dA b) 367 b) M 0 [(0, qr (some 287)), (1, qi a1), (2, qr (some 1))] []
  unfold f_Typist_type at hf
  refine qj_aload_n hx hb d_Typist_type_0 rfl 0 rfl ?_
  refine qj_iload_n hx hb d_Typist_type_1 rfl 1 rfl ?_
  have hf9 := q_bp_s hf; clear hf; obtain ⟨x1, hx1, hf⟩ := hf9
  refine qc_Vi (st := []) hx hb hml hown hts hK (qX_ok _ _ _ _) hs (c_Typist_goesOn a1 M _ hx1) ⟨(callB_of 1 hts (q_good tw_203) rfl rfl rfl (hts _ tw_202) (hts _ tw_204) (by decide +kernel) ⟨by decide, by decide⟩), (hts _ tw_205), (hts _ tw_206)⟩ (q_in (rfl : tcX 287 = 13) (by decide)) (en_13 (rfl : tcX 287 = 13)) rfl rfl rfl (Nat.le_of_ble_eq_true rfl) d_Typist_type_2 ?_
  have hf9 := q_lt_s hf; clear hf; obtain ⟨j17, ej17, hf⟩ := hf9
  have hj17 : ∀ (M2 : qM), j17 M2 = some out → QJ p l e rm_Typist_type s m args below meth c (qA 367 b) b 3 0 0 Q (qWd D (enX dA b) 367 b) M2 13 [(0, qr (some 287)), (1, qi a1), (2, qr (some 1))] [] := by
    clear hf
    intro M2 hf
    rw [ej17] at hf
    refine qj_aload_n hx hb d_Typist_type_13 rfl 0 rfl ?_
    refine qj_get hx hb hts hin_6 hown hK (q_in (rfl : tcX 287 = 13) (by decide)) (en_13 (rfl : tcX 287 = 13)) rfl 0 (by decide) (hts _ tw_3) (fun _ h => h) (qi (M2.1 287 0)) rfl d_Typist_type_14 ?_
    by_cases hk3 : (M2.1 287 0) = 0
    · replace hf := q_if_t hk3 hf
      refine qj_tableIn (off := 35) (tgt := 52) hx hb d_Typist_type_17 (by rw [hk3]; decide) (by rw [hk3]; decide) (by rw [hk3] <;> rfl) (by decide) ?_
      refine qj_aload_n hx hb d_Typist_type_52 rfl 0 rfl ?_
      refine qj_iload_n hx hb d_Typist_type_53 rfl 1 rfl ?_
      refine qj_aload_n hx hb d_Typist_type_54 rfl 2 rfl ?_
      have hf9 := q_cv_s hf; clear hf; obtain ⟨M4, hM4, hf⟩ := hf9
      refine qc_Vv (st := []) hx hb hml hown hts hK (qX_ok _ _ _ _) hs (c_Typist_typeInText a1 M2 _ hM4) ⟨(callB_of 2 hts (q_good tw_207) rfl rfl rfl (hts _ tw_202) (hts _ tw_208) (by decide +kernel) ⟨by decide, by decide⟩), (hts _ tw_209), (hts _ tw_210)⟩ (q_in (rfl : tcX 287 = 13) (by decide)) (en_13 (rfl : tcX 287 = 13)) rfl rfl rfl (Nat.le_of_ble_eq_true rfl) d_Typist_type_55 ?_
      refine qj_goto (tgt := 115) hx hb d_Typist_type_58 (by decide) ?_
      exact hret _ _ _ d_Typist_type_115 (Option.some.inj hf)
    replace hf := q_if_f hk3 hf
    by_cases hk5 : (M2.1 287 0) = 1
    · replace hf := q_if_t hk5 hf
      refine qj_tableIn (off := 44) (tgt := 61) hx hb d_Typist_type_17 (by rw [hk5]; decide) (by rw [hk5]; decide) (by rw [hk5] <;> rfl) (by decide) ?_
      refine qj_aload_n hx hb d_Typist_type_61 rfl 0 rfl ?_
      refine qj_iload_n hx hb d_Typist_type_62 rfl 1 rfl ?_
      have hf9 := q_lt_s hf; clear hf; obtain ⟨M6, eM6, hf⟩ := hf9
      refine qj_puti (ty := .int) hx hb hts hin_6 ty_6 tyok_6 nm_6 hown hK (q_in (rfl : tcX 287 = 13) (by decide)) (en_13 (rfl : tcX 287 = 13)) rfl 1 (by decide) (hts _ tw_112) (fun _ h => h) rfl (by decide +kernel) rfl rfl (Nat.le_of_ble_eq_true rfl) (sp_13_1 (rfl : tcX 287 = 13)) eM6 d_Typist_type_63 ?_
      refine qj_aload_n hx hb d_Typist_type_66 rfl 0 rfl ?_
      refine qj_iconst (v := 2) hx hb d_Typist_type_67 (by decide) ?_
      have hf9 := q_lt_s hf; clear hf; obtain ⟨M7, eM7, hf⟩ := hf9
      refine qj_puti (ty := .int) hx hb hts hin_6 ty_6 tyok_6 nm_6 hown hK (q_in (rfl : tcX 287 = 13) (by decide)) (en_13 (rfl : tcX 287 = 13)) rfl 0 (by decide) (hts _ tw_3) (fun _ h => h) rfl (by decide +kernel) rfl rfl (Nat.le_of_ble_eq_true rfl) (sp_13_0 (rfl : tcX 287 = 13)) eM7 d_Typist_type_68 ?_
      refine qj_goto (tgt := 115) hx hb d_Typist_type_71 (by decide) ?_
      exact hret _ _ _ d_Typist_type_115 (Option.some.inj hf)
    replace hf := q_if_f hk5 hf
    by_cases hk8 : (M2.1 287 0) = 2
    · replace hf := q_if_t hk8 hf
      refine qj_tableIn (off := 57) (tgt := 74) hx hb d_Typist_type_17 (by rw [hk8]; decide) (by rw [hk8]; decide) (by rw [hk8] <;> rfl) (by decide) ?_
      refine qj_aload_n hx hb d_Typist_type_74 rfl 0 rfl ?_
      refine qj_iconst (v := 0) hx hb d_Typist_type_75 (by decide) ?_
      have hf9 := q_lt_s hf; clear hf; obtain ⟨M9, eM9, hf⟩ := hf9
      refine qj_puti (ty := .int) hx hb hts hin_6 ty_6 tyok_6 nm_6 hown hK (q_in (rfl : tcX 287 = 13) (by decide)) (en_13 (rfl : tcX 287 = 13)) rfl 0 (by decide) (hts _ tw_3) (fun _ h => h) rfl (by decide +kernel) rfl rfl (Nat.le_of_ble_eq_true rfl) (sp_13_0 (rfl : tcX 287 = 13)) eM9 d_Typist_type_76 ?_
      refine qj_aload_n hx hb d_Typist_type_79 rfl 2 rfl ?_
      refine qj_aload_n hx hb d_Typist_type_80 rfl 0 rfl ?_
      refine qj_get hx hb hts hin_6 hown hK (q_in (rfl : tcX 287 = 13) (by decide)) (en_13 (rfl : tcX 287 = 13)) rfl 1 (by decide) (hts _ tw_112) (fun _ h => h) (qi (M9.1 287 1)) rfl d_Typist_type_81 ?_
      have hf9 := q_bp_s hf; clear hf; obtain ⟨x10, hx10, hf⟩ := hf9
      refine qc_Si (st := [qr (some 1)]) hx hb hml hown hts hK (qX_ok _ _ _ _) hs (c_Typist_meaningOf (M9.1 287 1) M9 _ hx10) ⟨(callB_of 1 hts (q_good tw_211) rfl rfl rfl (hts _ tw_202) (hts _ tw_212) (by decide +kernel) ⟨by decide, by decide⟩), (hts _ tw_213)⟩ rfl rfl (Nat.le_of_ble_eq_true rfl) d_Typist_type_84 ?_
      have hf9 := q_cv_s hf; clear hf; obtain ⟨M11, hM11, hf⟩ := hf9
      refine qc_Vv (st := []) hx hb hml hown hts hK (qX_ok _ _ _ _) hs (c_Tree_character x10 M9 _ hM11) ⟨(callB_of 1 hts (q_good tw_108) rfl rfl rfl (hts _ tw_54) (hts _ tw_109) (by decide +kernel) ⟨by decide, by decide⟩), (hts _ tw_110), (hts _ tw_111)⟩ (q_in (rfl : tcX 1 = 1) (by decide)) (en_1 (rfl : tcX 1 = 1)) rfl rfl rfl (Nat.le_of_ble_eq_true rfl) d_Typist_type_87 ?_
      refine qj_goto (tgt := 115) hx hb d_Typist_type_90 (by decide) ?_
      exact hret _ _ _ d_Typist_type_115 (Option.some.inj hf)
    replace hf := q_if_f hk8 hf
    by_cases hk12 : (M2.1 287 0) = 3
    · replace hf := q_if_t hk12 hf
      refine qj_tableIn (off := 76) (tgt := 93) hx hb d_Typist_type_17 (by rw [hk12]; decide) (by rw [hk12]; decide) (by rw [hk12] <;> rfl) (by decide) ?_
      refine qj_aload_n hx hb d_Typist_type_93 rfl 0 rfl ?_
      refine qj_iload_n hx hb d_Typist_type_94 rfl 1 rfl ?_
      have hf9 := q_cv_s hf; clear hf; obtain ⟨M13, hM13, hf⟩ := hf9
      refine qc_Vv (st := []) hx hb hml hown hts hK (qX_ok _ _ _ _) hs (c_Typist_typeAfterLess a1 M2 _ hM13) ⟨(callB_of 1 hts (q_good tw_214) rfl rfl rfl (hts _ tw_202) (hts _ tw_215) (by decide +kernel) ⟨by decide, by decide⟩), (hts _ tw_216), (hts _ tw_217)⟩ (q_in (rfl : tcX 287 = 13) (by decide)) (en_13 (rfl : tcX 287 = 13)) rfl rfl rfl (Nat.le_of_ble_eq_true rfl) d_Typist_type_95 ?_
      refine qj_goto (tgt := 115) hx hb d_Typist_type_98 (by decide) ?_
      exact hret _ _ _ d_Typist_type_115 (Option.some.inj hf)
    replace hf := q_if_f hk12 hf
    by_cases hk14 : (M2.1 287 0) = 4
    · replace hf := q_if_t hk14 hf
      refine qj_tableIn (off := 84) (tgt := 101) hx hb d_Typist_type_17 (by rw [hk14]; decide) (by rw [hk14]; decide) (by rw [hk14] <;> rfl) (by decide) ?_
      refine qj_aload_n hx hb d_Typist_type_101 rfl 0 rfl ?_
      refine qj_iload_n hx hb d_Typist_type_102 rfl 1 rfl ?_
      have hf9 := q_cv_s hf; clear hf; obtain ⟨M15, hM15, hf⟩ := hf9
      refine qc_Vv (st := []) hx hb hml hown hts hK (qX_ok _ _ _ _) hs (c_Typist_typeAfterLessSlash a1 M2 _ hM15) ⟨(callB_of 1 hts (q_good tw_218) rfl rfl rfl (hts _ tw_202) (hts _ tw_219) (by decide +kernel) ⟨by decide, by decide⟩), (hts _ tw_220), (hts _ tw_221)⟩ (q_in (rfl : tcX 287 = 13) (by decide)) (en_13 (rfl : tcX 287 = 13)) rfl rfl rfl (Nat.le_of_ble_eq_true rfl) d_Typist_type_103 ?_
      refine qj_goto (tgt := 115) hx hb d_Typist_type_106 (by decide) ?_
      exact hret _ _ _ d_Typist_type_115 (Option.some.inj hf)
    replace hf := q_if_f hk14 hf
    refine qj_tableOut (tgt := 109) hx hb d_Typist_type_17 (by have z0 := lv_neT hk3 (a := 0) (by decide); have z1 := lv_neT hk5 (a := 1) (by decide); have z2 := lv_neT hk8 (a := 2) (by decide); have z3 := lv_neT hk12 (a := 3) (by decide); have z4 := lv_neT hk14 (a := 4) (by decide); omega) (by decide) ?_
    refine qj_aload_n hx hb d_Typist_type_109 rfl 0 rfl ?_
    refine qj_iload_n hx hb d_Typist_type_110 rfl 1 rfl ?_
    refine qj_aload_n hx hb d_Typist_type_111 rfl 2 rfl ?_
    have hf9 := q_cv_s hf; clear hf; obtain ⟨M16, hM16, hf⟩ := hf9
    refine qc_Vv (st := []) hx hb hml hown hts hK (qX_ok _ _ _ _) hs (c_Typist_typeInTag a1 M2 _ hM16) ⟨(callB_of 2 hts (q_good tw_222) rfl rfl rfl (hts _ tw_202) (hts _ tw_223) (by decide +kernel) ⟨by decide, by decide⟩), (hts _ tw_224), (hts _ tw_225)⟩ (q_in (rfl : tcX 287 = 13) (by decide)) (en_13 (rfl : tcX 287 = 13)) rfl rfl rfl (Nat.le_of_ble_eq_true rfl) d_Typist_type_112 ?_
    exact hret _ _ _ d_Typist_type_115 (Option.some.inj hf)
  refine qj_if_ne (tgt := 13) hx hb d_Typist_type_5 (by decide) (fun hc18 => ?_) (fun hc18 => ?_)
  · replace hf := q_if_f hc18 hf
    exact hj17 M hf
  · replace hf := q_if_t hc18 hf
    refine qj_aload_n hx hb d_Typist_type_8 rfl 0 rfl ?_
    refine qj_aload_n hx hb d_Typist_type_9 rfl 2 rfl ?_
    have hf9 := q_cv_s hf; clear hf; obtain ⟨M19, hM19, hf⟩ := hf9
    refine qc_Vv (st := []) hx hb hml hown hts hK (qX_ok _ _ _ _) hs (c_Typist_giveUpHeld  M _ hM19) ⟨(callB_of 1 hts (q_good tw_226) rfl rfl rfl (hts _ tw_202) (hts _ tw_227) (by decide +kernel) ⟨by decide, by decide⟩), (hts _ tw_228), (hts _ tw_229)⟩ (q_in (rfl : tcX 287 = 13) (by decide)) (en_13 (rfl : tcX 287 = 13)) rfl rfl rfl (Nat.le_of_ble_eq_true rfl) d_Typist_type_10 ?_
    exact hj17 M19 hf
theorem d_Node_nextInDocument_0 : decode prog_6_method_8_code 0 = .ok (.aload_n 0, 1) := by decide +kernel
theorem d_Node_nextInDocument_1 : decode prog_6_method_8_code 1 = .ok (.getfield 44, 3) := by decide +kernel
theorem d_Node_nextInDocument_4 : decode prog_6_method_8_code 4 = .ok (.ifnull 8, 3) := by decide +kernel
theorem d_Node_nextInDocument_7 : decode prog_6_method_8_code 7 = .ok (.aload_n 0, 1) := by decide +kernel
theorem d_Node_nextInDocument_8 : decode prog_6_method_8_code 8 = .ok (.getfield 44, 3) := by decide +kernel
theorem d_Node_nextInDocument_11 : decode prog_6_method_8_code 11 = .ok (.areturn, 1) := by decide +kernel
theorem d_Node_nextInDocument_12 : decode prog_6_method_8_code 12 = .ok (.aload_n 0, 1) := by decide +kernel
theorem d_Node_nextInDocument_13 : decode prog_6_method_8_code 13 = .ok (.astore_n 1, 1) := by decide +kernel
theorem d_Node_nextInDocument_14 : decode prog_6_method_8_code 14 = .ok (.aload_n 1, 1) := by decide +kernel
theorem d_Node_nextInDocument_15 : decode prog_6_method_8_code 15 = .ok (.ifnull 18, 3) := by decide +kernel
theorem d_Node_nextInDocument_18 : decode prog_6_method_8_code 18 = .ok (.aload_n 1, 1) := by decide +kernel
theorem d_Node_nextInDocument_19 : decode prog_6_method_8_code 19 = .ok (.getfield 53, 3) := by decide +kernel
theorem d_Node_nextInDocument_22 : decode prog_6_method_8_code 22 = .ok (.ifnonnull 11, 3) := by decide +kernel
theorem d_Node_nextInDocument_25 : decode prog_6_method_8_code 25 = .ok (.aload_n 1, 1) := by decide +kernel
theorem d_Node_nextInDocument_26 : decode prog_6_method_8_code 26 = .ok (.getfield 40, 3) := by decide +kernel
theorem d_Node_nextInDocument_29 : decode prog_6_method_8_code 29 = .ok (.astore_n 1, 1) := by decide +kernel
theorem d_Node_nextInDocument_30 : decode prog_6_method_8_code 30 = .ok (.goto (-16), 3) := by decide +kernel
theorem d_Node_nextInDocument_33 : decode prog_6_method_8_code 33 = .ok (.aload_n 1, 1) := by decide +kernel
theorem d_Node_nextInDocument_34 : decode prog_6_method_8_code 34 = .ok (.ifnonnull 7, 3) := by decide +kernel
theorem d_Node_nextInDocument_37 : decode prog_6_method_8_code 37 = .ok (.aconst_null, 1) := by decide +kernel
theorem d_Node_nextInDocument_38 : decode prog_6_method_8_code 38 = .ok (.goto 7, 3) := by decide +kernel
theorem d_Node_nextInDocument_41 : decode prog_6_method_8_code 41 = .ok (.aload_n 1, 1) := by decide +kernel
theorem d_Node_nextInDocument_42 : decode prog_6_method_8_code 42 = .ok (.getfield 53, 3) := by decide +kernel
theorem d_Node_nextInDocument_45 : decode prog_6_method_8_code 45 = .ok (.areturn, 1) := by decide +kernel
def f_Node_nextInDocument_14 (M : qM) : Nat → (Option Nat → Option (Option Nat)) → Option Nat → Option (Option Nat)
  | 0, _, _ => none
  | n + 1, K4, r3 => q_on r3 (K4 none) fun o5 => (q_lt (M.2 o5 8) fun r6 => q_on r6 (q_lt (M.2 o5 4) fun r8 => f_Node_nextInDocument_14 M n K4 r8) fun o7 => (K4 (some o5)))
def f_Node_nextInDocument (q0 : Nat) (M : qM) : Option (Option Nat) := q_lt (M.2 q0 5) fun r1 => q_on r1 (f_Node_nextInDocument_14 M 1000 (fun (r11 : Option Nat) => q_on r11 (some none) fun o12 => (q_lt (M.2 o12 8) fun r13 => some r13)) (some q0)) fun o2 => (q_lt (M.2 q0 5) fun r15 => some r15)
abbrev rm_Node_nextInDocument : Room := { frames := 0, cells := 0, slots := 0, locals := 0 }
set_option maxRecDepth 100000 in
set_option maxHeartbeats 4000000 in
theorem c_Node_nextInDocument {l : Launch} {D : va_G} {dA : Nat → ClassId} {b : Nat} {adK adV : Nat → Nat} (q0 : Nat) (tq0 : tcX q0 = 7) (M : qM) (out : Option Nat) (hf : f_Node_nextInDocument q0 M = some out) : CTr l y_Node_nextInDocument w_Node_nextInDocument rm_Node_nextInDocument D (tysX dA) (enX dA b) 367 b (qX adK adV 367 b) 7 [qr (some q0)] M (out, M) := by
  refine qm_r (tt := 7) (cc := prog_6_method_8_code) (nL := 2) (by decide) rfl (Or.inl ⟨_, rfl⟩) (Nat.le_of_ble_eq_true rfl) ?_
  intro p e s m args below meth c Q hx hb hts0 hown hml hK hs hret
  have hts : ∀ w ∈ lw_g, w.before args s = true := fun w h => hts0 w (List.mem_cons_of_mem _ h)
  show QJ p l e rm_Node_nextInDocument s m args below meth c (qA 367 b) b 2 0 0 Q (qWd D (enX dA b) 367 b) M 0 [(0, qr (some q0))] []
  unfold f_Node_nextInDocument at hf
  refine qj_aload_n hx hb d_Node_nextInDocument_0 rfl 0 rfl ?_
  have hf9 := q_lt_s hf; clear hf; obtain ⟨r1, er1, hf⟩ := hf9
  refine qj_w fun w => ?_
  have tr1 : ∀ o, r1 = some o → tcX o = 7 := fun o h => (w _ _ o (er1.symm.trans h)).trans (by rw [tq0] <;> rfl)
  refine qj_get hx hb hts hin_3 hown hK (q_in tq0 (by decide)) (en_7 tq0) rfl 5 (by decide) (hts _ tw_27) (fun _ h => h) (qr r1) (by rw [er1]; rfl) d_Node_nextInDocument_1 ?_
  refine qj_ifnull (tgt := 12) hx hb d_Node_nextInDocument_4 (by decide) (fun hn16 => ?_) (fun o2 hn16 => ?_)
  · subst hn16
    replace hf := q_on_n hf
    refine qj_aload_n hx hb d_Node_nextInDocument_12 rfl 0 rfl ?_
    refine qj_astore_n hx hb d_Node_nextInDocument_13 rfl (by decide) rfl ?_
    have hL14 : ∀ (n : Nat) (K4 : Option Nat → Option (Option Nat)), (∀ (r11 : Option Nat), (∀ o, r11 = some o → tcX o = 7) → K4 r11 = some out → QJ p l e rm_Node_nextInDocument s m args below meth c (qA 367 b) b 2 0 0 Q (qWd D (enX dA b) 367 b) M 33 [(1, qr r11)] []) → ∀ (r3 : Option Nat), (∀ o, r3 = some o → tcX o = 7) → f_Node_nextInDocument_14 M n K4 r3 = some out → QJ p l e rm_Node_nextInDocument s m args below meth c (qA 367 b) b 2 0 0 Q (qWd D (enX dA b) 367 b) M 14 [(1, qr r3)] [] := by
      clear hf
      intro n
      induction n with
      | zero =>
        intro K4 hK4 r3 tr3 hf
        exact absurd hf (by simp [f_Node_nextInDocument_14])
      | succ n ih14 =>
        intro K4 hK4 r3 tr3 hf
        rw [f_Node_nextInDocument_14] at hf
        have ih14 := ih14 K4 hK4
        refine qj_aload_n hx hb d_Node_nextInDocument_14 rfl 0 rfl ?_
        refine qj_ifnull (tgt := 33) hx hb d_Node_nextInDocument_15 (by decide) (fun hn10 => ?_) (fun o5 hn10 => ?_)
        · subst hn10
          replace hf := q_on_n hf
          exact hK4 none q_tn hf
        · subst hn10
          replace hf := q_on_s hf
          refine qj_aload_n hx hb d_Node_nextInDocument_18 rfl 0 rfl ?_
          have hf9 := q_lt_s hf; clear hf; obtain ⟨r6, er6, hf⟩ := hf9
          refine qj_w fun w => ?_
          have tr6 : ∀ o, r6 = some o → tcX o = 7 := fun o h => (w _ _ o (er6.symm.trans h)).trans (by rw [(tr3 _ rfl)] <;> rfl)
          refine qj_get hx hb hts hin_3 hown hK (q_in (tr3 _ rfl) (by decide)) (en_7 (tr3 _ rfl)) rfl 8 (by decide) (hts _ tw_30) (fun _ h => h) (qr r6) (by rw [er6]; rfl) d_Node_nextInDocument_19 ?_
          refine qj_ifnonnull (tgt := 33) hx hb d_Node_nextInDocument_22 (by decide) (fun o7 hn9 => ?_) (fun hn9 => ?_)
          · subst hn9
            replace hf := q_on_s hf
            exact hK4 (some o5) (q_ts (tr3 _ rfl)) hf
          · subst hn9
            replace hf := q_on_n hf
            refine qj_aload_n hx hb d_Node_nextInDocument_25 rfl 0 rfl ?_
            have hf9 := q_lt_s hf; clear hf; obtain ⟨r8, er8, hf⟩ := hf9
            refine qj_w fun w => ?_
            have tr8 : ∀ o, r8 = some o → tcX o = 7 := fun o h => (w _ _ o (er8.symm.trans h)).trans (by rw [(tr3 _ rfl)] <;> rfl)
            refine qj_get hx hb hts hin_3 hown hK (q_in (tr3 _ rfl) (by decide)) (en_7 (tr3 _ rfl)) rfl 4 (by decide) (hts _ tw_26) (fun _ h => h) (qr r8) (by rw [er8]; rfl) d_Node_nextInDocument_26 ?_
            refine qj_astore_n hx hb d_Node_nextInDocument_29 rfl (by decide) rfl ?_
            refine qj_goto (tgt := 14) hx hb d_Node_nextInDocument_30 (by decide) ?_
            exact ih14 r8 tr8 hf
    refine qj_sub [0] rfl ?_
    refine hL14 _ _ (fun r11 tr11 hf9 => ?_) (some q0) (q_ts tq0) hf
    clear hf; have hf := hf9; clear hf9
    refine qj_aload_n hx hb d_Node_nextInDocument_33 rfl 0 rfl ?_
    refine qj_ifnonnull (tgt := 41) hx hb d_Node_nextInDocument_34 (by decide) (fun o12 hn14 => ?_) (fun hn14 => ?_)
    · subst hn14
      replace hf := q_on_s hf
      refine qj_aload_n hx hb d_Node_nextInDocument_41 rfl 0 rfl ?_
      have hf9 := q_lt_s hf; clear hf; obtain ⟨r13, er13, hf⟩ := hf9
      refine qj_w fun w => ?_
      have tr13 : ∀ o, r13 = some o → tcX o = 7 := fun o h => (w _ _ o (er13.symm.trans h)).trans (by rw [(tr11 _ rfl)] <;> rfl)
      refine qj_get hx hb hts hin_3 hown hK (q_in (tr11 _ rfl) (by decide)) (en_7 (tr11 _ rfl)) rfl 8 (by decide) (hts _ tw_30) (fun _ h => h) (qr r13) (by rw [er13]; rfl) d_Node_nextInDocument_42 ?_
      exact hret _ _ _ _ tr13 d_Node_nextInDocument_45 (congrArg (fun z => (z, M)) (Option.some.inj hf))
    · subst hn14
      replace hf := q_on_n hf
      refine qj_null hx hb d_Node_nextInDocument_37 ?_
      refine qj_goto (tgt := 45) hx hb d_Node_nextInDocument_38 (by decide) ?_
      exact hret _ _ _ _ q_tn d_Node_nextInDocument_45 (congrArg (fun z => (z, M)) (Option.some.inj hf))
  · subst hn16
    replace hf := q_on_s hf
    refine qj_aload_n hx hb d_Node_nextInDocument_7 rfl 0 rfl ?_
    have hf9 := q_lt_s hf; clear hf; obtain ⟨r15, er15, hf⟩ := hf9
    refine qj_w fun w => ?_
    have tr15 : ∀ o, r15 = some o → tcX o = 7 := fun o h => (w _ _ o (er15.symm.trans h)).trans (by rw [tq0] <;> rfl)
    refine qj_get hx hb hts hin_3 hown hK (q_in tq0 (by decide)) (en_7 tq0) rfl 5 (by decide) (hts _ tw_27) (fun _ h => h) (qr r15) (by rw [er15]; rfl) d_Node_nextInDocument_8 ?_
    exact hret _ _ _ _ tr15 d_Node_nextInDocument_11 (congrArg (fun z => (z, M)) (Option.some.inj hf))
theorem d_Tree_number_0 : decode prog_11_method_3_code 0 = .ok (.aload_n 0, 1) := by decide +kernel
theorem d_Tree_number_1 : decode prog_11_method_3_code 1 = .ok (.getfield 35, 3) := by decide +kernel
theorem d_Tree_number_4 : decode prog_11_method_3_code 4 = .ok (.astore_n 1, 1) := by decide +kernel
theorem d_Tree_number_5 : decode prog_11_method_3_code 5 = .ok (.iconst 0, 1) := by decide +kernel
theorem d_Tree_number_6 : decode prog_11_method_3_code 6 = .ok (.istore_n 2, 1) := by decide +kernel
theorem d_Tree_number_7 : decode prog_11_method_3_code 7 = .ok (.iload_n 2, 1) := by decide +kernel
theorem d_Tree_number_8 : decode prog_11_method_3_code 8 = .ok (.aload_n 0, 1) := by decide +kernel
theorem d_Tree_number_9 : decode prog_11_method_3_code 9 = .ok (.getfield 47, 3) := by decide +kernel
theorem d_Tree_number_12 : decode prog_11_method_3_code 12 = .ok (.if_icmp .ge 30, 3) := by decide +kernel
theorem d_Tree_number_15 : decode prog_11_method_3_code 15 = .ok (.aload_n 1, 1) := by decide +kernel
theorem d_Tree_number_16 : decode prog_11_method_3_code 16 = .ok (.ifnull 26, 3) := by decide +kernel
theorem d_Tree_number_19 : decode prog_11_method_3_code 19 = .ok (.aload_n 1, 1) := by decide +kernel
theorem d_Tree_number_20 : decode prog_11_method_3_code 20 = .ok (.iload_n 2, 1) := by decide +kernel
theorem d_Tree_number_21 : decode prog_11_method_3_code 21 = .ok (.putfield 64, 3) := by decide +kernel
theorem d_Tree_number_24 : decode prog_11_method_3_code 24 = .ok (.aload_n 0, 1) := by decide +kernel
theorem d_Tree_number_25 : decode prog_11_method_3_code 25 = .ok (.getfield 17, 3) := by decide +kernel
theorem d_Tree_number_28 : decode prog_11_method_3_code 28 = .ok (.iload_n 2, 1) := by decide +kernel
theorem d_Tree_number_29 : decode prog_11_method_3_code 29 = .ok (.aload_n 1, 1) := by decide +kernel
theorem d_Tree_number_30 : decode prog_11_method_3_code 30 = .ok (.aastore, 1) := by decide +kernel
theorem d_Tree_number_31 : decode prog_11_method_3_code 31 = .ok (.aload_n 1, 1) := by decide +kernel
theorem d_Tree_number_32 : decode prog_11_method_3_code 32 = .ok (.invokevirtual 66, 3) := by decide +kernel
theorem d_Tree_number_35 : decode prog_11_method_3_code 35 = .ok (.astore_n 1, 1) := by decide +kernel
theorem d_Tree_number_36 : decode prog_11_method_3_code 36 = .ok (.iinc 2 1, 3) := by decide +kernel
theorem d_Tree_number_39 : decode prog_11_method_3_code 39 = .ok (.goto (-32), 3) := by decide +kernel
theorem d_Tree_number_42 : decode prog_11_method_3_code 42 = .ok (.return_, 1) := by decide +kernel
def f_Tree_number_7  : Nat → (qM → Option qM) → Option Nat → Int32 → qM → Option qM
  | 0, _, _, _, _ => none
  | n + 1, K4, r1, x2, M3 => if (M3.1 1 5) ≤ x2 then (K4 M3) else (q_on r1 (K4 M3) fun o6 => (q_lt (qsI M3 o6 2 x2) fun M7 => q_ix x2 24 <| q_lt (qsR M7 3 x2.toNatClampNeg (some o6)) fun M9 => q_bp (f_Node_nextInDocument o6 M9) fun r10 => f_Tree_number_7 n K4 r10 (x2 + 1) M9))
def f_Tree_number  (M : qM) : Option qM := f_Tree_number_7 1000 (fun (M12 : qM) => some M12) (some 7) 0 M
abbrev rm_Tree_number : Room := { frames := 1, cells := 0, slots := 0, locals := 21 }
set_option maxRecDepth 100000 in
set_option maxHeartbeats 4000000 in
theorem c_Tree_number {l : Launch} {D : va_G} {dA : Nat → ClassId} {b : Nat} {adK adV : Nat → Nat}   (M : qM) (out : qM) (hf : f_Tree_number M = some out) : CTv l y_Tree_number w_Tree_number rm_Tree_number D (tysX dA) (enX dA b) 367 b (qX adK adV 367 b) [qr (some 1)] M out := by
  refine qm_v (cc := prog_11_method_3_code) (nL := 3) (by decide) rfl (Nat.le_of_ble_eq_true rfl) ?_
  intro p e s m args below meth c Q hx hb hts0 hown hml hK hs hret
  have hts : ∀ w ∈ lw_g, w.before args s = true := fun w h => hts0 w (List.mem_cons_of_mem _ h)
  show QJ p l e rm_Tree_number s m args below meth c (qA 367 b) b 3 0 0 Q (qWd D (enX dA b) 367 b) M 0 [(0, qr (some 1))] []
  unfold f_Tree_number at hf
  refine qj_aload_n hx hb d_Tree_number_0 rfl 0 rfl ?_
  refine qj_get hx hb hts hin_5 hown hK (q_in (rfl : tcX 1 = 1) (by decide)) (en_1 (rfl : tcX 1 = 1)) rfl 4 (by decide) (hts _ tw_18) (fun _ h => h) (qr (some 7)) rfl d_Tree_number_1 ?_
  refine qj_astore_n hx hb d_Tree_number_4 rfl (by decide) rfl ?_
  refine qj_iconst (v := 0) hx hb d_Tree_number_5 (by decide) ?_
  refine qj_istore_n hx hb d_Tree_number_6 rfl (by decide) rfl ?_
  have hL7 : ∀ (n : Nat) (K4 : qM → Option qM), (∀ (M12 : qM), K4 M12 = some out → QJ p l e rm_Tree_number s m args below meth c (qA 367 b) b 3 0 0 Q (qWd D (enX dA b) 367 b) M12 42 [] []) → ∀ (r1 : Option Nat) (x2 : Int32) (M3 : qM), (∀ o, r1 = some o → tcX o = 7) → f_Tree_number_7 n K4 r1 x2 M3 = some out → QJ p l e rm_Tree_number s m args below meth c (qA 367 b) b 3 0 0 Q (qWd D (enX dA b) 367 b) M3 7 [(0, qr (some 1)), (1, qr r1), (2, qi x2)] [] := by
    clear hf
    intro n
    induction n with
    | zero =>
      intro K4 hK4 r1 x2 M3 tr1 hf
      exact absurd hf (by simp [f_Tree_number_7])
    | succ n ih7 =>
      intro K4 hK4 r1 x2 M3 tr1 hf
      rw [f_Tree_number_7] at hf
      have ih7 := ih7 K4 hK4
      refine qj_iload_n hx hb d_Tree_number_7 rfl 2 rfl ?_
      refine qj_aload_n hx hb d_Tree_number_8 rfl 0 rfl ?_
      refine qj_get hx hb hts hin_5 hown hK (q_in (rfl : tcX 1 = 1) (by decide)) (en_1 (rfl : tcX 1 = 1)) rfl 5 (by decide) (hts _ tw_35) (fun _ h => h) (qi (M3.1 1 5)) rfl d_Tree_number_9 ?_
      refine qj_icmp_ge (tgt := 42) hx hb d_Tree_number_12 (by decide) (fun hc5 => ?_) (fun hc5 => ?_)
      · replace hf := q_if_t hc5 hf
        refine qj_sub [] rfl ?_
        exact hK4 M3 hf
      · replace hf := q_if_f hc5 hf
        refine qj_aload_n hx hb d_Tree_number_15 rfl 1 rfl ?_
        refine qj_ifnull (tgt := 42) hx hb d_Tree_number_16 (by decide) (fun hn11 => ?_) (fun o6 hn11 => ?_)
        · subst hn11
          replace hf := q_on_n hf
          refine qj_sub [] rfl ?_
          exact hK4 M3 hf
        · subst hn11
          replace hf := q_on_s hf
          refine qj_aload_n hx hb d_Tree_number_19 rfl 1 rfl ?_
          refine qj_iload_n hx hb d_Tree_number_20 rfl 2 rfl ?_
          have hf9 := q_lt_s hf; clear hf; obtain ⟨M7, eM7, hf⟩ := hf9
          refine qj_puti (ty := .int) hx hb hts hin_3 ty_3 tyok_3 nm_3 hown hK (q_in (tr1 _ rfl) (by decide)) (en_7 (tr1 _ rfl)) rfl 2 (by decide) (hts _ tw_230) (fun _ h => h) rfl (by decide +kernel) rfl rfl (Nat.le_of_ble_eq_true rfl) (sp_7_2 (tr1 _ rfl)) eM7 d_Tree_number_21 ?_
          refine qj_aload_n hx hb d_Tree_number_24 rfl 0 rfl ?_
          refine qj_get hx hb hts hin_5 hown hK (q_in (rfl : tcX 1 = 1) (by decide)) (en_1 (rfl : tcX 1 = 1)) rfl 1 (by decide) (hts _ tw_231) (fun _ h => h) (qr (some 3)) rfl d_Tree_number_25 ?_
          refine qj_iload_n hx hb d_Tree_number_28 rfl 2 rfl ?_
          refine qj_aload_n hx hb d_Tree_number_29 rfl 1 rfl ?_
          have hf9 := q_ix_s hf; clear hf; obtain ⟨hi8, hf⟩ := hf9
          have hf9 := q_lt_s hf; clear hf; obtain ⟨M9, eM9, hf⟩ := hf9
          refine qj_aast (t0 := 3) (ci := 3) hx hb hK (q_in (rfl : tcX 3 = 3) (by decide)) (en_3 (rfl : tcX 3 = 3)) rfl rfl (fun q hq => ⟨q_in ((q_ts (tr1 _ rfl)) q hq) (by decide), _, en_7 ((q_ts (tr1 _ rfl)) q hq)⟩) hi8 (fun o h => ((q_ts (tr1 _ rfl)) o h).trans (by rw [(rfl : tcX 3 = 3)] <;> rfl)) eM9 d_Tree_number_30 ?_
          refine qj_aload_n hx hb d_Tree_number_31 rfl 1 rfl ?_
          have hf9 := q_bp_s hf; clear hf; obtain ⟨r10, hr10, hf⟩ := hf9
          refine qc_Vr (st := []) hx hb hml hown hts hK (qX_ok _ _ _ _) hs (c_Node_nextInDocument o6 (tr1 _ rfl) M9 _ hr10) ⟨(callB_of 0 hts (q_good tw_232) rfl rfl rfl (hts _ tw_37) (hts _ tw_233) (by decide +kernel) ⟨by decide, by decide⟩), (hts _ tw_234), (hts _ tw_235)⟩ (q_in (tr1 _ rfl) (by decide)) (en_7 (tr1 _ rfl)) rfl rfl rfl (Nat.le_of_ble_eq_true rfl) d_Tree_number_32 (fun tr10 => ?_)
          refine qj_astore_n hx hb d_Tree_number_35 rfl (by decide) rfl ?_
          refine qj_iinc (j := 2) (v := x2 + 1) hx hb d_Tree_number_36 rfl rfl (by decide) rfl ?_
          refine qj_goto (tgt := 7) hx hb d_Tree_number_39 (by decide) ?_
          refine qj_sub [2, 1, 0] rfl ?_
          exact ih7 r10 (x2 + 1) M9 tr10 hf
  refine qj_sub [2, 1, 0] rfl ?_
  refine hL7 _ _ (fun M12 hf9 => ?_) (some 7) 0 M (q_ts (rfl : tcX 7 = 7)) hf
  clear hf; have hf := hf9; clear hf9
  exact hret _ _ _ d_Tree_number_42 (Option.some.inj hf)
theorem d_Pg_html_0 : decode prog_1_method_2_code 0 = .ok (.iload_n 1, 1) := by decide +kernel
theorem d_Pg_html_1 : decode prog_1_method_2_code 1 = .ok (.invokestatic 40, 3) := by decide +kernel
theorem d_Pg_html_4 : decode prog_1_method_2_code 4 = .ok (.ifCond .eq 23, 3) := by decide +kernel
theorem d_Pg_html_7 : decode prog_1_method_2_code 7 = .ok (.aload_n 0, 1) := by decide +kernel
theorem d_Pg_html_8 : decode prog_1_method_2_code 8 = .ok (.getfield 44, 3) := by decide +kernel
theorem d_Pg_html_11 : decode prog_1_method_2_code 11 = .ok (.sipush 160, 3) := by decide +kernel
theorem d_Pg_html_14 : decode prog_1_method_2_code 14 = .ok (.if_icmp .ge 13, 3) := by decide +kernel
theorem d_Pg_html_17 : decode prog_1_method_2_code 17 = .ok (.aload_n 0, 1) := by decide +kernel
theorem d_Pg_html_18 : decode prog_1_method_2_code 18 = .ok (.getfield 10, 3) := by decide +kernel
theorem d_Pg_html_21 : decode prog_1_method_2_code 21 = .ok (.getfield 48, 3) := by decide +kernel
theorem d_Pg_html_24 : decode prog_1_method_2_code 24 = .ok (.ifCond .eq 5, 3) := by decide +kernel
theorem d_Pg_html_27 : decode prog_1_method_2_code 27 = .ok (.iconst 0, 1) := by decide +kernel
theorem d_Pg_html_28 : decode prog_1_method_2_code 28 = .ok (.ireturn, 1) := by decide +kernel
theorem d_Pg_html_29 : decode prog_1_method_2_code 29 = .ok (.aload_n 0, 1) := by decide +kernel
theorem d_Pg_html_30 : decode prog_1_method_2_code 30 = .ok (.dup, 1) := by decide +kernel
theorem d_Pg_html_31 : decode prog_1_method_2_code 31 = .ok (.getfield 44, 3) := by decide +kernel
theorem d_Pg_html_34 : decode prog_1_method_2_code 34 = .ok (.iconst 1, 1) := by decide +kernel
theorem d_Pg_html_35 : decode prog_1_method_2_code 35 = .ok (.iadd, 1) := by decide +kernel
theorem d_Pg_html_36 : decode prog_1_method_2_code 36 = .ok (.putfield 44, 3) := by decide +kernel
theorem d_Pg_html_39 : decode prog_1_method_2_code 39 = .ok (.aload_n 0, 1) := by decide +kernel
theorem d_Pg_html_40 : decode prog_1_method_2_code 40 = .ok (.invokevirtual 52, 3) := by decide +kernel
theorem d_Pg_html_43 : decode prog_1_method_2_code 43 = .ok (.aload_n 0, 1) := by decide +kernel
theorem d_Pg_html_44 : decode prog_1_method_2_code 44 = .ok (.getfield 19, 3) := by decide +kernel
theorem d_Pg_html_47 : decode prog_1_method_2_code 47 = .ok (.iload_n 1, 1) := by decide +kernel
theorem d_Pg_html_48 : decode prog_1_method_2_code 48 = .ok (.aload_n 0, 1) := by decide +kernel
theorem d_Pg_html_49 : decode prog_1_method_2_code 49 = .ok (.getfield 10, 3) := by decide +kernel
theorem d_Pg_html_52 : decode prog_1_method_2_code 52 = .ok (.invokevirtual 55, 3) := by decide +kernel
theorem d_Pg_html_55 : decode prog_1_method_2_code 55 = .ok (.aload_n 0, 1) := by decide +kernel
theorem d_Pg_html_56 : decode prog_1_method_2_code 56 = .ok (.getfield 10, 3) := by decide +kernel
theorem d_Pg_html_59 : decode prog_1_method_2_code 59 = .ok (.invokevirtual 59, 3) := by decide +kernel
theorem d_Pg_html_62 : decode prog_1_method_2_code 62 = .ok (.aload_n 0, 1) := by decide +kernel
theorem d_Pg_html_63 : decode prog_1_method_2_code 63 = .ok (.getfield 10, 3) := by decide +kernel
theorem d_Pg_html_66 : decode prog_1_method_2_code 66 = .ok (.getfield 48, 3) := by decide +kernel
theorem d_Pg_html_69 : decode prog_1_method_2_code 69 = .ok (.ifCond .ne 7, 3) := by decide +kernel
theorem d_Pg_html_72 : decode prog_1_method_2_code 72 = .ok (.iconst 1, 1) := by decide +kernel
theorem d_Pg_html_73 : decode prog_1_method_2_code 73 = .ok (.goto 4, 3) := by decide +kernel
theorem d_Pg_html_76 : decode prog_1_method_2_code 76 = .ok (.iconst 0, 1) := by decide +kernel
theorem d_Pg_html_77 : decode prog_1_method_2_code 77 = .ok (.ireturn, 1) := by decide +kernel
def f_Pg_html (a1 : Int32) (M : qM) : Option (Int32 × qM) := q_bp (f_Pg_canBeTyped a1 M) fun x1 => if x1 = 0 then (some (0, M)) else (if 160 ≤ (M.1 0 4) then (some (0, M)) else (if (M.1 1 7) = 0 then (q_lt (qsI M 0 4 ((M.1 0 4) + 1)) fun M5 => q_cv (f_Pg_forgetLayout M5) fun M6 => q_cv (f_Typist_type a1 M6) fun M7 => q_cv (f_Tree_number M7) fun M8 => if (M8.1 1 7) = 0 then (some (1, M8)) else (some (0, M8))) else (some (0, M))))
abbrev rm_Pg_html : Room := { frames := 17, cells := 0, slots := 0, locals := 576 }
set_option maxRecDepth 100000 in
set_option maxHeartbeats 4000000 in
theorem c_Pg_html {l : Launch} {D : va_G} {dA : Nat → ClassId} {b : Nat} {adK adV : Nat → Nat} (a1 : Int32)  (M : qM) (out : Int32 × qM) (hf : f_Pg_html a1 M = some out) : CTi l y_Pg_html w_Pg_html rm_Pg_html D (tysX dA) (enX dA b) 367 b (qX adK adV 367 b) [qr (some 0), qi a1] M out := by
  refine qm_z (cc := prog_1_method_2_code) (nL := 2) (by decide) rfl (Nat.le_of_ble_eq_true rfl) ?_
  intro p e s m args below meth c Q hx hb hts0 hown hml hK hs hret
  have hts : ∀ w ∈ lw_g, w.before args s = true := fun w h => hts0 w (List.mem_cons_of_mem _ h)
  show QJ p l e rm_Pg_html s m args below meth c (qA 367 b) b 2 0 0 Q (qWd D (enX dA b) 367 b) M 0 [(0, qr (some 0)), (1, qi a1)] []
  unfold f_Pg_html at hf
  refine qj_iload_n hx hb d_Pg_html_0 rfl 1 rfl ?_
  have hf9 := q_bp_s hf; clear hf; obtain ⟨x1, hx1, hf⟩ := hf9
  refine qc_Si (st := []) hx hb hml hown hts hK (qX_ok _ _ _ _) hs (c_Pg_canBeTyped a1 M _ hx1) ⟨(callB_of 1 hts (q_good tw_236) rfl rfl rfl (hts _ tw_4) (hts _ tw_237) (by decide +kernel) ⟨by decide, by decide⟩), (hts _ tw_238)⟩ rfl rfl (Nat.le_of_ble_eq_true rfl) d_Pg_html_1 ?_
  refine qj_if_eq (tgt := 27) hx hb d_Pg_html_4 (by decide) (fun hc2 => ?_) (fun hc2 => ?_)
  · replace hf := q_if_t hc2 hf
    refine qj_iconst (v := 0) hx hb d_Pg_html_27 (by decide) ?_
    exact hret _ _ _ _ (Or.inl rfl) d_Pg_html_28 (Option.some.inj hf)
  · replace hf := q_if_f hc2 hf
    refine qj_aload_n hx hb d_Pg_html_7 rfl 0 rfl ?_
    refine qj_get hx hb hts hin_11 hown hK (q_in (rfl : tcX 0 = 0) (by decide)) (en_0 (rfl : tcX 0 = 0)) rfl 4 (by decide) (hts _ tw_239) (fun _ h => h) (qi (M.1 0 4)) rfl d_Pg_html_8 ?_
    refine qj_sipush (v := 160) hx hb d_Pg_html_11 (by decide) ?_
    refine qj_icmp_ge (tgt := 27) hx hb d_Pg_html_14 (by decide) (fun hc3 => ?_) (fun hc3 => ?_)
    · replace hf := q_if_t hc3 hf
      refine qj_iconst (v := 0) hx hb d_Pg_html_27 (by decide) ?_
      exact hret _ _ _ _ (Or.inl rfl) d_Pg_html_28 (Option.some.inj hf)
    · replace hf := q_if_f hc3 hf
      refine qj_aload_n hx hb d_Pg_html_17 rfl 0 rfl ?_
      refine qj_get hx hb hts hin_11 hown hK (q_in (rfl : tcX 0 = 0) (by decide)) (en_0 (rfl : tcX 0 = 0)) rfl 0 (by decide) (hts _ tw_240) (fun _ h => h) (qr (some 1)) rfl d_Pg_html_18 ?_
      refine qj_get hx hb hts hin_5 hown hK (q_in (rfl : tcX 1 = 1) (by decide)) (en_1 (rfl : tcX 1 = 1)) rfl 7 (by decide) (hts _ tw_241) (fun _ h => h) (qi (M.1 1 7)) rfl d_Pg_html_21 ?_
      refine qj_if_eq (tgt := 29) hx hb d_Pg_html_24 (by decide) (fun hc4 => ?_) (fun hc4 => ?_)
      · replace hf := q_if_t hc4 hf
        refine qj_aload_n hx hb d_Pg_html_29 rfl 0 rfl ?_
        refine qj_dup hx hb d_Pg_html_30 ?_
        refine qj_get hx hb hts hin_11 hown hK (q_in (rfl : tcX 0 = 0) (by decide)) (en_0 (rfl : tcX 0 = 0)) rfl 4 (by decide) (hts _ tw_239) (fun _ h => h) (qi (M.1 0 4)) rfl d_Pg_html_31 ?_
        refine qj_iconst (v := 1) hx hb d_Pg_html_34 (by decide) ?_
        refine qj_iadd hx hb d_Pg_html_35 ?_
        have hf9 := q_lt_s hf; clear hf; obtain ⟨M5, eM5, hf⟩ := hf9
        refine qj_puti (ty := .int) hx hb hts hin_11 ty_11 tyok_11 nm_11 hown hK (q_in (rfl : tcX 0 = 0) (by decide)) (en_0 (rfl : tcX 0 = 0)) rfl 4 (by decide) (hts _ tw_239) (fun _ h => h) rfl (by decide +kernel) rfl rfl (Nat.le_of_ble_eq_true rfl) (sp_0_4 (rfl : tcX 0 = 0)) eM5 d_Pg_html_36 ?_
        refine qj_aload_n hx hb d_Pg_html_39 rfl 0 rfl ?_
        have hf9 := q_cv_s hf; clear hf; obtain ⟨M6, hM6, hf⟩ := hf9
        refine qc_Vv (st := []) hx hb hml hown hts hK (qX_ok _ _ _ _) hs (c_Pg_forgetLayout  M5 _ hM6) ⟨(callB_of 0 hts (q_good tw_242) rfl rfl rfl (hts _ tw_4) (hts _ tw_243) (by decide +kernel) ⟨by decide, by decide⟩), (hts _ tw_244), (hts _ tw_245)⟩ (q_in (rfl : tcX 0 = 0) (by decide)) (en_0 (rfl : tcX 0 = 0)) rfl rfl rfl (Nat.le_of_ble_eq_true rfl) d_Pg_html_40 ?_
        refine qj_aload_n hx hb d_Pg_html_43 rfl 0 rfl ?_
        refine qj_get hx hb hts hin_11 hown hK (q_in (rfl : tcX 0 = 0) (by decide)) (en_0 (rfl : tcX 0 = 0)) rfl 1 (by decide) (hts _ tw_246) (fun _ h => h) (qr (some 287)) rfl d_Pg_html_44 ?_
        refine qj_iload_n hx hb d_Pg_html_47 rfl 1 rfl ?_
        refine qj_aload_n hx hb d_Pg_html_48 rfl 0 rfl ?_
        refine qj_get hx hb hts hin_11 hown hK (q_in (rfl : tcX 0 = 0) (by decide)) (en_0 (rfl : tcX 0 = 0)) rfl 0 (by decide) (hts _ tw_240) (fun _ h => h) (qr (some 1)) rfl d_Pg_html_49 ?_
        have hf9 := q_cv_s hf; clear hf; obtain ⟨M7, hM7, hf⟩ := hf9
        refine qc_Vv (st := []) hx hb hml hown hts hK (qX_ok _ _ _ _) hs (c_Typist_type a1 M6 _ hM7) ⟨(callB_of 2 hts (q_good tw_247) rfl rfl rfl (hts _ tw_202) (hts _ tw_248) (by decide +kernel) ⟨by decide, by decide⟩), (hts _ tw_249), (hts _ tw_250)⟩ (q_in (rfl : tcX 287 = 13) (by decide)) (en_13 (rfl : tcX 287 = 13)) rfl rfl rfl (Nat.le_of_ble_eq_true rfl) d_Pg_html_52 ?_
        refine qj_aload_n hx hb d_Pg_html_55 rfl 0 rfl ?_
        refine qj_get hx hb hts hin_11 hown hK (q_in (rfl : tcX 0 = 0) (by decide)) (en_0 (rfl : tcX 0 = 0)) rfl 0 (by decide) (hts _ tw_240) (fun _ h => h) (qr (some 1)) rfl d_Pg_html_56 ?_
        have hf9 := q_cv_s hf; clear hf; obtain ⟨M8, hM8, hf⟩ := hf9
        refine qc_Vv (st := []) hx hb hml hown hts hK (qX_ok _ _ _ _) hs (c_Tree_number  M7 _ hM8) ⟨(callB_of 0 hts (q_good tw_251) rfl rfl rfl (hts _ tw_54) (hts _ tw_252) (by decide +kernel) ⟨by decide, by decide⟩), (hts _ tw_253), (hts _ tw_254)⟩ (q_in (rfl : tcX 1 = 1) (by decide)) (en_1 (rfl : tcX 1 = 1)) rfl rfl rfl (Nat.le_of_ble_eq_true rfl) d_Pg_html_59 ?_
        refine qj_aload_n hx hb d_Pg_html_62 rfl 0 rfl ?_
        refine qj_get hx hb hts hin_11 hown hK (q_in (rfl : tcX 0 = 0) (by decide)) (en_0 (rfl : tcX 0 = 0)) rfl 0 (by decide) (hts _ tw_240) (fun _ h => h) (qr (some 1)) rfl d_Pg_html_63 ?_
        refine qj_get hx hb hts hin_5 hown hK (q_in (rfl : tcX 1 = 1) (by decide)) (en_1 (rfl : tcX 1 = 1)) rfl 7 (by decide) (hts _ tw_241) (fun _ h => h) (qi (M8.1 1 7)) rfl d_Pg_html_66 ?_
        refine qj_if_ne (tgt := 76) hx hb d_Pg_html_69 (by decide) (fun hc9 => ?_) (fun hc9 => ?_)
        · replace hf := q_if_f hc9 hf
          refine qj_iconst (v := 0) hx hb d_Pg_html_76 (by decide) ?_
          exact hret _ _ _ _ (Or.inl rfl) d_Pg_html_77 (Option.some.inj hf)
        · replace hf := q_if_t hc9 hf
          refine qj_iconst (v := 1) hx hb d_Pg_html_72 (by decide) ?_
          refine qj_goto (tgt := 77) hx hb d_Pg_html_73 (by decide) ?_
          exact hret _ _ _ _ (Or.inr rfl) d_Pg_html_77 (Option.some.inj hf)
      · replace hf := q_if_f hc4 hf
        refine qj_iconst (v := 0) hx hb d_Pg_html_27 (by decide) ?_
        exact hret _ _ _ _ (Or.inl rfl) d_Pg_html_28 (Option.some.inj hf)
theorem d_Rule_skipBlanks_0 : decode prog_8_method_3_code 0 = .ok (.aload_n 0, 1) := by decide +kernel
theorem d_Rule_skipBlanks_1 : decode prog_8_method_3_code 1 = .ok (.getfield 35, 3) := by decide +kernel
theorem d_Rule_skipBlanks_4 : decode prog_8_method_3_code 4 = .ok (.iload_n 2, 1) := by decide +kernel
theorem d_Rule_skipBlanks_5 : decode prog_8_method_3_code 5 = .ok (.if_icmp .ge 27, 3) := by decide +kernel
theorem d_Rule_skipBlanks_8 : decode prog_8_method_3_code 8 = .ok (.aload_n 1, 1) := by decide +kernel
theorem d_Rule_skipBlanks_9 : decode prog_8_method_3_code 9 = .ok (.aload_n 0, 1) := by decide +kernel
theorem d_Rule_skipBlanks_10 : decode prog_8_method_3_code 10 = .ok (.getfield 35, 3) := by decide +kernel
theorem d_Rule_skipBlanks_13 : decode prog_8_method_3_code 13 = .ok (.caload, 1) := by decide +kernel
theorem d_Rule_skipBlanks_14 : decode prog_8_method_3_code 14 = .ok (.bipush 32, 2) := by decide +kernel
theorem d_Rule_skipBlanks_16 : decode prog_8_method_3_code 16 = .ok (.if_icmp .ne 16, 3) := by decide +kernel
theorem d_Rule_skipBlanks_19 : decode prog_8_method_3_code 19 = .ok (.aload_n 0, 1) := by decide +kernel
theorem d_Rule_skipBlanks_20 : decode prog_8_method_3_code 20 = .ok (.dup, 1) := by decide +kernel
theorem d_Rule_skipBlanks_21 : decode prog_8_method_3_code 21 = .ok (.getfield 35, 3) := by decide +kernel
theorem d_Rule_skipBlanks_24 : decode prog_8_method_3_code 24 = .ok (.iconst 1, 1) := by decide +kernel
theorem d_Rule_skipBlanks_25 : decode prog_8_method_3_code 25 = .ok (.iadd, 1) := by decide +kernel
theorem d_Rule_skipBlanks_26 : decode prog_8_method_3_code 26 = .ok (.putfield 35, 3) := by decide +kernel
theorem d_Rule_skipBlanks_29 : decode prog_8_method_3_code 29 = .ok (.goto (-29), 3) := by decide +kernel
theorem d_Rule_skipBlanks_32 : decode prog_8_method_3_code 32 = .ok (.return_, 1) := by decide +kernel
def f_Rule_skipBlanks_0 (a2 : Int32) (q0 : Nat) : Nat → (qM → Option qM) → qM → Option qM
  | 0, _, _ => none
  | n + 1, K2, M1 => if a2 ≤ (M1.1 q0 8) then (K2 M1) else (q_ix (M1.1 q0 8) 120 <| if (M1.1 291 (M1.1 q0 8).toNatClampNeg) = 32 then (q_lt (qsI M1 q0 8 ((M1.1 q0 8) + 1)) fun M6 => f_Rule_skipBlanks_0 a2 q0 n K2 M6) else (K2 M1))
def f_Rule_skipBlanks (q0 : Nat) (a2 : Int32) (M : qM) : Option qM := f_Rule_skipBlanks_0 a2 q0 1000 (fun (M7 : qM) => some M7) M
abbrev rm_Rule_skipBlanks : Room := { frames := 0, cells := 0, slots := 0, locals := 0 }
set_option maxRecDepth 100000 in
set_option maxHeartbeats 4000000 in
theorem c_Rule_skipBlanks {l : Launch} {D : va_G} {dA : Nat → ClassId} {b : Nat} {adK adV : Nat → Nat} (q0 : Nat) (a2 : Int32) (tq0 : tcX q0 = 18) (M : qM) (out : qM) (hf : f_Rule_skipBlanks q0 a2 M = some out) : CTv l y_Rule_skipBlanks w_Rule_skipBlanks rm_Rule_skipBlanks D (tysX dA) (enX dA b) 367 b (qX adK adV 367 b) [qr (some q0), qr (some 291), qi a2] M out := by
  refine qm_v (cc := prog_8_method_3_code) (nL := 3) (by decide) rfl (Nat.le_of_ble_eq_true rfl) ?_
  intro p e s m args below meth c Q hx hb hts0 hown hml hK hs hret
  have hts : ∀ w ∈ lw_g, w.before args s = true := fun w h => hts0 w (List.mem_cons_of_mem _ h)
  show QJ p l e rm_Rule_skipBlanks s m args below meth c (qA 367 b) b 3 0 0 Q (qWd D (enX dA b) 367 b) M 0 [(0, qr (some q0)), (1, qr (some 291)), (2, qi a2)] []
  unfold f_Rule_skipBlanks at hf
  have hL0 : ∀ (n : Nat) (K2 : qM → Option qM), (∀ (M7 : qM), K2 M7 = some out → QJ p l e rm_Rule_skipBlanks s m args below meth c (qA 367 b) b 3 0 0 Q (qWd D (enX dA b) 367 b) M7 32 [] []) → ∀ (M1 : qM), f_Rule_skipBlanks_0 a2 q0 n K2 M1 = some out → QJ p l e rm_Rule_skipBlanks s m args below meth c (qA 367 b) b 3 0 0 Q (qWd D (enX dA b) 367 b) M1 0 [(0, qr (some q0)), (1, qr (some 291)), (2, qi a2)] [] := by
    clear hf
    intro n
    induction n with
    | zero =>
      intro K2 hK2 M1 hf
      exact absurd hf (by simp [f_Rule_skipBlanks_0])
    | succ n ih0 =>
      intro K2 hK2 M1 hf
      rw [f_Rule_skipBlanks_0] at hf
      have ih0 := ih0 K2 hK2
      refine qj_aload_n hx hb d_Rule_skipBlanks_0 rfl 0 rfl ?_
      refine qj_get hx hb hts hin_7 hown hK (q_in tq0 (by decide)) (en_18 tq0) rfl 8 (by decide) (hts _ tw_255) (fun _ h => h) (qi (M1.1 q0 8)) rfl d_Rule_skipBlanks_1 ?_
      refine qj_iload_n hx hb d_Rule_skipBlanks_4 rfl 2 rfl ?_
      refine qj_icmp_ge (tgt := 32) hx hb d_Rule_skipBlanks_5 (by decide) (fun hc3 => ?_) (fun hc3 => ?_)
      · replace hf := q_if_t hc3 hf
        refine qj_sub [] rfl ?_
        exact hK2 M1 hf
      · replace hf := q_if_f hc3 hf
        refine qj_aload_n hx hb d_Rule_skipBlanks_8 rfl 1 rfl ?_
        refine qj_aload_n hx hb d_Rule_skipBlanks_9 rfl 0 rfl ?_
        refine qj_get hx hb hts hin_7 hown hK (q_in tq0 (by decide)) (en_18 tq0) rfl 8 (by decide) (hts _ tw_255) (fun _ h => h) (qi (M1.1 q0 8)) rfl d_Rule_skipBlanks_10 ?_
        have hf9 := q_ix_s hf; clear hf; obtain ⟨hi4, hf⟩ := hf9
        refine qj_cald (t0 := 1) hx hb hK (q_in (rfl : tcX 291 = 17) (by decide)) (en_17 (rfl : tcX 291 = 17)) rfl hi4 d_Rule_skipBlanks_13 ?_
        refine qj_bipush (v := 32) hx hb d_Rule_skipBlanks_14 (by decide) ?_
        refine qj_icmp_ne (tgt := 32) hx hb d_Rule_skipBlanks_16 (by decide) (fun hc5 => ?_) (fun hc5 => ?_)
        · replace hf := q_if_f hc5 hf
          refine qj_sub [] rfl ?_
          exact hK2 M1 hf
        · replace hf := q_if_t hc5 hf
          refine qj_aload_n hx hb d_Rule_skipBlanks_19 rfl 0 rfl ?_
          refine qj_dup hx hb d_Rule_skipBlanks_20 ?_
          refine qj_get hx hb hts hin_7 hown hK (q_in tq0 (by decide)) (en_18 tq0) rfl 8 (by decide) (hts _ tw_255) (fun _ h => h) (qi (M1.1 q0 8)) rfl d_Rule_skipBlanks_21 ?_
          refine qj_iconst (v := 1) hx hb d_Rule_skipBlanks_24 (by decide) ?_
          refine qj_iadd hx hb d_Rule_skipBlanks_25 ?_
          have hf9 := q_lt_s hf; clear hf; obtain ⟨M6, eM6, hf⟩ := hf9
          refine qj_puti (ty := .int) hx hb hts hin_7 ty_7 tyok_7 nm_7 hown hK (q_in tq0 (by decide)) (en_18 tq0) rfl 8 (by decide) (hts _ tw_255) (fun _ h => h) rfl (by decide +kernel) rfl rfl (Nat.le_of_ble_eq_true rfl) (sp_18_8 tq0) eM6 d_Rule_skipBlanks_26 ?_
          refine qj_goto (tgt := 0) hx hb d_Rule_skipBlanks_29 (by decide) ?_
          exact ih0 M6 hf
  refine hL0 _ _ (fun M7 hf9 => ?_) M hf
  clear hf; have hf := hf9; clear hf9
  exact hret _ _ _ d_Rule_skipBlanks_32 (Option.some.inj hf)
