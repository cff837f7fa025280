theorem d_Rule_fitsUpTo_0 : decode prog_8_method_12_code 0 = .ok (.iload_n 1, 1) := by decide +kernel
theorem d_Rule_fitsUpTo_1 : decode prog_8_method_12_code 1 = .ok (.ifCond .lt 17, 3) := by decide +kernel
theorem d_Rule_fitsUpTo_4 : decode prog_8_method_12_code 4 = .ok (.iload_n 1, 1) := by decide +kernel
theorem d_Rule_fitsUpTo_5 : decode prog_8_method_12_code 5 = .ok (.iconst 4, 1) := by decide +kernel
theorem d_Rule_fitsUpTo_6 : decode prog_8_method_12_code 6 = .ok (.if_icmp .ge 12, 3) := by decide +kernel
theorem d_Rule_fitsUpTo_9 : decode prog_8_method_12_code 9 = .ok (.aload_n 0, 1) := by decide +kernel
theorem d_Rule_fitsUpTo_10 : decode prog_8_method_12_code 10 = .ok (.iload_n 1, 1) := by decide +kernel
theorem d_Rule_fitsUpTo_11 : decode prog_8_method_12_code 11 = .ok (.aload_n 2, 1) := by decide +kernel
theorem d_Rule_fitsUpTo_12 : decode prog_8_method_12_code 12 = .ok (.invokevirtual 95, 3) := by decide +kernel
theorem d_Rule_fitsUpTo_15 : decode prog_8_method_12_code 15 = .ok (.ifCond .ne 5, 3) := by decide +kernel
theorem d_Rule_fitsUpTo_18 : decode prog_8_method_12_code 18 = .ok (.iconst 0, 1) := by decide +kernel
theorem d_Rule_fitsUpTo_19 : decode prog_8_method_12_code 19 = .ok (.ireturn, 1) := by decide +kernel
theorem d_Rule_fitsUpTo_20 : decode prog_8_method_12_code 20 = .ok (.iload_n 1, 1) := by decide +kernel
theorem d_Rule_fitsUpTo_21 : decode prog_8_method_12_code 21 = .ok (.ifCond .ne 5, 3) := by decide +kernel
theorem d_Rule_fitsUpTo_24 : decode prog_8_method_12_code 24 = .ok (.iconst 1, 1) := by decide +kernel
theorem d_Rule_fitsUpTo_25 : decode prog_8_method_12_code 25 = .ok (.ireturn, 1) := by decide +kernel
theorem d_Rule_fitsUpTo_26 : decode prog_8_method_12_code 26 = .ok (.aload_n 0, 1) := by decide +kernel
theorem d_Rule_fitsUpTo_27 : decode prog_8_method_12_code 27 = .ok (.getfield 18, 3) := by decide +kernel
theorem d_Rule_fitsUpTo_30 : decode prog_8_method_12_code 30 = .ok (.iload_n 1, 1) := by decide +kernel
theorem d_Rule_fitsUpTo_31 : decode prog_8_method_12_code 31 = .ok (.baload, 1) := by decide +kernel
theorem d_Rule_fitsUpTo_32 : decode prog_8_method_12_code 32 = .ok (.ifCond .eq 30, 3) := by decide +kernel
theorem d_Rule_fitsUpTo_35 : decode prog_8_method_12_code 35 = .ok (.aload_n 2, 1) := by decide +kernel
theorem d_Rule_fitsUpTo_36 : decode prog_8_method_12_code 36 = .ok (.getfield 98, 3) := by decide +kernel
theorem d_Rule_fitsUpTo_39 : decode prog_8_method_12_code 39 = .ok (.ifnull 21, 3) := by decide +kernel
theorem d_Rule_fitsUpTo_42 : decode prog_8_method_12_code 42 = .ok (.aload_n 0, 1) := by decide +kernel
theorem d_Rule_fitsUpTo_43 : decode prog_8_method_12_code 43 = .ok (.iload_n 1, 1) := by decide +kernel
theorem d_Rule_fitsUpTo_44 : decode prog_8_method_12_code 44 = .ok (.iconst 1, 1) := by decide +kernel
theorem d_Rule_fitsUpTo_45 : decode prog_8_method_12_code 45 = .ok (.isub, 1) := by decide +kernel
theorem d_Rule_fitsUpTo_46 : decode prog_8_method_12_code 46 = .ok (.aload_n 2, 1) := by decide +kernel
theorem d_Rule_fitsUpTo_47 : decode prog_8_method_12_code 47 = .ok (.getfield 98, 3) := by decide +kernel
theorem d_Rule_fitsUpTo_50 : decode prog_8_method_12_code 50 = .ok (.invokevirtual 91, 3) := by decide +kernel
theorem d_Rule_fitsUpTo_53 : decode prog_8_method_12_code 53 = .ok (.ifCond .eq 7, 3) := by decide +kernel
theorem d_Rule_fitsUpTo_56 : decode prog_8_method_12_code 56 = .ok (.iconst 1, 1) := by decide +kernel
theorem d_Rule_fitsUpTo_57 : decode prog_8_method_12_code 57 = .ok (.goto 4, 3) := by decide +kernel
theorem d_Rule_fitsUpTo_60 : decode prog_8_method_12_code 60 = .ok (.iconst 0, 1) := by decide +kernel
theorem d_Rule_fitsUpTo_61 : decode prog_8_method_12_code 61 = .ok (.ireturn, 1) := by decide +kernel
theorem d_Rule_fitsUpTo_62 : decode prog_8_method_12_code 62 = .ok (.aload_n 2, 1) := by decide +kernel
theorem d_Rule_fitsUpTo_63 : decode prog_8_method_12_code 63 = .ok (.getfield 98, 3) := by decide +kernel
theorem d_Rule_fitsUpTo_66 : decode prog_8_method_12_code 66 = .ok (.astore_n 3, 1) := by decide +kernel
theorem d_Rule_fitsUpTo_67 : decode prog_8_method_12_code 67 = .ok (.aload_n 3, 1) := by decide +kernel
theorem d_Rule_fitsUpTo_68 : decode prog_8_method_12_code 68 = .ok (.ifnull 24, 3) := by decide +kernel
theorem d_Rule_fitsUpTo_71 : decode prog_8_method_12_code 71 = .ok (.aload_n 0, 1) := by decide +kernel
theorem d_Rule_fitsUpTo_72 : decode prog_8_method_12_code 72 = .ok (.iload_n 1, 1) := by decide +kernel
theorem d_Rule_fitsUpTo_73 : decode prog_8_method_12_code 73 = .ok (.iconst 1, 1) := by decide +kernel
theorem d_Rule_fitsUpTo_74 : decode prog_8_method_12_code 74 = .ok (.isub, 1) := by decide +kernel
theorem d_Rule_fitsUpTo_75 : decode prog_8_method_12_code 75 = .ok (.aload_n 3, 1) := by decide +kernel
theorem d_Rule_fitsUpTo_76 : decode prog_8_method_12_code 76 = .ok (.invokevirtual 91, 3) := by decide +kernel
theorem d_Rule_fitsUpTo_79 : decode prog_8_method_12_code 79 = .ok (.ifCond .eq 5, 3) := by decide +kernel
theorem d_Rule_fitsUpTo_82 : decode prog_8_method_12_code 82 = .ok (.iconst 1, 1) := by decide +kernel
theorem d_Rule_fitsUpTo_83 : decode prog_8_method_12_code 83 = .ok (.ireturn, 1) := by decide +kernel
theorem d_Rule_fitsUpTo_84 : decode prog_8_method_12_code 84 = .ok (.aload_n 3, 1) := by decide +kernel
theorem d_Rule_fitsUpTo_85 : decode prog_8_method_12_code 85 = .ok (.getfield 98, 3) := by decide +kernel
theorem d_Rule_fitsUpTo_88 : decode prog_8_method_12_code 88 = .ok (.astore_n 3, 1) := by decide +kernel
theorem d_Rule_fitsUpTo_89 : decode prog_8_method_12_code 89 = .ok (.goto (-22), 3) := by decide +kernel
theorem d_Rule_fitsUpTo_92 : decode prog_8_method_12_code 92 = .ok (.iconst 0, 1) := by decide +kernel
theorem d_Rule_fitsUpTo_93 : decode prog_8_method_12_code 93 = .ok (.ireturn, 1) := by decide +kernel
def f_Rule_fitsUpTo_67 (FR : Nat → Int32 → Nat → qM → Option Int32) (q0 : Nat) (a1 : Int32) (M : qM) : Nat → (Option Int32) → Option Nat → Option Int32
  | 0, _, _ => none
  | n + 1, K10, r9 => q_on r9 (K10) fun o11 => (q_bp (FR q0 (a1 - 1) o11 M) fun x12 => if x12 = 0 then (q_lt (M.2 o11 4) fun r14 => f_Rule_fitsUpTo_67 FR q0 a1 M n K10 r14) else (some 1))
def f_Rule_fitsUpTo : Nat → Nat → Int32 → Nat → qM → Option Int32
  | 0, _, _, _, _ => none
  | d + 1, q0, a1, q2, M => q_lt (f_Rule_fitsUpTo d) fun (FR : Nat → Int32 → Nat → qM → Option Int32) => if a1 < 0 then (some 0) else (if 4 ≤ a1 then (some 0) else (q_bp (f_Rule_partFits q0 a1 q2 M) fun x3 => if x3 = 0 then (some 0) else (if a1 = 0 then (some 1) else (q_ix a1 4 <| if (M.1 (q0 + 3) a1.toNatClampNeg) = 0 then (q_lt (M.2 q2 4) fun r8 => f_Rule_fitsUpTo_67 FR q0 a1 M 1000 (some 0) r8) else (q_lt (M.2 q2 4) fun r16 => q_on r16 (some 0) fun o17 => (q_lt (M.2 q2 4) fun r18 => q_nn r18 fun o19 => q_bp (FR q0 (a1 - 1) o19 M) fun x20 => if x20 = 0 then (some 0) else (some 1)))))))
abbrev rm_Rule_fitsUpTo (d : Nat) : Room := { frames := 4 + d, cells := 0, slots := 0, locals := 60 + 30 * d }
set_option maxRecDepth 100000 in
set_option maxHeartbeats 4000000 in
theorem c_Rule_fitsUpTo {l : Launch} {D : va_G} {dA : Nat → ClassId} {b : Nat} {adK adV : Nat → Nat} (d : Nat) : ∀ (q0 : Nat) (a1 : Int32) (q2 : Nat) (tq0 : tcX q0 = 18) (tq2 : tcX q2 = 7) (M : qM) (out : Int32), f_Rule_fitsUpTo d q0 a1 q2 M = some out → CTi l y_Rule_fitsUpTo w_Rule_fitsUpTo (rm_Rule_fitsUpTo d) D (tysX dA) (enX dA b) 367 b (qX adK adV 367 b) [qr (some q0), qi a1, qr (some q2)] M (out, M) := by
  induction d with
  | zero =>
    intro q0 a1 q2 tq0 tq2 M out hf
    exact absurd hf (by simp [f_Rule_fitsUpTo])
  | succ d ihd =>
    intro q0 a1 q2 tq0 tq2 M out hf
    rw [f_Rule_fitsUpTo] at hf
    have hf9 := q_lt_s hf; clear hf; obtain ⟨FR, eFR, hf⟩ := hf9
    have hFR : ∀ (q0 : Nat) (a1 : Int32) (q2 : Nat) (tq0 : tcX q0 = 18) (tq2 : tcX q2 = 7) (M : qM) (out : Int32), FR q0 a1 q2 M = some out → CTi l y_Rule_fitsUpTo w_Rule_fitsUpTo (rm_Rule_fitsUpTo d) D (tysX dA) (enX dA b) 367 b (qX adK adV 367 b) [qr (some q0), qi a1, qr (some q2)] M (out, M) := by rw [eFR]; exact ihd
    refine qm_z (cc := prog_8_method_12_code) (nL := 4) (by decide) rfl (Nat.le_of_ble_eq_true rfl) ?_
    intro p e s m args below meth c Q hx hb hts0 hown hml hK hs hret
    have hts : ∀ w ∈ lw_g, w.before args s = true := fun w h => hts0 w (List.mem_cons_of_mem _ h)
    show QJ p l e (rm_Rule_fitsUpTo (d + 1)) s m args below meth c (qA 367 b) b 4 0 0 Q (qWd D (enX dA b) 367 b) M 0 [(0, qr (some q0)), (1, qi a1), (2, qr (some q2))] []
    refine qj_iload_n hx hb d_Rule_fitsUpTo_0 rfl 1 rfl ?_
    refine qj_if_lt (tgt := 18) hx hb d_Rule_fitsUpTo_1 (by decide) (fun hc1 => ?_) (fun hc1 => ?_)
    · replace hf := q_if_t hc1 hf
      refine qj_iconst (v := 0) hx hb d_Rule_fitsUpTo_18 (by decide) ?_
      exact hret _ _ _ _ (Or.inl rfl) d_Rule_fitsUpTo_19 (congrArg (fun z => (z, M)) (Option.some.inj hf))
    · replace hf := q_if_f hc1 hf
      refine qj_iload_n hx hb d_Rule_fitsUpTo_4 rfl 1 rfl ?_
      refine qj_iconst (v := 4) hx hb d_Rule_fitsUpTo_5 (by decide) ?_
      refine qj_icmp_ge (tgt := 18) hx hb d_Rule_fitsUpTo_6 (by decide) (fun hc2 => ?_) (fun hc2 => ?_)
      · replace hf := q_if_t hc2 hf
        refine qj_iconst (v := 0) hx hb d_Rule_fitsUpTo_18 (by decide) ?_
        exact hret _ _ _ _ (Or.inl rfl) d_Rule_fitsUpTo_19 (congrArg (fun z => (z, M)) (Option.some.inj hf))
      · replace hf := q_if_f hc2 hf
        refine qj_aload_n hx hb d_Rule_fitsUpTo_9 rfl 0 rfl ?_
        refine qj_iload_n hx hb d_Rule_fitsUpTo_10 rfl 1 rfl ?_
        refine qj_aload_n hx hb d_Rule_fitsUpTo_11 rfl 2 rfl ?_
        have hf9 := q_bp_s hf; clear hf; obtain ⟨x3, hx3, hf⟩ := hf9
        refine qc_Vi (st := []) hx hb hml hown hts hK (qX_ok _ _ _ _) hs (c_Rule_partFits q0 a1 q2 tq0 tq2 M _ hx3) ⟨(callB_of 2 hts (q_good tw_744) rfl rfl rfl (hts _ tw_261) (hts _ tw_745) (by decide +kernel) (by constructor <;> dsimp only [rm_Rule_partFits, rm_Rule_fitsUpTo] <;> omega)), (hts _ tw_746), (hts _ tw_747)⟩ (q_in tq0 (by decide)) (en_18 tq0) rfl rfl rfl (Nat.le_of_ble_eq_true rfl) d_Rule_fitsUpTo_12 ?_
        refine qj_if_ne (tgt := 20) hx hb d_Rule_fitsUpTo_15 (by decide) (fun hc4 => ?_) (fun hc4 => ?_)
        · replace hf := q_if_f hc4 hf
          refine qj_iload_n hx hb d_Rule_fitsUpTo_20 rfl 1 rfl ?_
          refine qj_if_ne (tgt := 26) hx hb d_Rule_fitsUpTo_21 (by decide) (fun hc5 => ?_) (fun hc5 => ?_)
          · replace hf := q_if_f hc5 hf
            refine qj_aload_n hx hb d_Rule_fitsUpTo_26 rfl 0 rfl ?_
            refine qj_get hx hb hts hin_7 hown hK (q_in tq0 (by decide)) (en_18 tq0) rfl 2 (by decide) (hts _ tw_266) (fun _ h => h) (qr (some (q0 + 3))) rfl d_Rule_fitsUpTo_27 ?_
            refine qj_iload_n hx hb d_Rule_fitsUpTo_30 rfl 1 rfl ?_
            have hf9 := q_ix_s hf; clear hf; obtain ⟨hi6, hf⟩ := hf9
            refine qj_zald (t0 := 2) hx hb hK (q_in (tc_18_3 tq0) (by decide)) (en_21 (tc_18_3 tq0)) rfl hi6 d_Rule_fitsUpTo_31 ?_
            refine qj_if_eq (tgt := 62) hx hb d_Rule_fitsUpTo_32 (by decide) (fun hc7 => ?_) (fun hc7 => ?_)
            · replace hf := q_if_t hc7 hf
              refine qj_aload_n hx hb d_Rule_fitsUpTo_62 rfl 2 rfl ?_
              have hf9 := q_lt_s hf; clear hf; obtain ⟨r8, er8, hf⟩ := hf9
              refine qj_w fun w => ?_
              have tr8 : ∀ o, r8 = some o → tcX o = 7 := fun o h => (w _ _ o (er8.symm.trans h)).trans (by rw [tq2] <;> rfl)
              refine qj_get hx hb hts hin_3 hown hK (q_in tq2 (by decide)) (en_7 tq2) rfl 4 (by decide) (hts _ tw_748) (fun _ h => h) (qr r8) (by rw [er8]; rfl) d_Rule_fitsUpTo_63 ?_
              refine qj_astore_n hx hb d_Rule_fitsUpTo_66 rfl (by decide) rfl ?_
              have hL67 : ∀ (n : Nat) (K10 : Option Int32), (K10 = some out → QJ p l e (rm_Rule_fitsUpTo (d + 1)) s m args below meth c (qA 367 b) b 4 0 0 Q (qWd D (enX dA b) 367 b) M 92 [] []) → ∀ (r9 : Option Nat), (∀ o, r9 = some o → tcX o = 7) → f_Rule_fitsUpTo_67 FR q0 a1 M n K10 r9 = some out → QJ p l e (rm_Rule_fitsUpTo (d + 1)) s m args below meth c (qA 367 b) b 4 0 0 Q (qWd D (enX dA b) 367 b) M 67 [(0, qr (some q0)), (1, qi a1), (3, qr r9)] [] := by
                clear hf
                intro n
                induction n with
                | zero =>
                  intro K10 hK10 r9 tr9 hf
                  exact absurd hf (by simp [f_Rule_fitsUpTo_67])
                | succ n ih67 =>
                  intro K10 hK10 r9 tr9 hf
                  rw [f_Rule_fitsUpTo_67] at hf
                  have ih67 := ih67 K10 hK10
                  refine qj_aload_n hx hb d_Rule_fitsUpTo_67 rfl 2 rfl ?_
                  refine qj_ifnull (tgt := 92) hx hb d_Rule_fitsUpTo_68 (by decide) (fun hn15 => ?_) (fun o11 hn15 => ?_)
                  · subst hn15
                    replace hf := q_on_n hf
                    refine qj_sub [] rfl ?_
                    exact hK10  hf
                  · subst hn15
                    replace hf := q_on_s hf
                    refine qj_aload_n hx hb d_Rule_fitsUpTo_71 rfl 0 rfl ?_
                    refine qj_iload_n hx hb d_Rule_fitsUpTo_72 rfl 1 rfl ?_
                    refine qj_iconst (v := 1) hx hb d_Rule_fitsUpTo_73 (by decide) ?_
                    refine qj_isub hx hb d_Rule_fitsUpTo_74 ?_
                    refine qj_aload_n hx hb d_Rule_fitsUpTo_75 rfl 2 rfl ?_
                    have hf9 := q_bp_s hf; clear hf; obtain ⟨x12, hx12, hf⟩ := hf9
                    refine qc_Vi (st := []) hx hb hml hown hts hK (qX_ok _ _ _ _) hs (hFR q0 (a1 - 1) o11 tq0 (tr9 _ rfl) M _ hx12) ⟨(callB_of 2 hts (q_good tw_749) rfl rfl rfl (hts _ tw_261) (hts _ tw_750) (by decide +kernel) (by constructor <;> dsimp only [rm_Rule_fitsUpTo] <;> omega)), (hts _ tw_751), (hts _ tw_752)⟩ (q_in tq0 (by decide)) (en_18 tq0) rfl rfl rfl (Nat.le_of_ble_eq_true rfl) d_Rule_fitsUpTo_76 ?_
                    refine qj_if_eq (tgt := 84) hx hb d_Rule_fitsUpTo_79 (by decide) (fun hc13 => ?_) (fun hc13 => ?_)
                    · replace hf := q_if_t hc13 hf
                      refine qj_aload_n hx hb d_Rule_fitsUpTo_84 rfl 2 rfl ?_
                      have hf9 := q_lt_s hf; clear hf; obtain ⟨r14, er14, hf⟩ := hf9
                      refine qj_w fun w => ?_
                      have tr14 : ∀ o, r14 = some o → tcX o = 7 := fun o h => (w _ _ o (er14.symm.trans h)).trans (by rw [(tr9 _ rfl)] <;> rfl)
                      refine qj_get hx hb hts hin_3 hown hK (q_in (tr9 _ rfl) (by decide)) (en_7 (tr9 _ rfl)) rfl 4 (by decide) (hts _ tw_748) (fun _ h => h) (qr r14) (by rw [er14]; rfl) d_Rule_fitsUpTo_85 ?_
                      refine qj_astore_n hx hb d_Rule_fitsUpTo_88 rfl (by decide) rfl ?_
                      refine qj_goto (tgt := 67) hx hb d_Rule_fitsUpTo_89 (by decide) ?_
                      refine qj_sub [1, 2, 0] rfl ?_
                      exact ih67 r14 tr14 hf
                    · replace hf := q_if_f hc13 hf
                      refine qj_iconst (v := 1) hx hb d_Rule_fitsUpTo_82 (by decide) ?_
                      exact hret _ _ _ _ (Or.inr rfl) d_Rule_fitsUpTo_83 (congrArg (fun z => (z, M)) (Option.some.inj hf))
              refine qj_sub [1, 2, 0] rfl ?_
              refine hL67 _ _ (fun hf9 => ?_) r8 tr8 hf
              clear hf; have hf := hf9; clear hf9
              refine qj_iconst (v := 0) hx hb d_Rule_fitsUpTo_92 (by decide) ?_
              exact hret _ _ _ _ (Or.inl rfl) d_Rule_fitsUpTo_93 (congrArg (fun z => (z, M)) (Option.some.inj hf))
            · replace hf := q_if_f hc7 hf
              refine qj_aload_n hx hb d_Rule_fitsUpTo_35 rfl 2 rfl ?_
              have hf9 := q_lt_s hf; clear hf; obtain ⟨r16, er16, hf⟩ := hf9
              refine qj_w fun w => ?_
              have tr16 : ∀ o, r16 = some o → tcX o = 7 := fun o h => (w _ _ o (er16.symm.trans h)).trans (by rw [tq2] <;> rfl)
              refine qj_get hx hb hts hin_3 hown hK (q_in tq2 (by decide)) (en_7 tq2) rfl 4 (by decide) (hts _ tw_748) (fun _ h => h) (qr r16) (by rw [er16]; rfl) d_Rule_fitsUpTo_36 ?_
              refine qj_ifnull (tgt := 60) hx hb d_Rule_fitsUpTo_39 (by decide) (fun hn22 => ?_) (fun o17 hn22 => ?_)
              · subst hn22
                replace hf := q_on_n hf
                refine qj_iconst (v := 0) hx hb d_Rule_fitsUpTo_60 (by decide) ?_
                exact hret _ _ _ _ (Or.inl rfl) d_Rule_fitsUpTo_61 (congrArg (fun z => (z, M)) (Option.some.inj hf))
              · subst hn22
                replace hf := q_on_s hf
                refine qj_aload_n hx hb d_Rule_fitsUpTo_42 rfl 0 rfl ?_
                refine qj_iload_n hx hb d_Rule_fitsUpTo_43 rfl 1 rfl ?_
                refine qj_iconst (v := 1) hx hb d_Rule_fitsUpTo_44 (by decide) ?_
                refine qj_isub hx hb d_Rule_fitsUpTo_45 ?_
                refine qj_aload_n hx hb d_Rule_fitsUpTo_46 rfl 2 rfl ?_
                have hf9 := q_lt_s hf; clear hf; obtain ⟨r18, er18, hf⟩ := hf9
                refine qj_w fun w => ?_
                have tr18 : ∀ o, r18 = some o → tcX o = 7 := fun o h => (w _ _ o (er18.symm.trans h)).trans (by rw [tq2] <;> rfl)
                refine qj_get hx hb hts hin_3 hown hK (q_in tq2 (by decide)) (en_7 tq2) rfl 4 (by decide) (hts _ tw_748) (fun _ h => h) (qr r18) (by rw [er18]; rfl) d_Rule_fitsUpTo_47 ?_
                have hf9 := q_nn_s hf; clear hf; obtain ⟨o19, rfl, hf⟩ := hf9
                have hf9 := q_bp_s hf; clear hf; obtain ⟨x20, hx20, hf⟩ := hf9
                refine qc_Vi (st := []) hx hb hml hown hts hK (qX_ok _ _ _ _) hs (hFR q0 (a1 - 1) o19 tq0 (tr18 _ rfl) M _ hx20) ⟨(callB_of 2 hts (q_good tw_749) rfl rfl rfl (hts _ tw_261) (hts _ tw_750) (by decide +kernel) (by constructor <;> dsimp only [rm_Rule_fitsUpTo] <;> omega)), (hts _ tw_751), (hts _ tw_752)⟩ (q_in tq0 (by decide)) (en_18 tq0) rfl rfl rfl (Nat.le_of_ble_eq_true rfl) d_Rule_fitsUpTo_50 ?_
                refine qj_if_eq (tgt := 60) hx hb d_Rule_fitsUpTo_53 (by decide) (fun hc21 => ?_) (fun hc21 => ?_)
                · replace hf := q_if_t hc21 hf
                  refine qj_iconst (v := 0) hx hb d_Rule_fitsUpTo_60 (by decide) ?_
                  exact hret _ _ _ _ (Or.inl rfl) d_Rule_fitsUpTo_61 (congrArg (fun z => (z, M)) (Option.some.inj hf))
                · replace hf := q_if_f hc21 hf
                  refine qj_iconst (v := 1) hx hb d_Rule_fitsUpTo_56 (by decide) ?_
                  refine qj_goto (tgt := 61) hx hb d_Rule_fitsUpTo_57 (by decide) ?_
                  exact hret _ _ _ _ (Or.inr rfl) d_Rule_fitsUpTo_61 (congrArg (fun z => (z, M)) (Option.some.inj hf))
          · replace hf := q_if_t hc5 hf
            refine qj_iconst (v := 1) hx hb d_Rule_fitsUpTo_24 (by decide) ?_
            exact hret _ _ _ _ (Or.inr rfl) d_Rule_fitsUpTo_25 (congrArg (fun z => (z, M)) (Option.some.inj hf))
        · replace hf := q_if_t hc4 hf
          refine qj_iconst (v := 0) hx hb d_Rule_fitsUpTo_18 (by decide) ?_
          exact hret _ _ _ _ (Or.inl rfl) d_Rule_fitsUpTo_19 (congrArg (fun z => (z, M)) (Option.some.inj hf))
theorem d_Rule_fits_0 : decode prog_8_method_11_code 0 = .ok (.aload_n 0, 1) := by decide +kernel
theorem d_Rule_fits_1 : decode prog_8_method_11_code 1 = .ok (.aload_n 0, 1) := by decide +kernel
theorem d_Rule_fits_2 : decode prog_8_method_11_code 2 = .ok (.getfield 42, 3) := by decide +kernel
theorem d_Rule_fits_5 : decode prog_8_method_11_code 5 = .ok (.iconst 1, 1) := by decide +kernel
theorem d_Rule_fits_6 : decode prog_8_method_11_code 6 = .ok (.isub, 1) := by decide +kernel
theorem d_Rule_fits_7 : decode prog_8_method_11_code 7 = .ok (.aload_n 1, 1) := by decide +kernel
theorem d_Rule_fits_8 : decode prog_8_method_11_code 8 = .ok (.invokevirtual 91, 3) := by decide +kernel
theorem d_Rule_fits_11 : decode prog_8_method_11_code 11 = .ok (.ireturn, 1) := by decide +kernel
def f_Rule_fits (q0 : Nat) (q1 : Nat) (M : qM) : Option Int32 := q_bp (f_Rule_fitsUpTo 8 q0 ((M.1 q0 5) - 1) q1 M) fun x1 => q_zk x1 <| some x1
abbrev rm_Rule_fits : Room := { frames := 13, cells := 0, slots := 0, locals := 323 }
set_option maxRecDepth 100000 in
set_option maxHeartbeats 4000000 in
theorem c_Rule_fits {l : Launch} {D : va_G} {dA : Nat → ClassId} {b : Nat} {adK adV : Nat → Nat} (q0 : Nat) (q1 : Nat) (tq0 : tcX q0 = 18) (tq1 : tcX q1 = 7) (M : qM) (out : Int32) (hf : f_Rule_fits q0 q1 M = some out) : CTi l y_Rule_fits w_Rule_fits rm_Rule_fits D (tysX dA) (enX dA b) 367 b (qX adK adV 367 b) [qr (some q0), qr (some q1)] M (out, M) := by
  refine qm_z (cc := prog_8_method_11_code) (nL := 2) (by decide) rfl (Nat.le_of_ble_eq_true rfl) ?_
  intro p e s m args below meth c Q hx hb hts0 hown hml hK hs hret
  have hts : ∀ w ∈ lw_g, w.before args s = true := fun w h => hts0 w (List.mem_cons_of_mem _ h)
  show QJ p l e rm_Rule_fits s m args below meth c (qA 367 b) b 2 0 0 Q (qWd D (enX dA b) 367 b) M 0 [(0, qr (some q0)), (1, qr (some q1))] []
  unfold f_Rule_fits at hf
  refine qj_aload_n hx hb d_Rule_fits_0 rfl 0 rfl ?_
  refine qj_aload_n hx hb d_Rule_fits_1 rfl 0 rfl ?_
  refine qj_get hx hb hts hin_7 hown hK (q_in tq0 (by decide)) (en_18 tq0) rfl 5 (by decide) (hts _ tw_257) (fun _ h => h) (qi (M.1 q0 5)) rfl d_Rule_fits_2 ?_
  refine qj_iconst (v := 1) hx hb d_Rule_fits_5 (by decide) ?_
  refine qj_isub hx hb d_Rule_fits_6 ?_
  refine qj_aload_n hx hb d_Rule_fits_7 rfl 1 rfl ?_
  have hf9 := q_bp_s hf; clear hf; obtain ⟨x1, hx1, hf⟩ := hf9
  refine qc_Vi (st := []) hx hb hml hown hts hK (qX_ok _ _ _ _) hs (c_Rule_fitsUpTo 8 q0 ((M.1 q0 5) - 1) q1 tq0 tq1 M _ hx1) ⟨(callB_of 2 hts (q_good tw_749) rfl rfl rfl (hts _ tw_261) (hts _ tw_750) (by decide +kernel) (by constructor <;> dsimp only [rm_Rule_fitsUpTo, rm_Rule_fits] <;> omega)), (hts _ tw_751), (hts _ tw_752)⟩ (q_in tq0 (by decide)) (en_18 tq0) rfl rfl rfl (Nat.le_of_ble_eq_true rfl) d_Rule_fits_8 ?_
  have hf9 := q_zk_s hf; clear hf; obtain ⟨hz2, hf⟩ := hf9
  exact hret _ _ _ _ hz2 d_Rule_fits_11 (congrArg (fun z => (z, M)) (Option.some.inj hf))
theorem d_Sheet_setDeclared_0 : decode prog_10_method_7_code 0 = .ok (.iconst 0, 1) := by decide +kernel
theorem d_Sheet_setDeclared_1 : decode prog_10_method_7_code 1 = .ok (.istore_n 2, 1) := by decide +kernel
theorem d_Sheet_setDeclared_2 : decode prog_10_method_7_code 2 = .ok (.iload_n 2, 1) := by decide +kernel
theorem d_Sheet_setDeclared_3 : decode prog_10_method_7_code 3 = .ok (.aload_n 0, 1) := by decide +kernel
theorem d_Sheet_setDeclared_4 : decode prog_10_method_7_code 4 = .ok (.getfield 34, 3) := by decide +kernel
theorem d_Sheet_setDeclared_7 : decode prog_10_method_7_code 7 = .ok (.if_icmp .ge 25, 3) := by decide +kernel
theorem d_Sheet_setDeclared_10 : decode prog_10_method_7_code 10 = .ok (.aload_n 0, 1) := by decide +kernel
theorem d_Sheet_setDeclared_11 : decode prog_10_method_7_code 11 = .ok (.getfield 17, 3) := by decide +kernel
theorem d_Sheet_setDeclared_14 : decode prog_10_method_7_code 14 = .ok (.iload_n 2, 1) := by decide +kernel
theorem d_Sheet_setDeclared_15 : decode prog_10_method_7_code 15 = .ok (.aload_n 0, 1) := by decide +kernel
theorem d_Sheet_setDeclared_16 : decode prog_10_method_7_code 16 = .ok (.getfield 11, 3) := by decide +kernel
theorem d_Sheet_setDeclared_19 : decode prog_10_method_7_code 19 = .ok (.iload_n 2, 1) := by decide +kernel
theorem d_Sheet_setDeclared_20 : decode prog_10_method_7_code 20 = .ok (.aaload, 1) := by decide +kernel
theorem d_Sheet_setDeclared_21 : decode prog_10_method_7_code 21 = .ok (.aload_n 1, 1) := by decide +kernel
theorem d_Sheet_setDeclared_22 : decode prog_10_method_7_code 22 = .ok (.invokevirtual 90, 3) := by decide +kernel
theorem d_Sheet_setDeclared_25 : decode prog_10_method_7_code 25 = .ok (.bastore, 1) := by decide +kernel
theorem d_Sheet_setDeclared_26 : decode prog_10_method_7_code 26 = .ok (.iinc 2 1, 3) := by decide +kernel
theorem d_Sheet_setDeclared_29 : decode prog_10_method_7_code 29 = .ok (.goto (-27), 3) := by decide +kernel
theorem d_Sheet_setDeclared_32 : decode prog_10_method_7_code 32 = .ok (.iconst 0, 1) := by decide +kernel
theorem d_Sheet_setDeclared_33 : decode prog_10_method_7_code 33 = .ok (.istore_n 2, 1) := by decide +kernel
theorem d_Sheet_setDeclared_34 : decode prog_10_method_7_code 34 = .ok (.iload_n 2, 1) := by decide +kernel
theorem d_Sheet_setDeclared_35 : decode prog_10_method_7_code 35 = .ok (.bipush 7, 2) := by decide +kernel
theorem d_Sheet_setDeclared_37 : decode prog_10_method_7_code 37 = .ok (.if_icmp .ge 40, 3) := by decide +kernel
theorem d_Sheet_setDeclared_40 : decode prog_10_method_7_code 40 = .ok (.aload_n 0, 1) := by decide +kernel
theorem d_Sheet_setDeclared_41 : decode prog_10_method_7_code 41 = .ok (.iload_n 2, 1) := by decide +kernel
theorem d_Sheet_setDeclared_42 : decode prog_10_method_7_code 42 = .ok (.iconst 1, 1) := by decide +kernel
theorem d_Sheet_setDeclared_43 : decode prog_10_method_7_code 43 = .ok (.invokevirtual 94, 3) := by decide +kernel
theorem d_Sheet_setDeclared_46 : decode prog_10_method_7_code 46 = .ok (.istore_n 3, 1) := by decide +kernel
theorem d_Sheet_setDeclared_47 : decode prog_10_method_7_code 47 = .ok (.iload_n 3, 1) := by decide +kernel
theorem d_Sheet_setDeclared_48 : decode prog_10_method_7_code 48 = .ok (.iconst (-1), 1) := by decide +kernel
theorem d_Sheet_setDeclared_49 : decode prog_10_method_7_code 49 = .ok (.if_icmp .ne 10, 3) := by decide +kernel
theorem d_Sheet_setDeclared_52 : decode prog_10_method_7_code 52 = .ok (.aload_n 0, 1) := by decide +kernel
theorem d_Sheet_setDeclared_53 : decode prog_10_method_7_code 53 = .ok (.iload_n 2, 1) := by decide +kernel
theorem d_Sheet_setDeclared_54 : decode prog_10_method_7_code 54 = .ok (.iconst 0, 1) := by decide +kernel
theorem d_Sheet_setDeclared_55 : decode prog_10_method_7_code 55 = .ok (.invokevirtual 94, 3) := by decide +kernel
theorem d_Sheet_setDeclared_58 : decode prog_10_method_7_code 58 = .ok (.istore_n 3, 1) := by decide +kernel
theorem d_Sheet_setDeclared_59 : decode prog_10_method_7_code 59 = .ok (.iload_n 3, 1) := by decide +kernel
theorem d_Sheet_setDeclared_60 : decode prog_10_method_7_code 60 = .ok (.iconst (-1), 1) := by decide +kernel
theorem d_Sheet_setDeclared_61 : decode prog_10_method_7_code 61 = .ok (.if_icmp .eq 10, 3) := by decide +kernel
theorem d_Sheet_setDeclared_64 : decode prog_10_method_7_code 64 = .ok (.aload_n 1, 1) := by decide +kernel
theorem d_Sheet_setDeclared_65 : decode prog_10_method_7_code 65 = .ok (.getfield 76, 3) := by decide +kernel
theorem d_Sheet_setDeclared_68 : decode prog_10_method_7_code 68 = .ok (.iload_n 2, 1) := by decide +kernel
theorem d_Sheet_setDeclared_69 : decode prog_10_method_7_code 69 = .ok (.iload_n 3, 1) := by decide +kernel
theorem d_Sheet_setDeclared_70 : decode prog_10_method_7_code 70 = .ok (.iastore, 1) := by decide +kernel
theorem d_Sheet_setDeclared_71 : decode prog_10_method_7_code 71 = .ok (.iinc 2 1, 3) := by decide +kernel
theorem d_Sheet_setDeclared_74 : decode prog_10_method_7_code 74 = .ok (.goto (-40), 3) := by decide +kernel
theorem d_Sheet_setDeclared_77 : decode prog_10_method_7_code 77 = .ok (.aload_n 1, 1) := by decide +kernel
theorem d_Sheet_setDeclared_78 : decode prog_10_method_7_code 78 = .ok (.getfield 76, 3) := by decide +kernel
theorem d_Sheet_setDeclared_81 : decode prog_10_method_7_code 81 = .ok (.iconst 3, 1) := by decide +kernel
theorem d_Sheet_setDeclared_82 : decode prog_10_method_7_code 82 = .ok (.iaload, 1) := by decide +kernel
theorem d_Sheet_setDeclared_83 : decode prog_10_method_7_code 83 = .ok (.bipush 105, 2) := by decide +kernel
theorem d_Sheet_setDeclared_85 : decode prog_10_method_7_code 85 = .ok (.if_icmp .ne 23, 3) := by decide +kernel
theorem d_Sheet_setDeclared_88 : decode prog_10_method_7_code 88 = .ok (.aload_n 1, 1) := by decide +kernel
theorem d_Sheet_setDeclared_89 : decode prog_10_method_7_code 89 = .ok (.getfield 60, 3) := by decide +kernel
theorem d_Sheet_setDeclared_92 : decode prog_10_method_7_code 92 = .ok (.ldc 98, 2) := by decide +kernel
theorem d_Sheet_setDeclared_94 : decode prog_10_method_7_code 94 = .ok (.invokestatic 86, 3) := by decide +kernel
theorem d_Sheet_setDeclared_97 : decode prog_10_method_7_code 97 = .ok (.ifCond .eq 11, 3) := by decide +kernel
theorem d_Sheet_setDeclared_100 : decode prog_10_method_7_code 100 = .ok (.aload_n 1, 1) := by decide +kernel
theorem d_Sheet_setDeclared_101 : decode prog_10_method_7_code 101 = .ok (.getfield 76, 3) := by decide +kernel
theorem d_Sheet_setDeclared_104 : decode prog_10_method_7_code 104 = .ok (.iconst 3, 1) := by decide +kernel
theorem d_Sheet_setDeclared_105 : decode prog_10_method_7_code 105 = .ok (.bipush 98, 2) := by decide +kernel
theorem d_Sheet_setDeclared_107 : decode prog_10_method_7_code 107 = .ok (.iastore, 1) := by decide +kernel
theorem d_Sheet_setDeclared_108 : decode prog_10_method_7_code 108 = .ok (.return_, 1) := by decide +kernel
def f_Sheet_setDeclared_2 (q1 : Nat) : Nat → (qM → Option qM) → Int32 → qM → Option qM
  | 0, _, _, _ => none
  | n + 1, K3, x1, M2 => if (M2.1 288 6) ≤ x1 then (K3 M2) else (q_ix x1 12 <| q_lt (292 + 6 * x1.toNatClampNeg) fun o6 => q_bp (f_Rule_fits o6 q1 M2) fun x7 => q_ix x1 12 <| q_zk x7 <| q_lt (qsI M2 290 x1.toNatClampNeg x7) fun M10 => f_Sheet_setDeclared_2 q1 n K3 (x1 + 1) M10)
def f_Sheet_setDeclared_34 (q1 : Nat) : Nat → (qM → Option qM) → Int32 → qM → Option qM
  | 0, _, _, _ => none
  | n + 1, K14, x12, M13 => if 7 ≤ x12 then (K14 M13) else (q_bp (f_Sheet_strongest x12 1 M13) fun x16 => q_lt (fun (x17 : Int32) => if x17 = (-1) then (f_Sheet_setDeclared_34 q1 n K14 (x12 + 1) M13) else (q_ix x12 7 <| q_lt (qsI M13 (q1 + 3) x12.toNatClampNeg x17) fun M20 => f_Sheet_setDeclared_34 q1 n K14 (x12 + 1) M20)) fun (j21 : Int32 → Option qM) => if x16 = (-1) then (q_bp (f_Sheet_strongest x12 0 M13) fun x23 => j21 x23) else (j21 x16))
def f_Sheet_setDeclared (q1 : Nat) (M : qM) : Option qM := f_Sheet_setDeclared_2 q1 1000 (fun (M11 : qM) => f_Sheet_setDeclared_34 q1 1000 (fun (M24 : qM) => q_ix (3 : Int32) 7 <| if (M24.1 (q1 + 3) (3 : Int32).toNatClampNeg) = 105 then (q_bp (f_Pg_isOneOf (M24.1 q1 0) 11 M24) fun x27 => if x27 = 0 then (some M24) else (q_ix (3 : Int32) 7 <| q_lt (qsI M24 (q1 + 3) (3 : Int32).toNatClampNeg 98) fun M30 => some M30)) else (some M24)) 0 M11) 0 M
abbrev rm_Sheet_setDeclared : Room := { frames := 14, cells := 0, slots := 0, locals := 442 }
set_option maxRecDepth 100000 in
set_option maxHeartbeats 4000000 in
theorem c_Sheet_setDeclared {l : Launch} {D : va_G} {dA : Nat → ClassId} {b : Nat} {adK adV : Nat → Nat} (q1 : Nat) (tq1 : tcX q1 = 7) (M : qM) (out : qM) (hf : f_Sheet_setDeclared q1 M = some out) : CTv l y_Sheet_setDeclared w_Sheet_setDeclared rm_Sheet_setDeclared D (tysX dA) (enX dA b) 367 b (qX adK adV 367 b) [qr (some 288), qr (some q1)] M out := by
  refine qm_v (cc := prog_10_method_7_code) (nL := 4) (by decide) rfl (Nat.le_of_ble_eq_true rfl) ?_
  intro p e s m args below meth c Q hx hb hts0 hown hml hK hs hret
  have hts : ∀ w ∈ lw_g, w.before args s = true := fun w h => hts0 w (List.mem_cons_of_mem _ h)
  show QJ p l e rm_Sheet_setDeclared s m args below meth c (qA 367 b) b 4 0 0 Q (qWd D (enX dA b) 367 b) M 0 [(0, qr (some 288)), (1, qr (some q1))] []
  unfold f_Sheet_setDeclared at hf
  refine qj_iconst (v := 0) hx hb d_Sheet_setDeclared_0 (by decide) ?_
  refine qj_istore_n hx hb d_Sheet_setDeclared_1 rfl (by decide) rfl ?_
  have hL2 : ∀ (n : Nat) (K3 : qM → Option qM), (∀ (M11 : qM), K3 M11 = some out → QJ p l e rm_Sheet_setDeclared s m args below meth c (qA 367 b) b 4 0 0 Q (qWd D (enX dA b) 367 b) M11 32 [(0, qr (some 288)), (1, qr (some q1))] []) → ∀ (x1 : Int32) (M2 : qM), f_Sheet_setDeclared_2 q1 n K3 x1 M2 = some out → QJ p l e rm_Sheet_setDeclared s m args below meth c (qA 367 b) b 4 0 0 Q (qWd D (enX dA b) 367 b) M2 2 [(0, qr (some 288)), (1, qr (some q1)), (2, qi x1)] [] := by
    clear hf
    intro n
    induction n with
    | zero =>
      intro K3 hK3 x1 M2 hf
      exact absurd hf (by simp [f_Sheet_setDeclared_2])
    | succ n ih2 =>
      intro K3 hK3 x1 M2 hf
      rw [f_Sheet_setDeclared_2] at hf
      have ih2 := ih2 K3 hK3
      refine qj_iload_n hx hb d_Sheet_setDeclared_2 rfl 2 rfl ?_
      refine qj_aload_n hx hb d_Sheet_setDeclared_3 rfl 0 rfl ?_
      refine qj_get hx hb hts hin_8 hown hK (q_in (rfl : tcX 288 = 14) (by decide)) (en_14 (rfl : tcX 288 = 14)) rfl 6 (by decide) (hts _ tw_290) (fun _ h => h) (qi (M2.1 288 6)) rfl d_Sheet_setDeclared_4 ?_
      refine qj_icmp_ge (tgt := 32) hx hb d_Sheet_setDeclared_7 (by decide) (fun hc4 => ?_) (fun hc4 => ?_)
      · replace hf := q_if_t hc4 hf
        refine qj_sub [0, 1] rfl ?_
        exact hK3 M2 hf
      · replace hf := q_if_f hc4 hf
        refine qj_aload_n hx hb d_Sheet_setDeclared_10 rfl 0 rfl ?_
        refine qj_get hx hb hts hin_8 hown hK (q_in (rfl : tcX 288 = 14) (by decide)) (en_14 (rfl : tcX 288 = 14)) rfl 1 (by decide) (hts _ tw_357) (fun _ h => h) (qr (some 290)) rfl d_Sheet_setDeclared_11 ?_
        refine qj_iload_n hx hb d_Sheet_setDeclared_14 rfl 2 rfl ?_
        refine qj_aload_n hx hb d_Sheet_setDeclared_15 rfl 0 rfl ?_
        refine qj_get hx hb hts hin_8 hown hK (q_in (rfl : tcX 288 = 14) (by decide)) (en_14 (rfl : tcX 288 = 14)) rfl 0 (by decide) (hts _ tw_291) (fun _ h => h) (qr (some 289)) rfl d_Sheet_setDeclared_16 ?_
        refine qj_iload_n hx hb d_Sheet_setDeclared_19 rfl 2 rfl ?_
        have hf9 := q_ix_s hf; clear hf; obtain ⟨hi5, hf⟩ := hf9
        have hf9 := q_lt_s hf; clear hf; obtain ⟨o6, eo6, hf⟩ := hf9
        have to6 : tcX o6 = 18 := by rw [eo6]; exact tc_e15 hi5
        refine qj_aald (t0 := 5) (f := fun j => some (292 + 6 * j)) hx hb hK (q_in (rfl : tcX 289 = 15) (by decide)) (en_15 (rfl : tcX 289 = 15) _ _) rfl hi5 d_Sheet_setDeclared_20 ?_
        rw [← eo6]
        refine qj_aload_n hx hb d_Sheet_setDeclared_21 rfl 1 rfl ?_
        have hf9 := q_bp_s hf; clear hf; obtain ⟨x7, hx7, hf⟩ := hf9
        refine qc_Vi (st := [qi x1, qr (some 290)]) hx hb hml hown hts hK (qX_ok _ _ _ _) hs (c_Rule_fits o6 q1 to6 tq1 M2 _ hx7) ⟨(callB_of 1 hts (q_good tw_753) rfl rfl rfl (hts _ tw_261) (hts _ tw_754) (by decide +kernel) ⟨by decide, by decide⟩), (hts _ tw_755), (hts _ tw_756)⟩ (q_in to6 (by decide)) (en_18 to6) rfl rfl rfl (Nat.le_of_ble_eq_true rfl) d_Sheet_setDeclared_22 ?_
        have hf9 := q_ix_s hf; clear hf; obtain ⟨hi8, hf⟩ := hf9
        have hf9 := q_zk_s hf; clear hf; obtain ⟨hz9, hf⟩ := hf9
        have hf9 := q_lt_s hf; clear hf; obtain ⟨M10, eM10, hf⟩ := hf9
        refine qj_zast (t0 := 2) hx hb hK (q_in (rfl : tcX 290 = 16) (by decide)) (en_16 (rfl : tcX 290 = 16)) rfl hi8 hz9 eM10 d_Sheet_setDeclared_25 ?_
        refine qj_iinc (j := 2) (v := x1 + 1) hx hb d_Sheet_setDeclared_26 rfl rfl (by decide) rfl ?_
        refine qj_goto (tgt := 2) hx hb d_Sheet_setDeclared_29 (by decide) ?_
        refine qj_sub [1, 2, 0] rfl ?_
        exact ih2 (x1 + 1) M10 hf
  refine qj_sub [1, 2, 0] rfl ?_
  refine hL2 _ _ (fun M11 hf9 => ?_) 0 M hf
  clear hf; have hf := hf9; clear hf9
  refine qj_iconst (v := 0) hx hb d_Sheet_setDeclared_32 (by decide) ?_
  refine qj_istore_n hx hb d_Sheet_setDeclared_33 rfl (by decide) rfl ?_
  have hL34 : ∀ (n : Nat) (K14 : qM → Option qM), (∀ (M24 : qM), K14 M24 = some out → QJ p l e rm_Sheet_setDeclared s m args below meth c (qA 367 b) b 4 0 0 Q (qWd D (enX dA b) 367 b) M24 77 [(1, qr (some q1))] []) → ∀ (x12 : Int32) (M13 : qM), f_Sheet_setDeclared_34 q1 n K14 x12 M13 = some out → QJ p l e rm_Sheet_setDeclared s m args below meth c (qA 367 b) b 4 0 0 Q (qWd D (enX dA b) 367 b) M13 34 [(0, qr (some 288)), (1, qr (some q1)), (2, qi x12)] [] := by
    clear hf
    intro n
    induction n with
    | zero =>
      intro K14 hK14 x12 M13 hf
      exact absurd hf (by simp [f_Sheet_setDeclared_34])
    | succ n ih34 =>
      intro K14 hK14 x12 M13 hf
      rw [f_Sheet_setDeclared_34] at hf
      have ih34 := ih34 K14 hK14
      refine qj_iload_n hx hb d_Sheet_setDeclared_34 rfl 2 rfl ?_
      refine qj_bipush (v := 7) hx hb d_Sheet_setDeclared_35 (by decide) ?_
      refine qj_icmp_ge (tgt := 77) hx hb d_Sheet_setDeclared_37 (by decide) (fun hc15 => ?_) (fun hc15 => ?_)
      · replace hf := q_if_t hc15 hf
        refine qj_sub [1] rfl ?_
        exact hK14 M13 hf
      · replace hf := q_if_f hc15 hf
        refine qj_aload_n hx hb d_Sheet_setDeclared_40 rfl 0 rfl ?_
        refine qj_iload_n hx hb d_Sheet_setDeclared_41 rfl 2 rfl ?_
        refine qj_iconst (v := 1) hx hb d_Sheet_setDeclared_42 (by decide) ?_
        have hf9 := q_bp_s hf; clear hf; obtain ⟨x16, hx16, hf⟩ := hf9
        refine qc_Vi (st := []) hx hb hml hown hts hK (qX_ok _ _ _ _) hs (c_Sheet_strongest x12 1 M13 _ hx16) ⟨(callB_of 2 hts (q_good tw_757) rfl rfl rfl (hts _ tw_297) (hts _ tw_758) (by decide +kernel) ⟨by decide, by decide⟩), (hts _ tw_759), (hts _ tw_760)⟩ (q_in (rfl : tcX 288 = 14) (by decide)) (en_14 (rfl : tcX 288 = 14)) rfl rfl rfl (Nat.le_of_ble_eq_true rfl) d_Sheet_setDeclared_43 ?_
        refine qj_istore_n hx hb d_Sheet_setDeclared_46 rfl (by decide) rfl ?_
        refine qj_iload_n hx hb d_Sheet_setDeclared_47 rfl 0 rfl ?_
        refine qj_iconst (v := (-1)) hx hb d_Sheet_setDeclared_48 (by decide) ?_
        have hf9 := q_lt_s hf; clear hf; obtain ⟨j21, ej21, hf⟩ := hf9
        have hj21 : ∀ (x17 : Int32), j21 x17 = some out → QJ p l e rm_Sheet_setDeclared s m args below meth c (qA 367 b) b 4 0 0 Q (qWd D (enX dA b) 367 b) M13 59 [(0, qr (some 288)), (1, qr (some q1)), (2, qi x12), (3, qi x17)] [] := by
          clear hf
          intro x17 hf
          rw [ej21] at hf
          refine qj_iload_n hx hb d_Sheet_setDeclared_59 rfl 3 rfl ?_
          refine qj_iconst (v := (-1)) hx hb d_Sheet_setDeclared_60 (by decide) ?_
          refine qj_icmp_eq (tgt := 71) hx hb d_Sheet_setDeclared_61 (by decide) (fun hc18 => ?_) (fun hc18 => ?_)
          · replace hf := q_if_t hc18 hf
            refine qj_iinc (j := 2) (v := x12 + 1) hx hb d_Sheet_setDeclared_71 rfl rfl (by decide) rfl ?_
            refine qj_goto (tgt := 34) hx hb d_Sheet_setDeclared_74 (by decide) ?_
            refine qj_sub [1, 2, 0] rfl ?_
            exact ih34 (x12 + 1) M13 hf
          · replace hf := q_if_f hc18 hf
            refine qj_aload_n hx hb d_Sheet_setDeclared_64 rfl 1 rfl ?_
            refine qj_get hx hb hts hin_3 hown hK (q_in tq1 (by decide)) (en_7 tq1) rfl 12 (by decide) (hts _ tw_348) (fun _ h => h) (qr (some (q1 + 3))) rfl d_Sheet_setDeclared_65 ?_
            refine qj_iload_n hx hb d_Sheet_setDeclared_68 rfl 2 rfl ?_
            refine qj_iload_n hx hb d_Sheet_setDeclared_69 rfl 3 rfl ?_
            have hf9 := q_ix_s hf; clear hf; obtain ⟨hi19, hf⟩ := hf9
            have hf9 := q_lt_s hf; clear hf; obtain ⟨M20, eM20, hf⟩ := hf9
            refine qj_iast (t0 := 0) hx hb hK (q_in (tc_7_3 tq1) (by decide)) (en_10 (tc_7_3 tq1)) rfl hi19 eM20 d_Sheet_setDeclared_70 ?_
            refine qj_iinc (j := 2) (v := x12 + 1) hx hb d_Sheet_setDeclared_71 rfl rfl (by decide) rfl ?_
            refine qj_goto (tgt := 34) hx hb d_Sheet_setDeclared_74 (by decide) ?_
            refine qj_sub [1, 2, 0] rfl ?_
            exact ih34 (x12 + 1) M20 hf
        refine qj_icmp_ne (tgt := 59) hx hb d_Sheet_setDeclared_49 (by decide) (fun hc22 => ?_) (fun hc22 => ?_)
        · replace hf := q_if_f hc22 hf
          refine qj_sub [1, 2, 3, 0] rfl ?_
          exact hj21 x16 hf
        · replace hf := q_if_t hc22 hf
          refine qj_aload_n hx hb d_Sheet_setDeclared_52 rfl 1 rfl ?_
          refine qj_iload_n hx hb d_Sheet_setDeclared_53 rfl 3 rfl ?_
          refine qj_iconst (v := 0) hx hb d_Sheet_setDeclared_54 (by decide) ?_
          have hf9 := q_bp_s hf; clear hf; obtain ⟨x23, hx23, hf⟩ := hf9
          refine qc_Vi (st := []) hx hb hml hown hts hK (qX_ok _ _ _ _) hs (c_Sheet_strongest x12 0 M13 _ hx23) ⟨(callB_of 2 hts (q_good tw_757) rfl rfl rfl (hts _ tw_297) (hts _ tw_758) (by decide +kernel) ⟨by decide, by decide⟩), (hts _ tw_759), (hts _ tw_760)⟩ (q_in (rfl : tcX 288 = 14) (by decide)) (en_14 (rfl : tcX 288 = 14)) rfl rfl rfl (Nat.le_of_ble_eq_true rfl) d_Sheet_setDeclared_55 ?_
          refine qj_istore_n hx hb d_Sheet_setDeclared_58 rfl (by decide) rfl ?_
          refine qj_sub [1, 2, 3, 0] rfl ?_
          exact hj21 x23 hf
  refine qj_sub [1, 2, 0] rfl ?_
  refine hL34 _ _ (fun M24 hf9 => ?_) 0 M11 hf
  clear hf; have hf := hf9; clear hf9
  refine qj_aload_n hx hb d_Sheet_setDeclared_77 rfl 0 rfl ?_
  refine qj_get hx hb hts hin_3 hown hK (q_in tq1 (by decide)) (en_7 tq1) rfl 12 (by decide) (hts _ tw_348) (fun _ h => h) (qr (some (q1 + 3))) rfl d_Sheet_setDeclared_78 ?_
  refine qj_iconst (v := 3) hx hb d_Sheet_setDeclared_81 (by decide) ?_
  have hf9 := q_ix_s hf; clear hf; obtain ⟨hi25, hf⟩ := hf9
  refine qj_iald (t0 := 0) hx hb hK (q_in (tc_7_3 tq1) (by decide)) (en_10 (tc_7_3 tq1)) rfl hi25 d_Sheet_setDeclared_82 ?_
  refine qj_bipush (v := 105) hx hb d_Sheet_setDeclared_83 (by decide) ?_
  refine qj_icmp_ne (tgt := 108) hx hb d_Sheet_setDeclared_85 (by decide) (fun hc26 => ?_) (fun hc26 => ?_)
  · replace hf := q_if_f hc26 hf
    exact hret _ _ _ d_Sheet_setDeclared_108 (Option.some.inj hf)
  · replace hf := q_if_t hc26 hf
    refine qj_aload_n hx hb d_Sheet_setDeclared_88 rfl 0 rfl ?_
    refine qj_get hx hb hts hin_3 hown hK (q_in tq1 (by decide)) (en_7 tq1) rfl 0 (by decide) (hts _ tw_350) (fun _ h => h) (qi (M24.1 q1 0)) rfl d_Sheet_setDeclared_89 ?_
    refine qj_ldcS hx hb hown (hs.2.1 ("PlainPage$Sheet", 98, "trc", 11) (by decide +kernel)) d_Sheet_setDeclared_92 ?_
    have hf9 := q_bp_s hf; clear hf; obtain ⟨x27, hx27, hf⟩ := hf9
    refine qc_SNi (st := []) hx hb hml hown hts hK (qX_ok _ _ _ _) hs (c_Pg_isOneOf (M24.1 q1 0) 11 M24 _ hx27) ⟨(va_cnB 2 hts (q_good tw_5) rfl rfl rfl (hs.2.2.1 ("PlainPage$Sheet", 86, y_Pg_isOneOf, "PlainPage") (by decide +kernel)) (hts _ tw_4) (by decide +kernel) ⟨by decide, by decide⟩), (hts _ tw_6), trivial⟩ rfl rfl (Nat.le_of_ble_eq_true rfl) d_Sheet_setDeclared_94 ?_
    refine qj_if_eq (tgt := 108) hx hb d_Sheet_setDeclared_97 (by decide) (fun hc28 => ?_) (fun hc28 => ?_)
    · replace hf := q_if_t hc28 hf
      exact hret _ _ _ d_Sheet_setDeclared_108 (Option.some.inj hf)
    · replace hf := q_if_f hc28 hf
      refine qj_aload_n hx hb d_Sheet_setDeclared_100 rfl 0 rfl ?_
      refine qj_get hx hb hts hin_3 hown hK (q_in tq1 (by decide)) (en_7 tq1) rfl 12 (by decide) (hts _ tw_348) (fun _ h => h) (qr (some (q1 + 3))) rfl d_Sheet_setDeclared_101 ?_
      refine qj_iconst (v := 3) hx hb d_Sheet_setDeclared_104 (by decide) ?_
      refine qj_bipush (v := 98) hx hb d_Sheet_setDeclared_105 (by decide) ?_
      have hf9 := q_ix_s hf; clear hf; obtain ⟨hi29, hf⟩ := hf9
      have hf9 := q_lt_s hf; clear hf; obtain ⟨M30, eM30, hf⟩ := hf9
      refine qj_iast (t0 := 0) hx hb hK (q_in (tc_7_3 tq1) (by decide)) (en_10 (tc_7_3 tq1)) rfl hi29 eM30 d_Sheet_setDeclared_107 ?_
      exact hret _ _ _ d_Sheet_setDeclared_108 (Option.some.inj hf)
theorem d_Sheet_dress_0 : decode prog_10_method_5_code 0 = .ok (.iconst 0, 1) := by decide +kernel
theorem d_Sheet_dress_1 : decode prog_10_method_5_code 1 = .ok (.istore_n 2, 1) := by decide +kernel
theorem d_Sheet_dress_2 : decode prog_10_method_5_code 2 = .ok (.iload_n 2, 1) := by decide +kernel
theorem d_Sheet_dress_3 : decode prog_10_method_5_code 3 = .ok (.aload_n 1, 1) := by decide +kernel
theorem d_Sheet_dress_4 : decode prog_10_method_5_code 4 = .ok (.getfield 51, 3) := by decide +kernel
theorem d_Sheet_dress_7 : decode prog_10_method_5_code 7 = .ok (.if_icmp .ge 40, 3) := by decide +kernel
theorem d_Sheet_dress_10 : decode prog_10_method_5_code 10 = .ok (.aload_n 1, 1) := by decide +kernel
theorem d_Sheet_dress_11 : decode prog_10_method_5_code 11 = .ok (.getfield 56, 3) := by decide +kernel
theorem d_Sheet_dress_14 : decode prog_10_method_5_code 14 = .ok (.iload_n 2, 1) := by decide +kernel
theorem d_Sheet_dress_15 : decode prog_10_method_5_code 15 = .ok (.aaload, 1) := by decide +kernel
theorem d_Sheet_dress_16 : decode prog_10_method_5_code 16 = .ok (.astore_n 3, 1) := by decide +kernel
theorem d_Sheet_dress_17 : decode prog_10_method_5_code 17 = .ok (.aload_n 3, 1) := by decide +kernel
theorem d_Sheet_dress_18 : decode prog_10_method_5_code 18 = .ok (.getfield 60, 3) := by decide +kernel
theorem d_Sheet_dress_21 : decode prog_10_method_5_code 21 = .ok (.iconst 1, 1) := by decide +kernel
theorem d_Sheet_dress_22 : decode prog_10_method_5_code 22 = .ok (.if_icmp .eq 7, 3) := by decide +kernel
theorem d_Sheet_dress_25 : decode prog_10_method_5_code 25 = .ok (.aload_n 3, 1) := by decide +kernel
theorem d_Sheet_dress_26 : decode prog_10_method_5_code 26 = .ok (.invokestatic 65, 3) := by decide +kernel
theorem d_Sheet_dress_29 : decode prog_10_method_5_code 29 = .ok (.aload_n 3, 1) := by decide +kernel
theorem d_Sheet_dress_30 : decode prog_10_method_5_code 30 = .ok (.invokevirtual 69, 3) := by decide +kernel
theorem d_Sheet_dress_33 : decode prog_10_method_5_code 33 = .ok (.ifCond .eq 8, 3) := by decide +kernel
theorem d_Sheet_dress_36 : decode prog_10_method_5_code 36 = .ok (.aload_n 0, 1) := by decide +kernel
theorem d_Sheet_dress_37 : decode prog_10_method_5_code 37 = .ok (.aload_n 3, 1) := by decide +kernel
theorem d_Sheet_dress_38 : decode prog_10_method_5_code 38 = .ok (.invokevirtual 73, 3) := by decide +kernel
theorem d_Sheet_dress_41 : decode prog_10_method_5_code 41 = .ok (.iinc 2 1, 3) := by decide +kernel
theorem d_Sheet_dress_44 : decode prog_10_method_5_code 44 = .ok (.goto (-42), 3) := by decide +kernel
theorem d_Sheet_dress_47 : decode prog_10_method_5_code 47 = .ok (.return_, 1) := by decide +kernel
def f_Sheet_dress_2  : Nat → (qM → Option qM) → Int32 → qM → Option qM
  | 0, _, _, _ => none
  | n + 1, K3, x1, M2 => if (M2.1 1 5) ≤ x1 then (K3 M2) else (q_ix x1 24 <| q_lt (M2.2 3 x1.toNatClampNeg) fun r6 => q_nn r6 fun o7 => q_lt (fun (M8 : qM) => q_bp (f_Node_isElement o7 M8) fun x9 => if x9 = 0 then (f_Sheet_dress_2 n K3 (x1 + 1) M8) else (q_cv (f_Sheet_setDeclared o7 M8) fun M11 => f_Sheet_dress_2 n K3 (x1 + 1) M11)) fun (j12 : qM → Option qM) => if (M2.1 o7 0) = 1 then (j12 M2) else (q_cv (f_Sheet_setDefaults o7 M2) fun M14 => j12 M14))
def f_Sheet_dress  (M : qM) : Option qM := f_Sheet_dress_2 1000 (fun (M15 : qM) => some M15) 0 M
abbrev rm_Sheet_dress : Room := { frames := 15, cells := 0, slots := 0, locals := 465 }
set_option maxRecDepth 100000 in
set_option maxHeartbeats 4000000 in
theorem c_Sheet_dress {l : Launch} {D : va_G} {dA : Nat → ClassId} {b : Nat} {adK adV : Nat → Nat}   (M : qM) (out : qM) (hf : f_Sheet_dress M = some out) : CTv l y_Sheet_dress w_Sheet_dress rm_Sheet_dress D (tysX dA) (enX dA b) 367 b (qX adK adV 367 b) [qr (some 288), qr (some 1)] M out := by
  refine qm_v (cc := prog_10_method_5_code) (nL := 4) (by decide) rfl (Nat.le_of_ble_eq_true rfl) ?_
  intro p e s m args below meth c Q hx hb hts0 hown hml hK hs hret
  have hts : ∀ w ∈ lw_g, w.before args s = true := fun w h => hts0 w (List.mem_cons_of_mem _ h)
  show QJ p l e rm_Sheet_dress s m args below meth c (qA 367 b) b 4 0 0 Q (qWd D (enX dA b) 367 b) M 0 [(0, qr (some 288)), (1, qr (some 1))] []
  unfold f_Sheet_dress at hf
  refine qj_iconst (v := 0) hx hb d_Sheet_dress_0 (by decide) ?_
  refine qj_istore_n hx hb d_Sheet_dress_1 rfl (by decide) rfl ?_
  have hL2 : ∀ (n : Nat) (K3 : qM → Option qM), (∀ (M15 : qM), K3 M15 = some out → QJ p l e rm_Sheet_dress s m args below meth c (qA 367 b) b 4 0 0 Q (qWd D (enX dA b) 367 b) M15 47 [] []) → ∀ (x1 : Int32) (M2 : qM), f_Sheet_dress_2 n K3 x1 M2 = some out → QJ p l e rm_Sheet_dress s m args below meth c (qA 367 b) b 4 0 0 Q (qWd D (enX dA b) 367 b) M2 2 [(0, qr (some 288)), (1, qr (some 1)), (2, qi x1)] [] := by
    clear hf
    intro n
    induction n with
    | zero =>
      intro K3 hK3 x1 M2 hf
      exact absurd hf (by simp [f_Sheet_dress_2])
    | succ n ih2 =>
      intro K3 hK3 x1 M2 hf
      rw [f_Sheet_dress_2] at hf
      have ih2 := ih2 K3 hK3
      refine qj_iload_n hx hb d_Sheet_dress_2 rfl 2 rfl ?_
      refine qj_aload_n hx hb d_Sheet_dress_3 rfl 1 rfl ?_
      refine qj_get hx hb hts hin_5 hown hK (q_in (rfl : tcX 1 = 1) (by decide)) (en_1 (rfl : tcX 1 = 1)) rfl 5 (by decide) (hts _ tw_761) (fun _ h => h) (qi (M2.1 1 5)) rfl d_Sheet_dress_4 ?_
      refine qj_icmp_ge (tgt := 47) hx hb d_Sheet_dress_7 (by decide) (fun hc4 => ?_) (fun hc4 => ?_)
      · replace hf := q_if_t hc4 hf
        refine qj_sub [] rfl ?_
        exact hK3 M2 hf
      · replace hf := q_if_f hc4 hf
        refine qj_aload_n hx hb d_Sheet_dress_10 rfl 1 rfl ?_
        refine qj_get hx hb hts hin_5 hown hK (q_in (rfl : tcX 1 = 1) (by decide)) (en_1 (rfl : tcX 1 = 1)) rfl 1 (by decide) (hts _ tw_762) (fun _ h => h) (qr (some 3)) rfl d_Sheet_dress_11 ?_
        refine qj_iload_n hx hb d_Sheet_dress_14 rfl 2 rfl ?_
        have hf9 := q_ix_s hf; clear hf; obtain ⟨hi5, hf⟩ := hf9
        have hf9 := q_lt_s hf; clear hf; obtain ⟨r6, er6, hf⟩ := hf9
        refine qj_w fun w => ?_
        have tr6 : ∀ o, r6 = some o → tcX o = 7 := fun o h => (w _ _ o (er6.symm.trans h)).trans (by rw [(rfl : tcX 3 = 3)] <;> rfl)
        refine qj_aald (t0 := 3) (f := M2.2 3) hx hb hK (q_in (rfl : tcX 3 = 3) (by decide)) (en_3 (rfl : tcX 3 = 3) _ _) rfl hi5 d_Sheet_dress_15 ?_
        rw [← er6]
        refine qj_astore_n hx hb d_Sheet_dress_16 rfl (by decide) rfl ?_
        refine qj_aload_n hx hb d_Sheet_dress_17 rfl 0 rfl ?_
        have hf9 := q_nn_s hf; clear hf; obtain ⟨o7, rfl, hf⟩ := hf9
        refine qj_get hx hb hts hin_3 hown hK (q_in (tr6 _ rfl) (by decide)) (en_7 (tr6 _ rfl)) rfl 0 (by decide) (hts _ tw_350) (fun _ h => h) (qi (M2.1 o7 0)) rfl d_Sheet_dress_18 ?_
        refine qj_iconst (v := 1) hx hb d_Sheet_dress_21 (by decide) ?_
        have hf9 := q_lt_s hf; clear hf; obtain ⟨j12, ej12, hf⟩ := hf9
        have hj12 : ∀ (M8 : qM), j12 M8 = some out → QJ p l e rm_Sheet_dress s m args below meth c (qA 367 b) b 4 0 0 Q (qWd D (enX dA b) 367 b) M8 29 [(0, qr (some 288)), (1, qr (some 1)), (2, qi x1), (3, qr (some o7))] [] := by
          clear hf
          intro M8 hf
          rw [ej12] at hf
          refine qj_aload_n hx hb d_Sheet_dress_29 rfl 3 rfl ?_
          have hf9 := q_bp_s hf; clear hf; obtain ⟨x9, hx9, hf⟩ := hf9
          refine qc_Vi (st := []) hx hb hml hown hts hK (qX_ok _ _ _ _) hs (c_Node_isElement o7 (tr6 _ rfl) M8 _ hx9) ⟨(callB_of 0 hts (q_good tw_351) rfl rfl rfl (hts _ tw_37) (hts _ tw_763) (by decide +kernel) ⟨by decide, by decide⟩), (hts _ tw_353), (hts _ tw_354)⟩ (q_in (tr6 _ rfl) (by decide)) (en_7 (tr6 _ rfl)) rfl rfl rfl (Nat.le_of_ble_eq_true rfl) d_Sheet_dress_30 ?_
          refine qj_if_eq (tgt := 41) hx hb d_Sheet_dress_33 (by decide) (fun hc10 => ?_) (fun hc10 => ?_)
          · replace hf := q_if_t hc10 hf
            refine qj_iinc (j := 2) (v := x1 + 1) hx hb d_Sheet_dress_41 rfl rfl (by decide) rfl ?_
            refine qj_goto (tgt := 2) hx hb d_Sheet_dress_44 (by decide) ?_
            refine qj_sub [1, 2, 0] rfl ?_
            exact ih2 (x1 + 1) M8 hf
          · replace hf := q_if_f hc10 hf
            refine qj_aload_n hx hb d_Sheet_dress_36 rfl 0 rfl ?_
            refine qj_aload_n hx hb d_Sheet_dress_37 rfl 3 rfl ?_
            have hf9 := q_cv_s hf; clear hf; obtain ⟨M11, hM11, hf⟩ := hf9
            refine qc_Vv (st := []) hx hb hml hown hts hK (qX_ok _ _ _ _) hs (c_Sheet_setDeclared o7 (tr6 _ rfl) M8 _ hM11) ⟨(callB_of 1 hts (q_good tw_764) rfl rfl rfl (hts _ tw_297) (hts _ tw_765) (by decide +kernel) ⟨by decide, by decide⟩), (hts _ tw_766), (hts _ tw_767)⟩ (q_in (rfl : tcX 288 = 14) (by decide)) (en_14 (rfl : tcX 288 = 14)) rfl rfl rfl (Nat.le_of_ble_eq_true rfl) d_Sheet_dress_38 ?_
            refine qj_iinc (j := 2) (v := x1 + 1) hx hb d_Sheet_dress_41 rfl rfl (by decide) rfl ?_
            refine qj_goto (tgt := 2) hx hb d_Sheet_dress_44 (by decide) ?_
            refine qj_sub [1, 2, 0] rfl ?_
            exact ih2 (x1 + 1) M11 hf
        refine qj_icmp_eq (tgt := 29) hx hb d_Sheet_dress_22 (by decide) (fun hc13 => ?_) (fun hc13 => ?_)
        · replace hf := q_if_t hc13 hf
          refine qj_sub [1, 2, 3, 0] rfl ?_
          exact hj12 M2 hf
        · replace hf := q_if_f hc13 hf
          refine qj_aload_n hx hb d_Sheet_dress_25 rfl 0 rfl ?_
          have hf9 := q_cv_s hf; clear hf; obtain ⟨M14, hM14, hf⟩ := hf9
          refine qc_Sv (st := []) hx hb hml hown hts hK (qX_ok _ _ _ _) hs (c_Sheet_setDefaults o7 (tr6 _ rfl) M2 _ hM14) ⟨(callB_of 1 hts (q_good tw_768) rfl rfl rfl (hts _ tw_297) (hts _ tw_769) (by decide +kernel) ⟨by decide, by decide⟩), (hts _ tw_770)⟩ rfl rfl (Nat.le_of_ble_eq_true rfl) d_Sheet_dress_26 ?_
          refine qj_sub [1, 2, 3, 0] rfl ?_
          exact hj12 M14 hf
  refine qj_sub [1, 2, 0] rfl ?_
  refine hL2 _ _ (fun M15 hf9 => ?_) 0 M hf
  clear hf; have hf := hf9; clear hf9
  exact hret _ _ _ d_Sheet_dress_47 (Option.some.inj hf)
theorem d_Pg_dress_0 : decode prog_1_method_20_code 0 = .ok (.aload_n 0, 1) := by decide +kernel
theorem d_Pg_dress_1 : decode prog_1_method_20_code 1 = .ok (.getfield 185, 3) := by decide +kernel
theorem d_Pg_dress_4 : decode prog_1_method_20_code 4 = .ok (.ifCond .ne 19, 3) := by decide +kernel
theorem d_Pg_dress_7 : decode prog_1_method_20_code 7 = .ok (.aload_n 0, 1) := by decide +kernel
theorem d_Pg_dress_8 : decode prog_1_method_20_code 8 = .ok (.getfield 26, 3) := by decide +kernel
theorem d_Pg_dress_11 : decode prog_1_method_20_code 11 = .ok (.aload_n 0, 1) := by decide +kernel
theorem d_Pg_dress_12 : decode prog_1_method_20_code 12 = .ok (.getfield 10, 3) := by decide +kernel
theorem d_Pg_dress_15 : decode prog_1_method_20_code 15 = .ok (.invokevirtual 188, 3) := by decide +kernel
theorem d_Pg_dress_18 : decode prog_1_method_20_code 18 = .ok (.aload_n 0, 1) := by decide +kernel
theorem d_Pg_dress_19 : decode prog_1_method_20_code 19 = .ok (.iconst 1, 1) := by decide +kernel
theorem d_Pg_dress_20 : decode prog_1_method_20_code 20 = .ok (.putfield 185, 3) := by decide +kernel
theorem d_Pg_dress_23 : decode prog_1_method_20_code 23 = .ok (.return_, 1) := by decide +kernel
def f_Pg_dress  (M : qM) : Option qM := if (M.1 0 6) = 0 then (q_cv (f_Sheet_dress M) fun M2 => q_lt (qsI M2 0 6 1) fun M3 => some M3) else (some M)
abbrev rm_Pg_dress : Room := { frames := 16, cells := 0, slots := 0, locals := 488 }
set_option maxRecDepth 100000 in
set_option maxHeartbeats 4000000 in
theorem c_Pg_dress {l : Launch} {D : va_G} {dA : Nat → ClassId} {b : Nat} {adK adV : Nat → Nat}   (M : qM) (out : qM) (hf : f_Pg_dress M = some out) : CTv l y_Pg_dress w_Pg_dress rm_Pg_dress D (tysX dA) (enX dA b) 367 b (qX adK adV 367 b) [qr (some 0)] M out := by
  refine qm_v (cc := prog_1_method_20_code) (nL := 1) (by decide) rfl (Nat.le_of_ble_eq_true rfl) ?_
  intro p e s m args below meth c Q hx hb hts0 hown hml hK hs hret
  have hts : ∀ w ∈ lw_g, w.before args s = true := fun w h => hts0 w (List.mem_cons_of_mem _ h)
  show QJ p l e rm_Pg_dress s m args below meth c (qA 367 b) b 1 0 0 Q (qWd D (enX dA b) 367 b) M 0 [(0, qr (some 0))] []
  unfold f_Pg_dress at hf
  refine qj_aload_n hx hb d_Pg_dress_0 rfl 0 rfl ?_
  refine qj_get hx hb hts hin_11 hown hK (q_in (rfl : tcX 0 = 0) (by decide)) (en_0 (rfl : tcX 0 = 0)) rfl 6 (by decide) (hts _ tw_1) (fun _ h => h) (qi (M.1 0 6)) rfl d_Pg_dress_1 ?_
  refine qj_if_ne (tgt := 23) hx hb d_Pg_dress_4 (by decide) (fun hc1 => ?_) (fun hc1 => ?_)
  · replace hf := q_if_f hc1 hf
    exact hret _ _ _ d_Pg_dress_23 (Option.some.inj hf)
  · replace hf := q_if_t hc1 hf
    refine qj_aload_n hx hb d_Pg_dress_7 rfl 0 rfl ?_
    refine qj_get hx hb hts hin_11 hown hK (q_in (rfl : tcX 0 = 0) (by decide)) (en_0 (rfl : tcX 0 = 0)) rfl 2 (by decide) (hts _ tw_307) (fun _ h => h) (qr (some 288)) rfl d_Pg_dress_8 ?_
    refine qj_aload_n hx hb d_Pg_dress_11 rfl 0 rfl ?_
    refine qj_get hx hb hts hin_11 hown hK (q_in (rfl : tcX 0 = 0) (by decide)) (en_0 (rfl : tcX 0 = 0)) rfl 0 (by decide) (hts _ tw_240) (fun _ h => h) (qr (some 1)) rfl d_Pg_dress_12 ?_
    have hf9 := q_cv_s hf; clear hf; obtain ⟨M2, hM2, hf⟩ := hf9
    refine qc_Vv (st := []) hx hb hml hown hts hK (qX_ok _ _ _ _) hs (c_Sheet_dress  M _ hM2) ⟨(callB_of 1 hts (q_good tw_771) rfl rfl rfl (hts _ tw_297) (hts _ tw_772) (by decide +kernel) ⟨by decide, by decide⟩), (hts _ tw_773), (hts _ tw_774)⟩ (q_in (rfl : tcX 288 = 14) (by decide)) (en_14 (rfl : tcX 288 = 14)) rfl rfl rfl (Nat.le_of_ble_eq_true rfl) d_Pg_dress_15 ?_
    refine qj_aload_n hx hb d_Pg_dress_18 rfl 0 rfl ?_
    refine qj_iconst (v := 1) hx hb d_Pg_dress_19 (by decide) ?_
    have hf9 := q_lt_s hf; clear hf; obtain ⟨M3, eM3, hf⟩ := hf9
    refine qj_puti (ty := .boolean) hx hb hts hin_11 ty_11 tyok_11 nm_11 hown hK (q_in (rfl : tcX 0 = 0) (by decide)) (en_0 (rfl : tcX 0 = 0)) rfl 6 (by decide) (hts _ tw_1) (fun _ h => h) rfl (by decide +kernel) rfl rfl (Nat.le_of_ble_eq_true rfl) (sp_0_6 (rfl : tcX 0 = 0)) eM3 d_Pg_dress_20 ?_
    exact hret _ _ _ d_Pg_dress_23 (Option.some.inj hf)
theorem d_Pg_value_0 : decode prog_1_method_12_code 0 = .ok (.aload_n 0, 1) := by decide +kernel
theorem d_Pg_value_1 : decode prog_1_method_12_code 1 = .ok (.getfield 10, 3) := by decide +kernel
theorem d_Pg_value_4 : decode prog_1_method_12_code 4 = .ok (.iload_n 1, 1) := by decide +kernel
theorem d_Pg_value_5 : decode prog_1_method_12_code 5 = .ok (.invokevirtual 71, 3) := by decide +kernel
theorem d_Pg_value_8 : decode prog_1_method_12_code 8 = .ok (.astore_n 3, 1) := by decide +kernel
theorem d_Pg_value_9 : decode prog_1_method_12_code 9 = .ok (.ldc 110, 2) := by decide +kernel
theorem d_Pg_value_11 : decode prog_1_method_12_code 11 = .ok (.iload_n 2, 1) := by decide +kernel
theorem d_Pg_value_12 : decode prog_1_method_12_code 12 = .ok (.invokevirtual 112, 3) := by decide +kernel
theorem d_Pg_value_15 : decode prog_1_method_12_code 15 = .ok (.istore 4, 2) := by decide +kernel
theorem d_Pg_value_17 : decode prog_1_method_12_code 17 = .ok (.aload_n 3, 1) := by decide +kernel
theorem d_Pg_value_18 : decode prog_1_method_12_code 18 = .ok (.ifnull 15, 3) := by decide +kernel
theorem d_Pg_value_21 : decode prog_1_method_12_code 21 = .ok (.aload_n 3, 1) := by decide +kernel
theorem d_Pg_value_22 : decode prog_1_method_12_code 22 = .ok (.invokevirtual 118, 3) := by decide +kernel
theorem d_Pg_value_25 : decode prog_1_method_12_code 25 = .ok (.ifCond .eq 8, 3) := by decide +kernel
theorem d_Pg_value_28 : decode prog_1_method_12_code 28 = .ok (.iload 4, 2) := by decide +kernel
theorem d_Pg_value_30 : decode prog_1_method_12_code 30 = .ok (.ifCond .ge 5, 3) := by decide +kernel
theorem d_Pg_value_33 : decode prog_1_method_12_code 33 = .ok (.iconst (-1), 1) := by decide +kernel
theorem d_Pg_value_34 : decode prog_1_method_12_code 34 = .ok (.ireturn, 1) := by decide +kernel
theorem d_Pg_value_35 : decode prog_1_method_12_code 35 = .ok (.aload_n 0, 1) := by decide +kernel
theorem d_Pg_value_36 : decode prog_1_method_12_code 36 = .ok (.invokevirtual 122, 3) := by decide +kernel
theorem d_Pg_value_39 : decode prog_1_method_12_code 39 = .ok (.aload_n 3, 1) := by decide +kernel
theorem d_Pg_value_40 : decode prog_1_method_12_code 40 = .ok (.getfield 125, 3) := by decide +kernel
theorem d_Pg_value_43 : decode prog_1_method_12_code 43 = .ok (.iload 4, 2) := by decide +kernel
theorem d_Pg_value_45 : decode prog_1_method_12_code 45 = .ok (.iaload, 1) := by decide +kernel
theorem d_Pg_value_46 : decode prog_1_method_12_code 46 = .ok (.ireturn, 1) := by decide +kernel
def f_Pg_value (a1 : Int32) (a2 : Int32) (M : qM) : Option (Int32 × qM) := q_bp (f_Tree_nodeAt a1 M) fun r1 => q_bp (f_indexOf 9 a2) fun x2 => q_on r1 (some ((-1), M)) fun o3 => (q_bp (f_Node_isElement o3 M) fun x4 => if x4 = 0 then (some ((-1), M)) else (if 0 ≤ x2 then (q_cv (f_Pg_dress M) fun M7 => q_ix x2 7 <| some (M7.1 (o3 + 3) x2.toNatClampNeg, M7)) else (some ((-1), M))))
abbrev rm_Pg_value : Room := { frames := 17, cells := 0, slots := 0, locals := 508 }
set_option maxRecDepth 100000 in
set_option maxHeartbeats 4000000 in
theorem c_Pg_value {l : Launch} {D : va_G} {dA : Nat → ClassId} {b : Nat} {adK adV : Nat → Nat} (a1 : Int32) (a2 : Int32)  (M : qM) (out : Int32 × qM) (hf : f_Pg_value a1 a2 M = some out) : CTi l y_Pg_value w_Pg_value rm_Pg_value D (tysX dA) (enX dA b) 367 b (qX adK adV 367 b) [qr (some 0), qi a1, qi a2] M out := by
  refine qm_i (cc := prog_1_method_12_code) (nL := 5) (by decide) rfl (Nat.le_of_ble_eq_true rfl) ?_
  intro p e s m args below meth c Q hx hb hts0 hown hml hK hs hret
  have hts : ∀ w ∈ lw_g, w.before args s = true := fun w h => hts0 w (List.mem_cons_of_mem _ h)
  show QJ p l e rm_Pg_value s m args below meth c (qA 367 b) b 5 0 0 Q (qWd D (enX dA b) 367 b) M 0 [(0, qr (some 0)), (1, qi a1), (2, qi a2)] []
  unfold f_Pg_value at hf
  refine qj_aload_n hx hb d_Pg_value_0 rfl 0 rfl ?_
  refine qj_get hx hb hts hin_11 hown hK (q_in (rfl : tcX 0 = 0) (by decide)) (en_0 (rfl : tcX 0 = 0)) rfl 0 (by decide) (hts _ tw_240) (fun _ h => h) (qr (some 1)) rfl d_Pg_value_1 ?_
  refine qj_iload_n hx hb d_Pg_value_4 rfl 1 rfl ?_
  have hf9 := q_bp_s hf; clear hf; obtain ⟨r1, hr1, hf⟩ := hf9
  refine qc_Vr (st := []) hx hb hml hown hts hK (qX_ok _ _ _ _) hs (c_Tree_nodeAt a1 M _ hr1) ⟨(callB_of 1 hts (q_good tw_330) rfl rfl rfl (hts _ tw_54) (hts _ tw_331) (by decide +kernel) ⟨by decide, by decide⟩), (hts _ tw_332), (hts _ tw_333)⟩ (q_in (rfl : tcX 1 = 1) (by decide)) (en_1 (rfl : tcX 1 = 1)) rfl rfl rfl (Nat.le_of_ble_eq_true rfl) d_Pg_value_5 (fun tr1 => ?_)
  refine qj_astore_n hx hb d_Pg_value_8 rfl (by decide) rfl ?_
  refine qj_ldcS hx hb hown (hs.2.1 ("PlainPage", 110, "cbsdmpw", 9) (by decide +kernel)) d_Pg_value_9 ?_
  refine qj_iload_n hx hb d_Pg_value_11 rfl 3 rfl ?_
  have hf9 := q_bp_s hf; clear hf; obtain ⟨x2, hx2, hf⟩ := hf9
  refine qc_ix (st := []) hx hb hml hown hts hK hs (hts _ tw_2) hx2 rfl (Nat.le_of_ble_eq_true rfl) ⟨by decide, by decide⟩ d_Pg_value_12 ?_
  refine qj_istore hx hb d_Pg_value_15 (by decide) rfl ?_
  refine qj_aload_n hx hb d_Pg_value_17 rfl 1 rfl ?_
  refine qj_ifnull (tgt := 33) hx hb d_Pg_value_18 (by decide) (fun hn9 => ?_) (fun o3 hn9 => ?_)
  · subst hn9
    replace hf := q_on_n hf
    refine qj_iconst (v := (-1)) hx hb d_Pg_value_33 (by decide) ?_
    exact hret _ _ _ _ d_Pg_value_34 (Option.some.inj hf)
  · subst hn9
    replace hf := q_on_s hf
    refine qj_aload_n hx hb d_Pg_value_21 rfl 1 rfl ?_
    have hf9 := q_bp_s hf; clear hf; obtain ⟨x4, hx4, hf⟩ := hf9
    refine qc_Vi (st := []) hx hb hml hown hts hK (qX_ok _ _ _ _) hs (c_Node_isElement o3 (tr1 _ rfl) M _ hx4) ⟨(callB_of 0 hts (q_good tw_351) rfl rfl rfl (hts _ tw_37) (hts _ tw_775) (by decide +kernel) ⟨by decide, by decide⟩), (hts _ tw_353), (hts _ tw_354)⟩ (q_in (tr1 _ rfl) (by decide)) (en_7 (tr1 _ rfl)) rfl rfl rfl (Nat.le_of_ble_eq_true rfl) d_Pg_value_22 ?_
    refine qj_if_eq (tgt := 33) hx hb d_Pg_value_25 (by decide) (fun hc5 => ?_) (fun hc5 => ?_)
    · replace hf := q_if_t hc5 hf
      refine qj_iconst (v := (-1)) hx hb d_Pg_value_33 (by decide) ?_
      exact hret _ _ _ _ d_Pg_value_34 (Option.some.inj hf)
    · replace hf := q_if_f hc5 hf
      refine qj_iload hx hb d_Pg_value_28 0 rfl ?_
      refine qj_if_ge (tgt := 35) hx hb d_Pg_value_30 (by decide) (fun hc6 => ?_) (fun hc6 => ?_)
      · replace hf := q_if_t hc6 hf
        refine qj_aload_n hx hb d_Pg_value_35 rfl 2 rfl ?_
        have hf9 := q_cv_s hf; clear hf; obtain ⟨M7, hM7, hf⟩ := hf9
        refine qc_Vv (st := []) hx hb hml hown hts hK (qX_ok _ _ _ _) hs (c_Pg_dress  M _ hM7) ⟨(callB_of 0 hts (q_good tw_776) rfl rfl rfl (hts _ tw_4) (hts _ tw_777) (by decide +kernel) ⟨by decide, by decide⟩), (hts _ tw_778), (hts _ tw_779)⟩ (q_in (rfl : tcX 0 = 0) (by decide)) (en_0 (rfl : tcX 0 = 0)) rfl rfl rfl (Nat.le_of_ble_eq_true rfl) d_Pg_value_36 ?_
        refine qj_aload_n hx hb d_Pg_value_39 rfl 1 rfl ?_
        refine qj_get hx hb hts hin_3 hown hK (q_in (tr1 _ rfl) (by decide)) (en_7 (tr1 _ rfl)) rfl 12 (by decide) (hts _ tw_780) (fun _ h => h) (qr (some (o3 + 3))) rfl d_Pg_value_40 ?_
        refine qj_iload hx hb d_Pg_value_43 0 rfl ?_
        have hf9 := q_ix_s hf; clear hf; obtain ⟨hi8, hf⟩ := hf9
        refine qj_iald (t0 := 0) hx hb hK (q_in (tc_7_3 (tr1 _ rfl)) (by decide)) (en_10 (tc_7_3 (tr1 _ rfl))) rfl hi8 d_Pg_value_45 ?_
        exact hret _ _ _ _ d_Pg_value_46 (Option.some.inj hf)
      · replace hf := q_if_f hc6 hf
        refine qj_iconst (v := (-1)) hx hb d_Pg_value_33 (by decide) ?_
        exact hret _ _ _ _ d_Pg_value_34 (Option.some.inj hf)
theorem d_Layout_layBelow_0 : decode prog_4_method_7_code 0 = .ok (.aload_n 0, 1) := by decide +kernel
theorem d_Layout_layBelow_1 : decode prog_4_method_7_code 1 = .ok (.getfield 12, 3) := by decide +kernel
theorem d_Layout_layBelow_4 : decode prog_4_method_7_code 4 = .ok (.aload_n 2, 1) := by decide +kernel
theorem d_Layout_layBelow_5 : decode prog_4_method_7_code 5 = .ok (.invokevirtual 113, 3) := by decide +kernel
theorem d_Layout_layBelow_8 : decode prog_4_method_7_code 8 = .ok (.aload_n 1, 1) := by decide +kernel
theorem d_Layout_layBelow_9 : decode prog_4_method_7_code 9 = .ok (.getfield 66, 3) := by decide +kernel
theorem d_Layout_layBelow_12 : decode prog_4_method_7_code 12 = .ok (.iconst 4, 1) := by decide +kernel
theorem d_Layout_layBelow_13 : decode prog_4_method_7_code 13 = .ok (.iaload, 1) := by decide +kernel
theorem d_Layout_layBelow_14 : decode prog_4_method_7_code 14 = .ok (.istore 4, 2) := by decide +kernel
theorem d_Layout_layBelow_16 : decode prog_4_method_7_code 16 = .ok (.aload_n 2, 1) := by decide +kernel
theorem d_Layout_layBelow_17 : decode prog_4_method_7_code 17 = .ok (.getfield 92, 3) := by decide +kernel
theorem d_Layout_layBelow_20 : decode prog_4_method_7_code 20 = .ok (.aload_n 2, 1) := by decide +kernel
theorem d_Layout_layBelow_21 : decode prog_4_method_7_code 21 = .ok (.getfield 95, 3) := by decide +kernel
theorem d_Layout_layBelow_24 : decode prog_4_method_7_code 24 = .ok (.iload 4, 2) := by decide +kernel
theorem d_Layout_layBelow_26 : decode prog_4_method_7_code 26 = .ok (.invokestatic 82, 3) := by decide +kernel
theorem d_Layout_layBelow_29 : decode prog_4_method_7_code 29 = .ok (.iadd, 1) := by decide +kernel
theorem d_Layout_layBelow_30 : decode prog_4_method_7_code 30 = .ok (.istore 5, 2) := by decide +kernel
theorem d_Layout_layBelow_32 : decode prog_4_method_7_code 32 = .ok (.aload_n 0, 1) := by decide +kernel
theorem d_Layout_layBelow_33 : decode prog_4_method_7_code 33 = .ok (.aload_n 1, 1) := by decide +kernel
theorem d_Layout_layBelow_34 : decode prog_4_method_7_code 34 = .ok (.aload_n 2, 1) := by decide +kernel
theorem d_Layout_layBelow_35 : decode prog_4_method_7_code 35 = .ok (.getfield 76, 3) := by decide +kernel
theorem d_Layout_layBelow_38 : decode prog_4_method_7_code 38 = .ok (.iload 5, 2) := by decide +kernel
theorem d_Layout_layBelow_40 : decode prog_4_method_7_code 40 = .ok (.aload_n 2, 1) := by decide +kernel
theorem d_Layout_layBelow_41 : decode prog_4_method_7_code 41 = .ok (.getfield 88, 3) := by decide +kernel
theorem d_Layout_layBelow_44 : decode prog_4_method_7_code 44 = .ok (.iload_n 3, 1) := by decide +kernel
theorem d_Layout_layBelow_45 : decode prog_4_method_7_code 45 = .ok (.iconst 1, 1) := by decide +kernel
theorem d_Layout_layBelow_46 : decode prog_4_method_7_code 46 = .ok (.iadd, 1) := by decide +kernel
theorem d_Layout_layBelow_47 : decode prog_4_method_7_code 47 = .ok (.invokevirtual 62, 3) := by decide +kernel
theorem d_Layout_layBelow_50 : decode prog_4_method_7_code 50 = .ok (.aload_n 2, 1) := by decide +kernel
theorem d_Layout_layBelow_51 : decode prog_4_method_7_code 51 = .ok (.iload 5, 2) := by decide +kernel
theorem d_Layout_layBelow_53 : decode prog_4_method_7_code 53 = .ok (.aload_n 1, 1) := by decide +kernel
theorem d_Layout_layBelow_54 : decode prog_4_method_7_code 54 = .ok (.getfield 34, 3) := by decide +kernel
theorem d_Layout_layBelow_57 : decode prog_4_method_7_code 57 = .ok (.getfield 116, 3) := by decide +kernel
theorem d_Layout_layBelow_60 : decode prog_4_method_7_code 60 = .ok (.iadd, 1) := by decide +kernel
theorem d_Layout_layBelow_61 : decode prog_4_method_7_code 61 = .ok (.putfield 92, 3) := by decide +kernel
theorem d_Layout_layBelow_64 : decode prog_4_method_7_code 64 = .ok (.aload_n 2, 1) := by decide +kernel
theorem d_Layout_layBelow_65 : decode prog_4_method_7_code 65 = .ok (.iload 4, 2) := by decide +kernel
theorem d_Layout_layBelow_67 : decode prog_4_method_7_code 67 = .ok (.putfield 95, 3) := by decide +kernel
theorem d_Layout_layBelow_70 : decode prog_4_method_7_code 70 = .ok (.aload_n 0, 1) := by decide +kernel
theorem d_Layout_layBelow_71 : decode prog_4_method_7_code 71 = .ok (.getfield 12, 3) := by decide +kernel
theorem d_Layout_layBelow_74 : decode prog_4_method_7_code 74 = .ok (.aload_n 2, 1) := by decide +kernel
theorem d_Layout_layBelow_75 : decode prog_4_method_7_code 75 = .ok (.invokevirtual 105, 3) := by decide +kernel
theorem d_Layout_layBelow_78 : decode prog_4_method_7_code 78 = .ok (.return_, 1) := by decide +kernel
def f_Layout_layBelow (FB : Nat → Int32 → Int32 → Int32 → Int32 → qM → Option qM) (q1 : Nat) (q2 : Nat) (a3 : Int32) (M : qM) : Option qM := q_cv (f_Run_endIn q2 M) fun M1 => q_ix (4 : Int32) 7 <| q_lt (M1.1 (q1 + 3) (4 : Int32).toNatClampNeg) fun x3 => q_lt ((M1.1 q2 8) + (if (M1.1 q2 9) < x3 then x3 else M1.1 q2 9)) fun x4 => q_cv (FB q1 (M1.1 q2 5) x4 (M1.1 q2 7) (a3 + 1) M1) fun M5 => q_lt (qsI M5 q2 8 (x4 + (M5.1 (q1 + 4) 4))) fun M6 => q_lt (qsI M6 q2 9 x3) fun M7 => q_cv (f_Run_beginIn q2 M7) fun M8 => some M8
abbrev rm_Layout_layBelow (fB lB : Nat) : Room := { frames := fB + 4, cells := 0, slots := 0, locals := lB + 100 }
set_option maxRecDepth 100000 in
set_option maxHeartbeats 4000000 in
theorem c_Layout_layBelow {l : Launch} {D : va_G} {dA : Nat → ClassId} {b : Nat} {adK adV : Nat → Nat} (FB : Nat → Int32 → Int32 → Int32 → Int32 → qM → Option qM) (fB lB : Nat) (hFB : ∀ (q1 : Nat) (a2 : Int32) (a3 : Int32) (a4 : Int32) (a5 : Int32) (tq1 : tcX q1 = 7) (M : qM) (out : qM), FB q1 a2 a3 a4 a5 M = some out → CTv l y_Layout_layBox w_Layout_layBox { frames := fB, cells := 0, slots := 0, locals := lB } D (tysX dA) (enX dA b) 367 b (qX adK adV 367 b) [qr (some 364), qr (some q1), qi a2, qi a3, qi a4, qi a5] M out) (q1 : Nat) (q2 : Nat) (a3 : Int32) (tq1 : tcX q1 = 7) (tq2 : tcX q2 = 11) (M : qM) (out : qM) (hf : f_Layout_layBelow FB q1 q2 a3 M = some out) : CTv l y_Layout_layBelow w_Layout_layBelow (rm_Layout_layBelow fB lB) D (tysX dA) (enX dA b) 367 b (qX adK adV 367 b) [qr (some 364), qr (some q1), qr (some q2), qi a3] M out := by
  refine qm_v (cc := prog_4_method_7_code) (nL := 6) (by decide) rfl (Nat.le_of_ble_eq_true rfl) ?_
  intro p e s m args below meth c Q hx hb hts0 hown hml hK hs hret
  have hts : ∀ w ∈ lw_g, w.before args s = true := fun w h => hts0 w (List.mem_cons_of_mem _ h)
  show QJ p l e (rm_Layout_layBelow fB lB) s m args below meth c (qA 367 b) b 6 0 0 Q (qWd D (enX dA b) 367 b) M 0 [(0, qr (some 364)), (1, qr (some q1)), (2, qr (some q2)), (3, qi a3)] []
  unfold f_Layout_layBelow at hf
  refine qj_aload_n hx hb d_Layout_layBelow_0 rfl 0 rfl ?_
  refine qj_get hx hb hts hin_10 hown hK (q_in (rfl : tcX 364 = 24) (by decide)) (en_24 (rfl : tcX 364 = 24)) rfl 0 (by decide) (hts _ tw_781) (fun _ h => h) (qr (some 365)) rfl d_Layout_layBelow_1 ?_
  refine qj_aload_n hx hb d_Layout_layBelow_4 rfl 2 rfl ?_
  have hf9 := q_cv_s hf; clear hf; obtain ⟨M1, hM1, hf⟩ := hf9
  refine qc_Vv (st := []) hx hb hml hown hts hK (qX_ok _ _ _ _) hs (c_Run_endIn q2 tq2 M _ hM1) ⟨(callB_of 1 hts (q_good tw_782) rfl rfl rfl (hts _ tw_393) (hts _ tw_783) (by decide +kernel) (by constructor <;> dsimp only [rm_Run_endIn, rm_Layout_layBelow] <;> omega)), (hts _ tw_784), (hts _ tw_785)⟩ (q_in (rfl : tcX 365 = 25) (by decide)) (en_25 (rfl : tcX 365 = 25)) rfl rfl rfl (Nat.le_of_ble_eq_true rfl) d_Layout_layBelow_5 ?_
  refine qj_aload_n hx hb d_Layout_layBelow_8 rfl 1 rfl ?_
  refine qj_get hx hb hts hin_3 hown hK (q_in tq1 (by decide)) (en_7 tq1) rfl 12 (by decide) (hts _ tw_367) (fun _ h => h) (qr (some (q1 + 3))) rfl d_Layout_layBelow_9 ?_
  refine qj_iconst (v := 4) hx hb d_Layout_layBelow_12 (by decide) ?_
  have hf9 := q_ix_s hf; clear hf; obtain ⟨hi2, hf⟩ := hf9
  refine qj_iald (t0 := 0) hx hb hK (q_in (tc_7_3 tq1) (by decide)) (en_10 (tc_7_3 tq1)) rfl hi2 d_Layout_layBelow_13 ?_
  have hf9 := q_lt_s hf; clear hf; obtain ⟨x3, ex3, hf⟩ := hf9
  rw [← ex3]
  refine qj_istore hx hb d_Layout_layBelow_14 (by decide) rfl ?_
  refine qj_aload_n hx hb d_Layout_layBelow_16 rfl 3 rfl ?_
  refine qj_get hx hb hts hin_0 hown hK (q_in tq2 (by decide)) (en_11 tq2) rfl 8 (by decide) (hts _ tw_786) (fun _ h => h) (qi (M1.1 q2 8)) rfl d_Layout_layBelow_17 ?_
  refine qj_aload_n hx hb d_Layout_layBelow_20 rfl 3 rfl ?_
  refine qj_get hx hb hts hin_0 hown hK (q_in tq2 (by decide)) (en_11 tq2) rfl 9 (by decide) (hts _ tw_787) (fun _ h => h) (qi (M1.1 q2 9)) rfl d_Layout_layBelow_21 ?_
  refine qj_iload hx hb d_Layout_layBelow_24 0 rfl ?_
  refine qj_max hx hb hml hown (hts _ tw_788) (hts _ tw_390) (hts _ tw_391) (hts _ tw_392) (by first | omega | (dsimp only [rm_Layout_layBelow]; omega) | (simp; omega)) (by simp only [List.length_cons, List.length_nil]; first | omega | (dsimp only [rm_Layout_layBelow]; omega) | (simp; omega)) (Nat.zero_le _) (Nat.zero_le _) d_Layout_layBelow_26 ?_
  refine qj_iadd hx hb d_Layout_layBelow_29 ?_
  have hf9 := q_lt_s hf; clear hf; obtain ⟨x4, ex4, hf⟩ := hf9
  rw [← ex4]
  refine qj_istore hx hb d_Layout_layBelow_30 (by decide) rfl ?_
  refine qj_aload_n hx hb d_Layout_layBelow_32 rfl 2 rfl ?_
  refine qj_aload_n hx hb d_Layout_layBelow_33 rfl 3 rfl ?_
  refine qj_aload_n hx hb d_Layout_layBelow_34 rfl 4 rfl ?_
  refine qj_get hx hb hts hin_0 hown hK (q_in tq2 (by decide)) (en_11 tq2) rfl 5 (by decide) (hts _ tw_789) (fun _ h => h) (qi (M1.1 q2 5)) rfl d_Layout_layBelow_35 ?_
  refine qj_iload hx hb d_Layout_layBelow_38 0 rfl ?_
  refine qj_aload_n hx hb d_Layout_layBelow_40 rfl 4 rfl ?_
  refine qj_get hx hb hts hin_0 hown hK (q_in tq2 (by decide)) (en_11 tq2) rfl 7 (by decide) (hts _ tw_790) (fun _ h => h) (qi (M1.1 q2 7)) rfl d_Layout_layBelow_41 ?_
  refine qj_iload_n hx hb d_Layout_layBelow_44 rfl 5 rfl ?_
  refine qj_iconst (v := 1) hx hb d_Layout_layBelow_45 (by decide) ?_
  refine qj_iadd hx hb d_Layout_layBelow_46 ?_
  have hf9 := q_cv_s hf; clear hf; obtain ⟨M5, hM5, hf⟩ := hf9
  refine qc_Vv (st := []) hx hb hml hown hts hK (qX_ok _ _ _ _) hs (hFB q1 (M1.1 q2 5) x4 (M1.1 q2 7) (a3 + 1) tq1 M1 _ hM5) ⟨(callB_of 5 hts (q_good tw_791) rfl rfl rfl (hts _ tw_430) (hts _ tw_792) (by decide +kernel) (by constructor <;> dsimp only [rm_Layout_layBelow] <;> omega)), (hts _ tw_793), (hts _ tw_794)⟩ (q_in (rfl : tcX 364 = 24) (by decide)) (en_24 (rfl : tcX 364 = 24)) rfl rfl rfl (Nat.le_of_ble_eq_true rfl) d_Layout_layBelow_47 ?_
  refine qj_aload_n hx hb d_Layout_layBelow_50 rfl 4 rfl ?_
  refine qj_iload hx hb d_Layout_layBelow_51 0 rfl ?_
  refine qj_aload_n hx hb d_Layout_layBelow_53 rfl 3 rfl ?_
  refine qj_get hx hb hts hin_3 hown hK (q_in tq1 (by decide)) (en_7 tq1) rfl 13 (by decide) (hts _ tw_428) (fun _ h => h) (qr (some (q1 + 4))) rfl d_Layout_layBelow_54 ?_
  refine qj_get hx hb hts hin_0 hown hK (q_in (tc_7_4 tq1) (by decide)) (en_11 (tc_7_4 tq1)) rfl 4 (by decide) (hts _ tw_421) (fun _ h => h) (qi (M5.1 (q1 + 4) 4)) rfl d_Layout_layBelow_57 ?_
  refine qj_iadd hx hb d_Layout_layBelow_60 ?_
  have hf9 := q_lt_s hf; clear hf; obtain ⟨M6, eM6, hf⟩ := hf9
  refine qj_puti (ty := .int) hx hb hts hin_0 ty_0 tyok_0 nm_0 hown hK (q_in tq2 (by decide)) (en_11 tq2) rfl 8 (by decide) (hts _ tw_786) (fun _ h => h) rfl (by decide +kernel) rfl rfl (Nat.le_of_ble_eq_true rfl) (sp_11_8 tq2) eM6 d_Layout_layBelow_61 ?_
  refine qj_aload_n hx hb d_Layout_layBelow_64 rfl 4 rfl ?_
  refine qj_iload hx hb d_Layout_layBelow_65 1 rfl ?_
  have hf9 := q_lt_s hf; clear hf; obtain ⟨M7, eM7, hf⟩ := hf9
  refine qj_puti (ty := .int) hx hb hts hin_0 ty_0 tyok_0 nm_0 hown hK (q_in tq2 (by decide)) (en_11 tq2) rfl 9 (by decide) (hts _ tw_787) (fun _ h => h) rfl (by decide +kernel) rfl rfl (Nat.le_of_ble_eq_true rfl) (sp_11_9 tq2) eM7 d_Layout_layBelow_67 ?_
  refine qj_aload_n hx hb d_Layout_layBelow_70 rfl 2 rfl ?_
  refine qj_get hx hb hts hin_10 hown hK (q_in (rfl : tcX 364 = 24) (by decide)) (en_24 (rfl : tcX 364 = 24)) rfl 0 (by decide) (hts _ tw_781) (fun _ h => h) (qr (some 365)) rfl d_Layout_layBelow_71 ?_
  refine qj_aload_n hx hb d_Layout_layBelow_74 rfl 4 rfl ?_
  have hf9 := q_cv_s hf; clear hf; obtain ⟨M8, hM8, hf⟩ := hf9
  refine qc_Vv (st := []) hx hb hml hown hts hK (qX_ok _ _ _ _) hs (c_Run_beginIn q2 tq2 M7 _ hM8) ⟨(callB_of 1 hts (q_good tw_795) rfl rfl rfl (hts _ tw_393) (hts _ tw_796) (by decide +kernel) (by constructor <;> dsimp only [rm_Run_beginIn, rm_Layout_layBelow] <;> omega)), (hts _ tw_797), (hts _ tw_798)⟩ (q_in (rfl : tcX 365 = 25) (by decide)) (en_25 (rfl : tcX 365 = 25)) rfl rfl rfl (Nat.le_of_ble_eq_true rfl) d_Layout_layBelow_75 ?_
  exact hret _ _ _ d_Layout_layBelow_78 (Option.some.inj hf)
theorem d_Layout_layItems_0 : decode prog_4_method_6_code 0 = .ok (.iload_n 3, 1) := by decide +kernel
theorem d_Layout_layItems_1 : decode prog_4_method_6_code 1 = .ok (.bipush 24, 2) := by decide +kernel
theorem d_Layout_layItems_3 : decode prog_4_method_6_code 3 = .ok (.if_icmp .le 4, 3) := by decide +kernel
theorem d_Layout_layItems_6 : decode prog_4_method_6_code 6 = .ok (.return_, 1) := by decide +kernel
theorem d_Layout_layItems_7 : decode prog_4_method_6_code 7 = .ok (.aload_n 1, 1) := by decide +kernel
theorem d_Layout_layItems_8 : decode prog_4_method_6_code 8 = .ok (.getfield 119, 3) := by decide +kernel
theorem d_Layout_layItems_11 : decode prog_4_method_6_code 11 = .ok (.astore 4, 2) := by decide +kernel
theorem d_Layout_layItems_13 : decode prog_4_method_6_code 13 = .ok (.aload 4, 2) := by decide +kernel
theorem d_Layout_layItems_15 : decode prog_4_method_6_code 15 = .ok (.ifnull 124, 3) := by decide +kernel
theorem d_Layout_layItems_18 : decode prog_4_method_6_code 18 = .ok (.aload 4, 2) := by decide +kernel
theorem d_Layout_layItems_20 : decode prog_4_method_6_code 20 = .ok (.getfield 98, 3) := by decide +kernel
theorem d_Layout_layItems_23 : decode prog_4_method_6_code 23 = .ok (.iconst 1, 1) := by decide +kernel
theorem d_Layout_layItems_24 : decode prog_4_method_6_code 24 = .ok (.if_icmp .ne 21, 3) := by decide +kernel
theorem d_Layout_layItems_27 : decode prog_4_method_6_code 27 = .ok (.aload_n 0, 1) := by decide +kernel
theorem d_Layout_layItems_28 : decode prog_4_method_6_code 28 = .ok (.getfield 12, 3) := by decide +kernel
theorem d_Layout_layItems_31 : decode prog_4_method_6_code 31 = .ok (.aload 4, 2) := by decide +kernel
theorem d_Layout_layItems_33 : decode prog_4_method_6_code 33 = .ok (.aload_n 1, 1) := by decide +kernel
theorem d_Layout_layItems_34 : decode prog_4_method_6_code 34 = .ok (.getfield 66, 3) := by decide +kernel
theorem d_Layout_layItems_37 : decode prog_4_method_6_code 37 = .ok (.iconst 2, 1) := by decide +kernel
theorem d_Layout_layItems_38 : decode prog_4_method_6_code 38 = .ok (.iaload, 1) := by decide +kernel
theorem d_Layout_layItems_39 : decode prog_4_method_6_code 39 = .ok (.invokevirtual 133, 3) := by decide +kernel
theorem d_Layout_layItems_42 : decode prog_4_method_6_code 42 = .ok (.goto 87, 3) := by decide +kernel
theorem d_Layout_layItems_45 : decode prog_4_method_6_code 45 = .ok (.aload 4, 2) := by decide +kernel
theorem d_Layout_layItems_47 : decode prog_4_method_6_code 47 = .ok (.getfield 66, 3) := by decide +kernel
theorem d_Layout_layItems_50 : decode prog_4_method_6_code 50 = .ok (.iconst 3, 1) := by decide +kernel
theorem d_Layout_layItems_51 : decode prog_4_method_6_code 51 = .ok (.iaload, 1) := by decide +kernel
theorem d_Layout_layItems_52 : decode prog_4_method_6_code 52 = .ok (.bipush 98, 2) := by decide +kernel
theorem d_Layout_layItems_54 : decode prog_4_method_6_code 54 = .ok (.if_icmp .ne 14, 3) := by decide +kernel
theorem d_Layout_layItems_57 : decode prog_4_method_6_code 57 = .ok (.aload_n 0, 1) := by decide +kernel
theorem d_Layout_layItems_58 : decode prog_4_method_6_code 58 = .ok (.aload 4, 2) := by decide +kernel
theorem d_Layout_layItems_60 : decode prog_4_method_6_code 60 = .ok (.aload_n 2, 1) := by decide +kernel
theorem d_Layout_layItems_61 : decode prog_4_method_6_code 61 = .ok (.iload_n 3, 1) := by decide +kernel
theorem d_Layout_layItems_62 : decode prog_4_method_6_code 62 = .ok (.invokevirtual 137, 3) := by decide +kernel
theorem d_Layout_layItems_65 : decode prog_4_method_6_code 65 = .ok (.goto 64, 3) := by decide +kernel
theorem d_Layout_layItems_68 : decode prog_4_method_6_code 68 = .ok (.aload 4, 2) := by decide +kernel
theorem d_Layout_layItems_70 : decode prog_4_method_6_code 70 = .ok (.getfield 66, 3) := by decide +kernel
theorem d_Layout_layItems_73 : decode prog_4_method_6_code 73 = .ok (.iconst 3, 1) := by decide +kernel
theorem d_Layout_layItems_74 : decode prog_4_method_6_code 74 = .ok (.iaload, 1) := by decide +kernel
theorem d_Layout_layItems_75 : decode prog_4_method_6_code 75 = .ok (.bipush 105, 2) := by decide +kernel
theorem d_Layout_layItems_77 : decode prog_4_method_6_code 77 = .ok (.if_icmp .ne 30, 3) := by decide +kernel
theorem d_Layout_layItems_80 : decode prog_4_method_6_code 80 = .ok (.aload 4, 2) := by decide +kernel
theorem d_Layout_layItems_82 : decode prog_4_method_6_code 82 = .ok (.getfield 98, 3) := by decide +kernel
theorem d_Layout_layItems_85 : decode prog_4_method_6_code 85 = .ok (.bipush 107, 2) := by decide +kernel
theorem d_Layout_layItems_87 : decode prog_4_method_6_code 87 = .ok (.if_icmp .ne 20, 3) := by decide +kernel
theorem d_Layout_layItems_90 : decode prog_4_method_6_code 90 = .ok (.aload_n 0, 1) := by decide +kernel
theorem d_Layout_layItems_91 : decode prog_4_method_6_code 91 = .ok (.getfield 12, 3) := by decide +kernel
theorem d_Layout_layItems_94 : decode prog_4_method_6_code 94 = .ok (.aload 4, 2) := by decide +kernel
theorem d_Layout_layItems_96 : decode prog_4_method_6_code 96 = .ok (.getfield 66, 3) := by decide +kernel
theorem d_Layout_layItems_99 : decode prog_4_method_6_code 99 = .ok (.iconst 2, 1) := by decide +kernel
theorem d_Layout_layItems_100 : decode prog_4_method_6_code 100 = .ok (.iaload, 1) := by decide +kernel
theorem d_Layout_layItems_101 : decode prog_4_method_6_code 101 = .ok (.invokevirtual 140, 3) := by decide +kernel
theorem d_Layout_layItems_104 : decode prog_4_method_6_code 104 = .ok (.goto 25, 3) := by decide +kernel
theorem d_Layout_layItems_107 : decode prog_4_method_6_code 107 = .ok (.aload 4, 2) := by decide +kernel
theorem d_Layout_layItems_109 : decode prog_4_method_6_code 109 = .ok (.getfield 66, 3) := by decide +kernel
theorem d_Layout_layItems_112 : decode prog_4_method_6_code 112 = .ok (.iconst 3, 1) := by decide +kernel
theorem d_Layout_layItems_113 : decode prog_4_method_6_code 113 = .ok (.iaload, 1) := by decide +kernel
theorem d_Layout_layItems_114 : decode prog_4_method_6_code 114 = .ok (.bipush 105, 2) := by decide +kernel
theorem d_Layout_layItems_116 : decode prog_4_method_6_code 116 = .ok (.if_icmp .ne 13, 3) := by decide +kernel
theorem d_Layout_layItems_119 : decode prog_4_method_6_code 119 = .ok (.aload_n 0, 1) := by decide +kernel
theorem d_Layout_layItems_120 : decode prog_4_method_6_code 120 = .ok (.aload 4, 2) := by decide +kernel
theorem d_Layout_layItems_122 : decode prog_4_method_6_code 122 = .ok (.aload_n 2, 1) := by decide +kernel
theorem d_Layout_layItems_123 : decode prog_4_method_6_code 123 = .ok (.iload_n 3, 1) := by decide +kernel
theorem d_Layout_layItems_124 : decode prog_4_method_6_code 124 = .ok (.iconst 1, 1) := by decide +kernel
theorem d_Layout_layItems_125 : decode prog_4_method_6_code 125 = .ok (.iadd, 1) := by decide +kernel
theorem d_Layout_layItems_126 : decode prog_4_method_6_code 126 = .ok (.invokevirtual 109, 3) := by decide +kernel
theorem d_Layout_layItems_129 : decode prog_4_method_6_code 129 = .ok (.aload 4, 2) := by decide +kernel
theorem d_Layout_layItems_131 : decode prog_4_method_6_code 131 = .ok (.getfield 126, 3) := by decide +kernel
theorem d_Layout_layItems_134 : decode prog_4_method_6_code 134 = .ok (.astore 4, 2) := by decide +kernel
theorem d_Layout_layItems_136 : decode prog_4_method_6_code 136 = .ok (.goto (-123), 3) := by decide +kernel
theorem d_Layout_layItems_139 : decode prog_4_method_6_code 139 = .ok (.return_, 1) := by decide +kernel
def f_Layout_layItems_13 (q1 : Nat) (FB : Nat → Int32 → Int32 → Int32 → Int32 → qM → Option qM) (q2 : Nat) (a3 : Int32) (FR : Nat → Nat → Int32 → qM → Option qM) : Nat → (qM → Option qM) → Option Nat → qM → Option qM
  | 0, _, _, _ => none
  | n + 1, K5, r3, M4 => q_on r3 (K5 M4) fun o6 => (if (M4.1 o6 0) = 1 then (q_ix (2 : Int32) 7 <| q_cv (f_Run_addText o6 (M4.1 (q1 + 3) (2 : Int32).toNatClampNeg) M4) fun M25 => q_lt (M25.2 o6 8) fun r26 => f_Layout_layItems_13 q1 FB q2 a3 FR n K5 r26 M25) else (q_ix (3 : Int32) 7 <| if (M4.1 (o6 + 3) (3 : Int32).toNatClampNeg) = 98 then (q_cv (f_Layout_layBelow FB o6 q2 a3 M4) fun M22 => q_lt (M22.2 o6 8) fun r23 => f_Layout_layItems_13 q1 FB q2 a3 FR n K5 r23 M22) else (q_ix (3 : Int32) 7 <| q_lt (q_ix (3 : Int32) 7 <| if (M4.1 (o6 + 3) (3 : Int32).toNatClampNeg) = 105 then (q_cv (FR o6 q2 (a3 + 1) M4) fun M14 => q_lt (M14.2 o6 8) fun r15 => f_Layout_layItems_13 q1 FB q2 a3 FR n K5 r15 M14) else (q_lt (M4.2 o6 8) fun r13 => f_Layout_layItems_13 q1 FB q2 a3 FR n K5 r13 M4)) fun (j16 : Option qM) => if (M4.1 (o6 + 3) (3 : Int32).toNatClampNeg) = 105 then (if (M4.1 o6 0) = 107 then (q_ix (2 : Int32) 7 <| q_cv (f_Run_addBreak (M4.1 (o6 + 3) (2 : Int32).toNatClampNeg) M4) fun M20 => q_lt (M20.2 o6 8) fun r21 => f_Layout_layItems_13 q1 FB q2 a3 FR n K5 r21 M20) else (j16)) else (j16))))
def f_Layout_layItems (FB : Nat → Int32 → Int32 → Int32 → Int32 → qM → Option qM) : Nat → Nat → Nat → Int32 → qM → Option qM
  | 0, _, _, _, _ => none
  | d + 1, q1, q2, a3, M => q_lt (f_Layout_layItems FB d) fun (FR : Nat → Nat → Int32 → qM → Option qM) => if a3 ≤ 24 then (q_lt (M.2 q1 5) fun r2 => f_Layout_layItems_13 q1 FB q2 a3 FR 1000 (fun (M28 : qM) => some M28) r2 M) else (some M)
abbrev rm_Layout_layItems (fB lB d : Nat) : Room := { frames := fB + 6 + d, cells := 0, slots := 0, locals := lB + 200 + 24 * d }
set_option maxRecDepth 100000 in
set_option maxHeartbeats 4000000 in
theorem c_Layout_layItems {l : Launch} {D : va_G} {dA : Nat → ClassId} {b : Nat} {adK adV : Nat → Nat} (FB : Nat → Int32 → Int32 → Int32 → Int32 → qM → Option qM) (fB lB : Nat) (hFB : ∀ (q1 : Nat) (a2 : Int32) (a3 : Int32) (a4 : Int32) (a5 : Int32) (tq1 : tcX q1 = 7) (M : qM) (out : qM), FB q1 a2 a3 a4 a5 M = some out → CTv l y_Layout_layBox w_Layout_layBox { frames := fB, cells := 0, slots := 0, locals := lB } D (tysX dA) (enX dA b) 367 b (qX adK adV 367 b) [qr (some 364), qr (some q1), qi a2, qi a3, qi a4, qi a5] M out) (d : Nat) : ∀ (q1 : Nat) (q2 : Nat) (a3 : Int32) (tq1 : tcX q1 = 7) (tq2 : tcX q2 = 11) (M : qM) (out : qM), f_Layout_layItems FB d q1 q2 a3 M = some out → CTv l y_Layout_layItems w_Layout_layItems (rm_Layout_layItems fB lB d) D (tysX dA) (enX dA b) 367 b (qX adK adV 367 b) [qr (some 364), qr (some q1), qr (some q2), qi a3] M out := by
  induction d with
  | zero =>
    intro q1 q2 a3 tq1 tq2 M out hf
    exact absurd hf (by simp [f_Layout_layItems])
  | succ d ihd =>
    intro q1 q2 a3 tq1 tq2 M out hf
    rw [f_Layout_layItems] at hf
    have hf9 := q_lt_s hf; clear hf; obtain ⟨FR, eFR, hf⟩ := hf9
    have hFR : ∀ (q1 : Nat) (q2 : Nat) (a3 : Int32) (tq1 : tcX q1 = 7) (tq2 : tcX q2 = 11) (M : qM) (out : qM), FR q1 q2 a3 M = some out → CTv l y_Layout_layItems w_Layout_layItems (rm_Layout_layItems fB lB d) D (tysX dA) (enX dA b) 367 b (qX adK adV 367 b) [qr (some 364), qr (some q1), qr (some q2), qi a3] M out := by rw [eFR]; exact ihd
    refine qm_v (cc := prog_4_method_6_code) (nL := 5) (by decide) rfl (Nat.le_of_ble_eq_true rfl) ?_
    intro p e s m args below meth c Q hx hb hts0 hown hml hK hs hret
    have hts : ∀ w ∈ lw_g, w.before args s = true := fun w h => hts0 w (List.mem_cons_of_mem _ h)
    show QJ p l e (rm_Layout_layItems fB lB (d + 1)) s m args below meth c (qA 367 b) b 5 0 0 Q (qWd D (enX dA b) 367 b) M 0 [(0, qr (some 364)), (1, qr (some q1)), (2, qr (some q2)), (3, qi a3)] []
    refine qj_iload_n hx hb d_Layout_layItems_0 rfl 3 rfl ?_
    refine qj_bipush (v := 24) hx hb d_Layout_layItems_1 (by decide) ?_
    refine qj_icmp_le (tgt := 7) hx hb d_Layout_layItems_3 (by decide) (fun hc1 => ?_) (fun hc1 => ?_)
    · replace hf := q_if_t hc1 hf
      refine qj_aload_n hx hb d_Layout_layItems_7 rfl 1 rfl ?_
      have hf9 := q_lt_s hf; clear hf; obtain ⟨r2, er2, hf⟩ := hf9
      refine qj_w fun w => ?_
      have tr2 : ∀ o, r2 = some o → tcX o = 7 := fun o h => (w _ _ o (er2.symm.trans h)).trans (by rw [tq1] <;> rfl)
      refine qj_get hx hb hts hin_3 hown hK (q_in tq1 (by decide)) (en_7 tq1) rfl 5 (by decide) (hts _ tw_799) (fun _ h => h) (qr r2) (by rw [er2]; rfl) d_Layout_layItems_8 ?_
      refine qj_astore hx hb d_Layout_layItems_11 (by decide) rfl ?_
      have hL13 : ∀ (n : Nat) (K5 : qM → Option qM), (∀ (M28 : qM), K5 M28 = some out → QJ p l e (rm_Layout_layItems fB lB (d + 1)) s m args below meth c (qA 367 b) b 5 0 0 Q (qWd D (enX dA b) 367 b) M28 139 [] []) → ∀ (r3 : Option Nat) (M4 : qM), (∀ o, r3 = some o → tcX o = 7) → f_Layout_layItems_13 q1 FB q2 a3 FR n K5 r3 M4 = some out → QJ p l e (rm_Layout_layItems fB lB (d + 1)) s m args below meth c (qA 367 b) b 5 0 0 Q (qWd D (enX dA b) 367 b) M4 13 [(0, qr (some 364)), (1, qr (some q1)), (2, qr (some q2)), (3, qi a3), (4, qr r3)] [] := by
        clear hf
        intro n
        induction n with
        | zero =>
          intro K5 hK5 r3 M4 tr3 hf
          exact absurd hf (by simp [f_Layout_layItems_13])
        | succ n ih13 =>
          intro K5 hK5 r3 M4 tr3 hf
          rw [f_Layout_layItems_13] at hf
          have ih13 := ih13 K5 hK5
          refine qj_aload hx hb d_Layout_layItems_13 4 rfl ?_
          refine qj_ifnull (tgt := 139) hx hb d_Layout_layItems_15 (by decide) (fun hn27 => ?_) (fun o6 hn27 => ?_)
          · subst hn27
            replace hf := q_on_n hf
            refine qj_sub [] rfl ?_
            exact hK5 M4 hf
          · subst hn27
            replace hf := q_on_s hf
            refine qj_aload hx hb d_Layout_layItems_18 4 rfl ?_
            refine qj_get hx hb hts hin_3 hown hK (q_in (tr3 _ rfl) (by decide)) (en_7 (tr3 _ rfl)) rfl 0 (by decide) (hts _ tw_800) (fun _ h => h) (qi (M4.1 o6 0)) rfl d_Layout_layItems_20 ?_
            refine qj_iconst (v := 1) hx hb d_Layout_layItems_23 (by decide) ?_
            refine qj_icmp_ne (tgt := 45) hx hb d_Layout_layItems_24 (by decide) (fun hc7 => ?_) (fun hc7 => ?_)
            · replace hf := q_if_f hc7 hf
              refine qj_aload hx hb d_Layout_layItems_45 4 rfl ?_
              refine qj_get hx hb hts hin_3 hown hK (q_in (tr3 _ rfl) (by decide)) (en_7 (tr3 _ rfl)) rfl 12 (by decide) (hts _ tw_367) (fun _ h => h) (qr (some (o6 + 3))) rfl d_Layout_layItems_47 ?_
              refine qj_iconst (v := 3) hx hb d_Layout_layItems_50 (by decide) ?_
              have hf9 := q_ix_s hf; clear hf; obtain ⟨hi8, hf⟩ := hf9
              refine qj_iald (t0 := 0) hx hb hK (q_in (tc_7_3 (tr3 _ rfl)) (by decide)) (en_10 (tc_7_3 (tr3 _ rfl))) rfl hi8 d_Layout_layItems_51 ?_
              refine qj_bipush (v := 98) hx hb d_Layout_layItems_52 (by decide) ?_
              refine qj_icmp_ne (tgt := 68) hx hb d_Layout_layItems_54 (by decide) (fun hc9 => ?_) (fun hc9 => ?_)
              · replace hf := q_if_f hc9 hf
                refine qj_aload hx hb d_Layout_layItems_68 4 rfl ?_
                refine qj_get hx hb hts hin_3 hown hK (q_in (tr3 _ rfl) (by decide)) (en_7 (tr3 _ rfl)) rfl 12 (by decide) (hts _ tw_367) (fun _ h => h) (qr (some (o6 + 3))) rfl d_Layout_layItems_70 ?_
                refine qj_iconst (v := 3) hx hb d_Layout_layItems_73 (by decide) ?_
                have hf9 := q_ix_s hf; clear hf; obtain ⟨hi10, hf⟩ := hf9
                refine qj_iald (t0 := 0) hx hb hK (q_in (tc_7_3 (tr3 _ rfl)) (by decide)) (en_10 (tc_7_3 (tr3 _ rfl))) rfl hi10 d_Layout_layItems_74 ?_
                refine qj_bipush (v := 105) hx hb d_Layout_layItems_75 (by decide) ?_
                have hf9 := q_lt_s hf; clear hf; obtain ⟨j16, ej16, hf⟩ := hf9
                have hj16 : j16 = some out → QJ p l e (rm_Layout_layItems fB lB (d + 1)) s m args below meth c (qA 367 b) b 5 0 0 Q (qWd D (enX dA b) 367 b) M4 107 [(0, qr (some 364)), (1, qr (some q1)), (2, qr (some q2)), (3, qi a3), (4, qr (some o6))] [] := by
                  clear hf
                  intro hf
                  rw [ej16] at hf
                  refine qj_aload hx hb d_Layout_layItems_107 4 rfl ?_
                  refine qj_get hx hb hts hin_3 hown hK (q_in (tr3 _ rfl) (by decide)) (en_7 (tr3 _ rfl)) rfl 12 (by decide) (hts _ tw_367) (fun _ h => h) (qr (some (o6 + 3))) rfl d_Layout_layItems_109 ?_
                  refine qj_iconst (v := 3) hx hb d_Layout_layItems_112 (by decide) ?_
                  have hf9 := q_ix_s hf; clear hf; obtain ⟨hi11, hf⟩ := hf9
                  refine qj_iald (t0 := 0) hx hb hK (q_in (tc_7_3 (tr3 _ rfl)) (by decide)) (en_10 (tc_7_3 (tr3 _ rfl))) rfl hi11 d_Layout_layItems_113 ?_
                  refine qj_bipush (v := 105) hx hb d_Layout_layItems_114 (by decide) ?_
                  refine qj_icmp_ne (tgt := 129) hx hb d_Layout_layItems_116 (by decide) (fun hc12 => ?_) (fun hc12 => ?_)
                  · replace hf := q_if_f hc12 hf
                    refine qj_aload hx hb d_Layout_layItems_129 4 rfl ?_
                    have hf9 := q_lt_s hf; clear hf; obtain ⟨r13, er13, hf⟩ := hf9
                    refine qj_w fun w => ?_
                    have tr13 : ∀ o, r13 = some o → tcX o = 7 := fun o h => (w _ _ o (er13.symm.trans h)).trans (by rw [(tr3 _ rfl)] <;> rfl)
                    refine qj_get hx hb hts hin_3 hown hK (q_in (tr3 _ rfl) (by decide)) (en_7 (tr3 _ rfl)) rfl 8 (by decide) (hts _ tw_801) (fun _ h => h) (qr r13) (by rw [er13]; rfl) d_Layout_layItems_131 ?_
                    refine qj_astore hx hb d_Layout_layItems_134 (by decide) rfl ?_
                    refine qj_goto (tgt := 13) hx hb d_Layout_layItems_136 (by decide) ?_
                    refine qj_sub [1, 2, 3, 4, 0] rfl ?_
                    exact ih13 r13 M4 tr13 hf
                  · replace hf := q_if_t hc12 hf
                    refine qj_aload_n hx hb d_Layout_layItems_119 rfl 0 rfl ?_
                    refine qj_aload hx hb d_Layout_layItems_120 4 rfl ?_
                    refine qj_aload_n hx hb d_Layout_layItems_122 rfl 2 rfl ?_
                    refine qj_iload_n hx hb d_Layout_layItems_123 rfl 3 rfl ?_
                    refine qj_iconst (v := 1) hx hb d_Layout_layItems_124 (by decide) ?_
                    refine qj_iadd hx hb d_Layout_layItems_125 ?_
                    have hf9 := q_cv_s hf; clear hf; obtain ⟨M14, hM14, hf⟩ := hf9
                    refine qc_Vv (st := []) hx hb hml hown hts hK (qX_ok _ _ _ _) hs (hFR o6 q2 (a3 + 1) (tr3 _ rfl) tq2 M4 _ hM14) ⟨(callB_of 3 hts (q_good tw_802) rfl rfl rfl (hts _ tw_430) (hts _ tw_803) (by decide +kernel) (by constructor <;> dsimp only [rm_Layout_layItems] <;> omega)), (hts _ tw_804), (hts _ tw_805)⟩ (q_in (rfl : tcX 364 = 24) (by decide)) (en_24 (rfl : tcX 364 = 24)) rfl rfl rfl (Nat.le_of_ble_eq_true rfl) d_Layout_layItems_126 ?_
                    refine qj_aload hx hb d_Layout_layItems_129 4 rfl ?_
                    have hf9 := q_lt_s hf; clear hf; obtain ⟨r15, er15, hf⟩ := hf9
                    refine qj_w fun w => ?_
                    have tr15 : ∀ o, r15 = some o → tcX o = 7 := fun o h => (w _ _ o (er15.symm.trans h)).trans (by rw [(tr3 _ rfl)] <;> rfl)
                    refine qj_get hx hb hts hin_3 hown hK (q_in (tr3 _ rfl) (by decide)) (en_7 (tr3 _ rfl)) rfl 8 (by decide) (hts _ tw_801) (fun _ h => h) (qr r15) (by rw [er15]; rfl) d_Layout_layItems_131 ?_
                    refine qj_astore hx hb d_Layout_layItems_134 (by decide) rfl ?_
                    refine qj_goto (tgt := 13) hx hb d_Layout_layItems_136 (by decide) ?_
                    refine qj_sub [1, 2, 3, 4, 0] rfl ?_
                    exact ih13 r15 M14 tr15 hf
                refine qj_icmp_ne (tgt := 107) hx hb d_Layout_layItems_77 (by decide) (fun hc17 => ?_) (fun hc17 => ?_)
                · replace hf := q_if_f hc17 hf
                  exact hj16  hf
                · replace hf := q_if_t hc17 hf
                  refine qj_aload hx hb d_Layout_layItems_80 4 rfl ?_
                  refine qj_get hx hb hts hin_3 hown hK (q_in (tr3 _ rfl) (by decide)) (en_7 (tr3 _ rfl)) rfl 0 (by decide) (hts _ tw_800) (fun _ h => h) (qi (M4.1 o6 0)) rfl d_Layout_layItems_82 ?_
                  refine qj_bipush (v := 107) hx hb d_Layout_layItems_85 (by decide) ?_
                  refine qj_icmp_ne (tgt := 107) hx hb d_Layout_layItems_87 (by decide) (fun hc18 => ?_) (fun hc18 => ?_)
                  · replace hf := q_if_f hc18 hf
                    exact hj16  hf
                  · replace hf := q_if_t hc18 hf
                    refine qj_aload_n hx hb d_Layout_layItems_90 rfl 0 rfl ?_
                    refine qj_get hx hb hts hin_10 hown hK (q_in (rfl : tcX 364 = 24) (by decide)) (en_24 (rfl : tcX 364 = 24)) rfl 0 (by decide) (hts _ tw_781) (fun _ h => h) (qr (some 365)) rfl d_Layout_layItems_91 ?_
                    refine qj_aload hx hb d_Layout_layItems_94 4 rfl ?_
                    refine qj_get hx hb hts hin_3 hown hK (q_in (tr3 _ rfl) (by decide)) (en_7 (tr3 _ rfl)) rfl 12 (by decide) (hts _ tw_367) (fun _ h => h) (qr (some (o6 + 3))) rfl d_Layout_layItems_96 ?_
                    refine qj_iconst (v := 2) hx hb d_Layout_layItems_99 (by decide) ?_
                    have hf9 := q_ix_s hf; clear hf; obtain ⟨hi19, hf⟩ := hf9
                    refine qj_iald (t0 := 0) hx hb hK (q_in (tc_7_3 (tr3 _ rfl)) (by decide)) (en_10 (tc_7_3 (tr3 _ rfl))) rfl hi19 d_Layout_layItems_100 ?_
                    have hf9 := q_cv_s hf; clear hf; obtain ⟨M20, hM20, hf⟩ := hf9
                    refine qc_Vv (st := []) hx hb hml hown hts hK (qX_ok _ _ _ _) hs (c_Run_addBreak (M4.1 (o6 + 3) (2 : Int32).toNatClampNeg) M4 _ hM20) ⟨(callB_of 1 hts (q_good tw_806) rfl rfl rfl (hts _ tw_393) (hts _ tw_807) (by decide +kernel) (by constructor <;> dsimp only [rm_Run_addBreak, rm_Layout_layItems] <;> omega)), (hts _ tw_808), (hts _ tw_809)⟩ (q_in (rfl : tcX 365 = 25) (by decide)) (en_25 (rfl : tcX 365 = 25)) rfl rfl rfl (Nat.le_of_ble_eq_true rfl) d_Layout_layItems_101 ?_
                    refine qj_goto (tgt := 129) hx hb d_Layout_layItems_104 (by decide) ?_
                    refine qj_aload hx hb d_Layout_layItems_129 4 rfl ?_
                    have hf9 := q_lt_s hf; clear hf; obtain ⟨r21, er21, hf⟩ := hf9
                    refine qj_w fun w => ?_
                    have tr21 : ∀ o, r21 = some o → tcX o = 7 := fun o h => (w _ _ o (er21.symm.trans h)).trans (by rw [(tr3 _ rfl)] <;> rfl)
                    refine qj_get hx hb hts hin_3 hown hK (q_in (tr3 _ rfl) (by decide)) (en_7 (tr3 _ rfl)) rfl 8 (by decide) (hts _ tw_801) (fun _ h => h) (qr r21) (by rw [er21]; rfl) d_Layout_layItems_131 ?_
                    refine qj_astore hx hb d_Layout_layItems_134 (by decide) rfl ?_
                    refine qj_goto (tgt := 13) hx hb d_Layout_layItems_136 (by decide) ?_
                    refine qj_sub [1, 2, 3, 4, 0] rfl ?_
                    exact ih13 r21 M20 tr21 hf
              · replace hf := q_if_t hc9 hf
                refine qj_aload_n hx hb d_Layout_layItems_57 rfl 0 rfl ?_
                refine qj_aload hx hb d_Layout_layItems_58 4 rfl ?_
                refine qj_aload_n hx hb d_Layout_layItems_60 rfl 2 rfl ?_
                refine qj_iload_n hx hb d_Layout_layItems_61 rfl 3 rfl ?_
                have hf9 := q_cv_s hf; clear hf; obtain ⟨M22, hM22, hf⟩ := hf9
                refine qc_Vv (st := []) hx hb hml hown hts hK (qX_ok _ _ _ _) hs (c_Layout_layBelow FB fB lB hFB o6 q2 a3 (tr3 _ rfl) tq2 M4 _ hM22) ⟨(callB_of 3 hts (q_good tw_810) rfl rfl rfl (hts _ tw_430) (hts _ tw_811) (by decide +kernel) (by constructor <;> dsimp only [rm_Layout_layBelow, rm_Layout_layItems] <;> omega)), (hts _ tw_812), (hts _ tw_813)⟩ (q_in (rfl : tcX 364 = 24) (by decide)) (en_24 (rfl : tcX 364 = 24)) rfl rfl rfl (Nat.le_of_ble_eq_true rfl) d_Layout_layItems_62 ?_
                refine qj_goto (tgt := 129) hx hb d_Layout_layItems_65 (by decide) ?_
                refine qj_aload hx hb d_Layout_layItems_129 4 rfl ?_
                have hf9 := q_lt_s hf; clear hf; obtain ⟨r23, er23, hf⟩ := hf9
                refine qj_w fun w => ?_
                have tr23 : ∀ o, r23 = some o → tcX o = 7 := fun o h => (w _ _ o (er23.symm.trans h)).trans (by rw [(tr3 _ rfl)] <;> rfl)
                refine qj_get hx hb hts hin_3 hown hK (q_in (tr3 _ rfl) (by decide)) (en_7 (tr3 _ rfl)) rfl 8 (by decide) (hts _ tw_801) (fun _ h => h) (qr r23) (by rw [er23]; rfl) d_Layout_layItems_131 ?_
                refine qj_astore hx hb d_Layout_layItems_134 (by decide) rfl ?_
                refine qj_goto (tgt := 13) hx hb d_Layout_layItems_136 (by decide) ?_
                refine qj_sub [1, 2, 3, 4, 0] rfl ?_
                exact ih13 r23 M22 tr23 hf
            · replace hf := q_if_t hc7 hf
              refine qj_aload_n hx hb d_Layout_layItems_27 rfl 0 rfl ?_
              refine qj_get hx hb hts hin_10 hown hK (q_in (rfl : tcX 364 = 24) (by decide)) (en_24 (rfl : tcX 364 = 24)) rfl 0 (by decide) (hts _ tw_781) (fun _ h => h) (qr (some 365)) rfl d_Layout_layItems_28 ?_
              refine qj_aload hx hb d_Layout_layItems_31 4 rfl ?_
              refine qj_aload_n hx hb d_Layout_layItems_33 rfl 1 rfl ?_
              refine qj_get hx hb hts hin_3 hown hK (q_in tq1 (by decide)) (en_7 tq1) rfl 12 (by decide) (hts _ tw_367) (fun _ h => h) (qr (some (q1 + 3))) rfl d_Layout_layItems_34 ?_
              refine qj_iconst (v := 2) hx hb d_Layout_layItems_37 (by decide) ?_
              have hf9 := q_ix_s hf; clear hf; obtain ⟨hi24, hf⟩ := hf9
              refine qj_iald (t0 := 0) hx hb hK (q_in (tc_7_3 tq1) (by decide)) (en_10 (tc_7_3 tq1)) rfl hi24 d_Layout_layItems_38 ?_
              have hf9 := q_cv_s hf; clear hf; obtain ⟨M25, hM25, hf⟩ := hf9
              refine qc_Vv (st := []) hx hb hml hown hts hK (qX_ok _ _ _ _) hs (c_Run_addText o6 (M4.1 (q1 + 3) (2 : Int32).toNatClampNeg) (tr3 _ rfl) M4 _ hM25) ⟨(callB_of 2 hts (q_good tw_814) rfl rfl rfl (hts _ tw_393) (hts _ tw_815) (by decide +kernel) (by constructor <;> dsimp only [rm_Run_addText, rm_Layout_layItems] <;> omega)), (hts _ tw_816), (hts _ tw_817)⟩ (q_in (rfl : tcX 365 = 25) (by decide)) (en_25 (rfl : tcX 365 = 25)) rfl rfl rfl (Nat.le_of_ble_eq_true rfl) d_Layout_layItems_39 ?_
              refine qj_goto (tgt := 129) hx hb d_Layout_layItems_42 (by decide) ?_
              refine qj_aload hx hb d_Layout_layItems_129 4 rfl ?_
              have hf9 := q_lt_s hf; clear hf; obtain ⟨r26, er26, hf⟩ := hf9
              refine qj_w fun w => ?_
              have tr26 : ∀ o, r26 = some o → tcX o = 7 := fun o h => (w _ _ o (er26.symm.trans h)).trans (by rw [(tr3 _ rfl)] <;> rfl)
              refine qj_get hx hb hts hin_3 hown hK (q_in (tr3 _ rfl) (by decide)) (en_7 (tr3 _ rfl)) rfl 8 (by decide) (hts _ tw_801) (fun _ h => h) (qr r26) (by rw [er26]; rfl) d_Layout_layItems_131 ?_
              refine qj_astore hx hb d_Layout_layItems_134 (by decide) rfl ?_
              refine qj_goto (tgt := 13) hx hb d_Layout_layItems_136 (by decide) ?_
              refine qj_sub [1, 2, 3, 4, 0] rfl ?_
              exact ih13 r26 M25 tr26 hf
      refine qj_sub [1, 2, 3, 4, 0] rfl ?_
      refine hL13 _ _ (fun M28 hf9 => ?_) r2 M tr2 hf
      clear hf; have hf := hf9; clear hf9
      exact hret _ _ _ d_Layout_layItems_139 (Option.some.inj hf)
    · replace hf := q_if_f hc1 hf
      exact hret _ _ _ d_Layout_layItems_6 (Option.some.inj hf)
theorem d_Layout_layCells_0 : decode prog_4_method_4_code 0 = .ok (.aload_n 1, 1) := by decide +kernel
theorem d_Layout_layCells_1 : decode prog_4_method_4_code 1 = .ok (.getfield 34, 3) := by decide +kernel
theorem d_Layout_layCells_4 : decode prog_4_method_4_code 4 = .ok (.astore_n 3, 1) := by decide +kernel
theorem d_Layout_layCells_5 : decode prog_4_method_4_code 5 = .ok (.iconst 0, 1) := by decide +kernel
theorem d_Layout_layCells_6 : decode prog_4_method_4_code 6 = .ok (.istore 4, 2) := by decide +kernel
theorem d_Layout_layCells_8 : decode prog_4_method_4_code 8 = .ok (.aload_n 1, 1) := by decide +kernel
theorem d_Layout_layCells_9 : decode prog_4_method_4_code 9 = .ok (.getfield 119, 3) := by decide +kernel
theorem d_Layout_layCells_12 : decode prog_4_method_4_code 12 = .ok (.astore 5, 2) := by decide +kernel
theorem d_Layout_layCells_14 : decode prog_4_method_4_code 14 = .ok (.aload 5, 2) := by decide +kernel
theorem d_Layout_layCells_16 : decode prog_4_method_4_code 16 = .ok (.ifnull 24, 3) := by decide +kernel
theorem d_Layout_layCells_19 : decode prog_4_method_4_code 19 = .ok (.aload 5, 2) := by decide +kernel
theorem d_Layout_layCells_21 : decode prog_4_method_4_code 21 = .ok (.invokestatic 122, 3) := by decide +kernel
theorem d_Layout_layCells_24 : decode prog_4_method_4_code 24 = .ok (.ifCond .eq 6, 3) := by decide +kernel
theorem d_Layout_layCells_27 : decode prog_4_method_4_code 27 = .ok (.iinc 4 1, 3) := by decide +kernel
theorem d_Layout_layCells_30 : decode prog_4_method_4_code 30 = .ok (.aload 5, 2) := by decide +kernel
theorem d_Layout_layCells_32 : decode prog_4_method_4_code 32 = .ok (.getfield 126, 3) := by decide +kernel
theorem d_Layout_layCells_35 : decode prog_4_method_4_code 35 = .ok (.astore 5, 2) := by decide +kernel
theorem d_Layout_layCells_37 : decode prog_4_method_4_code 37 = .ok (.goto (-23), 3) := by decide +kernel
theorem d_Layout_layCells_40 : decode prog_4_method_4_code 40 = .ok (.iload 4, 2) := by decide +kernel
theorem d_Layout_layCells_42 : decode prog_4_method_4_code 42 = .ok (.ifCond .ne 7, 3) := by decide +kernel
theorem d_Layout_layCells_45 : decode prog_4_method_4_code 45 = .ok (.iconst 0, 1) := by decide +kernel
theorem d_Layout_layCells_46 : decode prog_4_method_4_code 46 = .ok (.goto 10, 3) := by decide +kernel
theorem d_Layout_layCells_49 : decode prog_4_method_4_code 49 = .ok (.aload_n 3, 1) := by decide +kernel
theorem d_Layout_layCells_50 : decode prog_4_method_4_code 50 = .ok (.getfield 88, 3) := by decide +kernel
theorem d_Layout_layCells_53 : decode prog_4_method_4_code 53 = .ok (.iload 4, 2) := by decide +kernel
theorem d_Layout_layCells_55 : decode prog_4_method_4_code 55 = .ok (.idiv, 1) := by decide +kernel
theorem d_Layout_layCells_56 : decode prog_4_method_4_code 56 = .ok (.istore 5, 2) := by decide +kernel
theorem d_Layout_layCells_58 : decode prog_4_method_4_code 58 = .ok (.aload_n 3, 1) := by decide +kernel
theorem d_Layout_layCells_59 : decode prog_4_method_4_code 59 = .ok (.getfield 76, 3) := by decide +kernel
theorem d_Layout_layCells_62 : decode prog_4_method_4_code 62 = .ok (.istore 6, 2) := by decide +kernel
theorem d_Layout_layCells_64 : decode prog_4_method_4_code 64 = .ok (.iconst 0, 1) := by decide +kernel
theorem d_Layout_layCells_65 : decode prog_4_method_4_code 65 = .ok (.istore 7, 2) := by decide +kernel
theorem d_Layout_layCells_67 : decode prog_4_method_4_code 67 = .ok (.aload_n 1, 1) := by decide +kernel
theorem d_Layout_layCells_68 : decode prog_4_method_4_code 68 = .ok (.getfield 119, 3) := by decide +kernel
theorem d_Layout_layCells_71 : decode prog_4_method_4_code 71 = .ok (.astore 8, 2) := by decide +kernel
theorem d_Layout_layCells_73 : decode prog_4_method_4_code 73 = .ok (.aload 8, 2) := by decide +kernel
theorem d_Layout_layCells_75 : decode prog_4_method_4_code 75 = .ok (.ifnull 77, 3) := by decide +kernel
theorem d_Layout_layCells_78 : decode prog_4_method_4_code 78 = .ok (.aload 8, 2) := by decide +kernel
theorem d_Layout_layCells_80 : decode prog_4_method_4_code 80 = .ok (.invokestatic 122, 3) := by decide +kernel
theorem d_Layout_layCells_83 : decode prog_4_method_4_code 83 = .ok (.ifCond .eq 59, 3) := by decide +kernel
theorem d_Layout_layCells_86 : decode prog_4_method_4_code 86 = .ok (.aload 8, 2) := by decide +kernel
theorem d_Layout_layCells_88 : decode prog_4_method_4_code 88 = .ok (.getfield 66, 3) := by decide +kernel
theorem d_Layout_layCells_91 : decode prog_4_method_4_code 91 = .ok (.iconst 4, 1) := by decide +kernel
theorem d_Layout_layCells_92 : decode prog_4_method_4_code 92 = .ok (.iaload, 1) := by decide +kernel
theorem d_Layout_layCells_93 : decode prog_4_method_4_code 93 = .ok (.istore 9, 2) := by decide +kernel
theorem d_Layout_layCells_95 : decode prog_4_method_4_code 95 = .ok (.aload_n 0, 1) := by decide +kernel
theorem d_Layout_layCells_96 : decode prog_4_method_4_code 96 = .ok (.aload 8, 2) := by decide +kernel
theorem d_Layout_layCells_98 : decode prog_4_method_4_code 98 = .ok (.iload 6, 2) := by decide +kernel
theorem d_Layout_layCells_100 : decode prog_4_method_4_code 100 = .ok (.aload_n 3, 1) := by decide +kernel
theorem d_Layout_layCells_101 : decode prog_4_method_4_code 101 = .ok (.getfield 79, 3) := by decide +kernel
theorem d_Layout_layCells_104 : decode prog_4_method_4_code 104 = .ok (.iload 9, 2) := by decide +kernel
theorem d_Layout_layCells_106 : decode prog_4_method_4_code 106 = .ok (.iadd, 1) := by decide +kernel
theorem d_Layout_layCells_107 : decode prog_4_method_4_code 107 = .ok (.iload 5, 2) := by decide +kernel
theorem d_Layout_layCells_109 : decode prog_4_method_4_code 109 = .ok (.iload_n 2, 1) := by decide +kernel
theorem d_Layout_layCells_110 : decode prog_4_method_4_code 110 = .ok (.iconst 1, 1) := by decide +kernel
theorem d_Layout_layCells_111 : decode prog_4_method_4_code 111 = .ok (.iadd, 1) := by decide +kernel
theorem d_Layout_layCells_112 : decode prog_4_method_4_code 112 = .ok (.invokevirtual 62, 3) := by decide +kernel
theorem d_Layout_layCells_115 : decode prog_4_method_4_code 115 = .ok (.iload 6, 2) := by decide +kernel
theorem d_Layout_layCells_117 : decode prog_4_method_4_code 117 = .ok (.iload 5, 2) := by decide +kernel
theorem d_Layout_layCells_119 : decode prog_4_method_4_code 119 = .ok (.iadd, 1) := by decide +kernel
theorem d_Layout_layCells_120 : decode prog_4_method_4_code 120 = .ok (.istore 6, 2) := by decide +kernel
theorem d_Layout_layCells_122 : decode prog_4_method_4_code 122 = .ok (.iload 7, 2) := by decide +kernel
theorem d_Layout_layCells_124 : decode prog_4_method_4_code 124 = .ok (.iconst 2, 1) := by decide +kernel
theorem d_Layout_layCells_125 : decode prog_4_method_4_code 125 = .ok (.iload 9, 2) := by decide +kernel
theorem d_Layout_layCells_127 : decode prog_4_method_4_code 127 = .ok (.imul, 1) := by decide +kernel
theorem d_Layout_layCells_128 : decode prog_4_method_4_code 128 = .ok (.aload 8, 2) := by decide +kernel
theorem d_Layout_layCells_130 : decode prog_4_method_4_code 130 = .ok (.getfield 34, 3) := by decide +kernel
theorem d_Layout_layCells_133 : decode prog_4_method_4_code 133 = .ok (.getfield 116, 3) := by decide +kernel
theorem d_Layout_layCells_136 : decode prog_4_method_4_code 136 = .ok (.iadd, 1) := by decide +kernel
theorem d_Layout_layCells_137 : decode prog_4_method_4_code 137 = .ok (.invokestatic 82, 3) := by decide +kernel
theorem d_Layout_layCells_140 : decode prog_4_method_4_code 140 = .ok (.istore 7, 2) := by decide +kernel
theorem d_Layout_layCells_142 : decode prog_4_method_4_code 142 = .ok (.aload 8, 2) := by decide +kernel
theorem d_Layout_layCells_144 : decode prog_4_method_4_code 144 = .ok (.getfield 126, 3) := by decide +kernel
theorem d_Layout_layCells_147 : decode prog_4_method_4_code 147 = .ok (.astore 8, 2) := by decide +kernel
theorem d_Layout_layCells_149 : decode prog_4_method_4_code 149 = .ok (.goto (-76), 3) := by decide +kernel
theorem d_Layout_layCells_152 : decode prog_4_method_4_code 152 = .ok (.iload 7, 2) := by decide +kernel
theorem d_Layout_layCells_154 : decode prog_4_method_4_code 154 = .ok (.ireturn, 1) := by decide +kernel
def f_Layout_layCells_14 (M : qM) : Nat → (Int32 → Option (Int32 × qM)) → Int32 → Option Nat → Option (Int32 × qM)
  | 0, _, _, _ => none
  | n + 1, K4, x2, r3 => q_on r3 (K4 x2) fun o5 => (q_bp (f_Layout_isBox o5 M) fun x6 => if x6 = 0 then (q_lt (M.2 o5 8) fun r8 => f_Layout_layCells_14 M n K4 x2 r8) else (q_lt (M.2 o5 8) fun r9 => f_Layout_layCells_14 M n K4 (x2 + 1) r9))
def f_Layout_layCells_73 (FB : Nat → Int32 → Int32 → Int32 → Int32 → qM → Option qM) (q1 : Nat) (x12 : Int32) (a2 : Int32) : Nat → (Int32 → qM → Option (Int32 × qM)) → Int32 → Int32 → Option Nat → qM → Option (Int32 × qM)
  | 0, _, _, _, _, _ => none
  | n + 1, K18, x14, x15, r16, M17 => q_on r16 (K18 x15 M17) fun o19 => (q_bp (f_Layout_isBox o19 M17) fun x20 => if x20 = 0 then (q_lt (M17.2 o19 8) fun r22 => f_Layout_layCells_73 FB q1 x12 a2 n K18 x14 x15 r22 M17) else (q_ix (4 : Int32) 7 <| q_lt (M17.1 (o19 + 3) (4 : Int32).toNatClampNeg) fun x24 => q_cv (FB o19 x14 ((M17.1 (q1 + 4) 6) + x24) x12 (a2 + 1) M17) fun M25 => q_lt (if x15 < ((2 * x24) + (M25.1 (o19 + 4) 4)) then (2 * x24) + (M25.1 (o19 + 4) 4) else x15) fun x26 => q_lt (M25.2 o19 8) fun r27 => f_Layout_layCells_73 FB q1 x12 a2 n K18 (x14 + x12) x26 r27 M25))
def f_Layout_layCells (FB : Nat → Int32 → Int32 → Int32 → Int32 → qM → Option qM) (q1 : Nat) (a2 : Int32) (M : qM) : Option (Int32 × qM) := q_lt (M.2 q1 5) fun r1 => f_Layout_layCells_14 M 1000 (fun (x11 : Int32) => q_lt (fun (x12 : Int32) => q_lt (M.2 q1 5) fun r13 => f_Layout_layCells_73 FB q1 x12 a2 1000 (fun (x29 : Int32) (M30 : qM) => some (x29, M30)) (M.1 (q1 + 4) 5) 0 r13 M) fun (j31 : Int32 → Option (Int32 × qM)) => if x11 = 0 then (j31 0) else (q_dk x11 <| j31 ((M.1 (q1 + 4) 7) / x11))) 0 r1
abbrev rm_Layout_layCells (fB lB : Nat) : Room := { frames := fB + 4, cells := 0, slots := 0, locals := lB + 100 }
set_option maxRecDepth 100000 in
set_option maxHeartbeats 4000000 in
theorem c_Layout_layCells {l : Launch} {D : va_G} {dA : Nat → ClassId} {b : Nat} {adK adV : Nat → Nat} (FB : Nat → Int32 → Int32 → Int32 → Int32 → qM → Option qM) (fB lB : Nat) (hFB : ∀ (q1 : Nat) (a2 : Int32) (a3 : Int32) (a4 : Int32) (a5 : Int32) (tq1 : tcX q1 = 7) (M : qM) (out : qM), FB q1 a2 a3 a4 a5 M = some out → CTv l y_Layout_layBox w_Layout_layBox { frames := fB, cells := 0, slots := 0, locals := lB } D (tysX dA) (enX dA b) 367 b (qX adK adV 367 b) [qr (some 364), qr (some q1), qi a2, qi a3, qi a4, qi a5] M out) (q1 : Nat) (a2 : Int32) (tq1 : tcX q1 = 7) (M : qM) (out : Int32 × qM) (hf : f_Layout_layCells FB q1 a2 M = some out) : CTi l y_Layout_layCells w_Layout_layCells (rm_Layout_layCells fB lB) D (tysX dA) (enX dA b) 367 b (qX adK adV 367 b) [qr (some 364), qr (some q1), qi a2] M out := by
  refine qm_i (cc := prog_4_method_4_code) (nL := 10) (by decide) rfl (Nat.le_of_ble_eq_true rfl) ?_
  intro p e s m args below meth c Q hx hb hts0 hown hml hK hs hret
  have hts : ∀ w ∈ lw_g, w.before args s = true := fun w h => hts0 w (List.mem_cons_of_mem _ h)
  show QJ p l e (rm_Layout_layCells fB lB) s m args below meth c (qA 367 b) b 10 0 0 Q (qWd D (enX dA b) 367 b) M 0 [(0, qr (some 364)), (1, qr (some q1)), (2, qi a2)] []
  unfold f_Layout_layCells at hf
  refine qj_aload_n hx hb d_Layout_layCells_0 rfl 1 rfl ?_
  refine qj_get hx hb hts hin_3 hown hK (q_in tq1 (by decide)) (en_7 tq1) rfl 13 (by decide) (hts _ tw_428) (fun _ h => h) (qr (some (q1 + 4))) rfl d_Layout_layCells_1 ?_
  refine qj_astore_n hx hb d_Layout_layCells_4 rfl (by decide) rfl ?_
  refine qj_iconst (v := 0) hx hb d_Layout_layCells_5 (by decide) ?_
  refine qj_istore hx hb d_Layout_layCells_6 (by decide) rfl ?_
  refine qj_aload_n hx hb d_Layout_layCells_8 rfl 3 rfl ?_
  have hf9 := q_lt_s hf; clear hf; obtain ⟨r1, er1, hf⟩ := hf9
  refine qj_w fun w => ?_
  have tr1 : ∀ o, r1 = some o → tcX o = 7 := fun o h => (w _ _ o (er1.symm.trans h)).trans (by rw [tq1] <;> rfl)
  refine qj_get hx hb hts hin_3 hown hK (q_in tq1 (by decide)) (en_7 tq1) rfl 5 (by decide) (hts _ tw_799) (fun _ h => h) (qr r1) (by rw [er1]; rfl) d_Layout_layCells_9 ?_
  refine qj_astore hx hb d_Layout_layCells_12 (by decide) rfl ?_
  have hL14 : ∀ (n : Nat) (K4 : Int32 → Option (Int32 × qM)), (∀ (x11 : Int32), K4 x11 = some out → QJ p l e (rm_Layout_layCells fB lB) s m args below meth c (qA 367 b) b 10 0 0 Q (qWd D (enX dA b) 367 b) M 40 [(0, qr (some 364)), (1, qr (some q1)), (2, qi a2), (3, qr (some (q1 + 4))), (4, qi x11)] []) → ∀ (x2 : Int32) (r3 : Option Nat), (∀ o, r3 = some o → tcX o = 7) → f_Layout_layCells_14 M n K4 x2 r3 = some out → QJ p l e (rm_Layout_layCells fB lB) s m args below meth c (qA 367 b) b 10 0 0 Q (qWd D (enX dA b) 367 b) M 14 [(0, qr (some 364)), (1, qr (some q1)), (2, qi a2), (3, qr (some (q1 + 4))), (4, qi x2), (5, qr r3)] [] := by
    clear hf
    intro n
    induction n with
    | zero =>
      intro K4 hK4 x2 r3 tr3 hf
      exact absurd hf (by simp [f_Layout_layCells_14])
    | succ n ih14 =>
      intro K4 hK4 x2 r3 tr3 hf
      rw [f_Layout_layCells_14] at hf
      have ih14 := ih14 K4 hK4
      refine qj_aload hx hb d_Layout_layCells_14 5 rfl ?_
      refine qj_ifnull (tgt := 40) hx hb d_Layout_layCells_16 (by decide) (fun hn10 => ?_) (fun o5 hn10 => ?_)
      · subst hn10
        replace hf := q_on_n hf
        refine qj_sub [0, 1, 2, 3, 4] rfl ?_
        exact hK4 x2 hf
      · subst hn10
        replace hf := q_on_s hf
        refine qj_aload hx hb d_Layout_layCells_19 5 rfl ?_
        have hf9 := q_bp_s hf; clear hf; obtain ⟨x6, hx6, hf⟩ := hf9
        refine qc_Si (st := []) hx hb hml hown hts hK (qX_ok _ _ _ _) hs (c_Layout_isBox o5 (tr3 _ rfl) M _ hx6) ⟨(callB_of 1 hts (q_good tw_818) rfl rfl rfl (hts _ tw_430) (hts _ tw_819) (by decide +kernel) (by constructor <;> dsimp only [rm_Layout_isBox, rm_Layout_layCells] <;> omega)), (hts _ tw_820)⟩ rfl rfl (Nat.le_of_ble_eq_true rfl) d_Layout_layCells_21 ?_
        refine qj_if_eq (tgt := 30) hx hb d_Layout_layCells_24 (by decide) (fun hc7 => ?_) (fun hc7 => ?_)
        · replace hf := q_if_t hc7 hf
          refine qj_aload hx hb d_Layout_layCells_30 5 rfl ?_
          have hf9 := q_lt_s hf; clear hf; obtain ⟨r8, er8, hf⟩ := hf9
          refine qj_w fun w => ?_
          have tr8 : ∀ o, r8 = some o → tcX o = 7 := fun o h => (w _ _ o (er8.symm.trans h)).trans (by rw [(tr3 _ rfl)] <;> rfl)
          refine qj_get hx hb hts hin_3 hown hK (q_in (tr3 _ rfl) (by decide)) (en_7 (tr3 _ rfl)) rfl 8 (by decide) (hts _ tw_801) (fun _ h => h) (qr r8) (by rw [er8]; rfl) d_Layout_layCells_32 ?_
          refine qj_astore hx hb d_Layout_layCells_35 (by decide) rfl ?_
          refine qj_goto (tgt := 14) hx hb d_Layout_layCells_37 (by decide) ?_
          refine qj_sub [1, 2, 3, 4, 5, 0] rfl ?_
          exact ih14 x2 r8 tr8 hf
        · replace hf := q_if_f hc7 hf
          refine qj_iinc (j := 4) (v := x2 + 1) hx hb d_Layout_layCells_27 rfl rfl (by decide) rfl ?_
          refine qj_aload hx hb d_Layout_layCells_30 5 rfl ?_
          have hf9 := q_lt_s hf; clear hf; obtain ⟨r9, er9, hf⟩ := hf9
          refine qj_w fun w => ?_
          have tr9 : ∀ o, r9 = some o → tcX o = 7 := fun o h => (w _ _ o (er9.symm.trans h)).trans (by rw [(tr3 _ rfl)] <;> rfl)
          refine qj_get hx hb hts hin_3 hown hK (q_in (tr3 _ rfl) (by decide)) (en_7 (tr3 _ rfl)) rfl 8 (by decide) (hts _ tw_801) (fun _ h => h) (qr r9) (by rw [er9]; rfl) d_Layout_layCells_32 ?_
          refine qj_astore hx hb d_Layout_layCells_35 (by decide) rfl ?_
          refine qj_goto (tgt := 14) hx hb d_Layout_layCells_37 (by decide) ?_
          refine qj_sub [2, 3, 4, 5, 1, 0] rfl ?_
          exact ih14 (x2 + 1) r9 tr9 hf
  refine qj_sub [3, 4, 5, 2, 1, 0] rfl ?_
  refine hL14 _ _ (fun x11 hf9 => ?_) 0 r1 tr1 hf
  clear hf; have hf := hf9; clear hf9
  refine qj_iload hx hb d_Layout_layCells_40 4 rfl ?_
  have hf9 := q_lt_s hf; clear hf; obtain ⟨j31, ej31, hf⟩ := hf9
  have hj31 : ∀ (x12 : Int32), j31 x12 = some out → QJ p l e (rm_Layout_layCells fB lB) s m args below meth c (qA 367 b) b 10 0 0 Q (qWd D (enX dA b) 367 b) M 56 [(0, qr (some 364)), (1, qr (some q1)), (2, qi a2), (3, qr (some (q1 + 4)))] [qi x12] := by
    clear hf
    intro x12 hf
    rw [ej31] at hf
    refine qj_istore hx hb d_Layout_layCells_56 (by decide) rfl ?_
    refine qj_aload_n hx hb d_Layout_layCells_58 rfl 4 rfl ?_
    refine qj_get hx hb hts hin_0 hown hK (q_in (tc_7_4 tq1) (by decide)) (en_11 (tc_7_4 tq1)) rfl 5 (by decide) (hts _ tw_789) (fun _ h => h) (qi (M.1 (q1 + 4) 5)) rfl d_Layout_layCells_59 ?_
    refine qj_istore hx hb d_Layout_layCells_62 (by decide) rfl ?_
    refine qj_iconst (v := 0) hx hb d_Layout_layCells_64 (by decide) ?_
    refine qj_istore hx hb d_Layout_layCells_65 (by decide) rfl ?_
    refine qj_aload_n hx hb d_Layout_layCells_67 rfl 4 rfl ?_
    have hf9 := q_lt_s hf; clear hf; obtain ⟨r13, er13, hf⟩ := hf9
    refine qj_w fun w => ?_
    have tr13 : ∀ o, r13 = some o → tcX o = 7 := fun o h => (w _ _ o (er13.symm.trans h)).trans (by rw [tq1] <;> rfl)
    refine qj_get hx hb hts hin_3 hown hK (q_in tq1 (by decide)) (en_7 tq1) rfl 5 (by decide) (hts _ tw_799) (fun _ h => h) (qr r13) (by rw [er13]; rfl) d_Layout_layCells_68 ?_
    refine qj_astore hx hb d_Layout_layCells_71 (by decide) rfl ?_
    have hL73 : ∀ (n : Nat) (K18 : Int32 → qM → Option (Int32 × qM)), (∀ (x29 : Int32) (M30 : qM), K18 x29 M30 = some out → QJ p l e (rm_Layout_layCells fB lB) s m args below meth c (qA 367 b) b 10 0 0 Q (qWd D (enX dA b) 367 b) M30 152 [(7, qi x29)] []) → ∀ (x14 : Int32) (x15 : Int32) (r16 : Option Nat) (M17 : qM), (∀ o, r16 = some o → tcX o = 7) → f_Layout_layCells_73 FB q1 x12 a2 n K18 x14 x15 r16 M17 = some out → QJ p l e (rm_Layout_layCells fB lB) s m args below meth c (qA 367 b) b 10 0 0 Q (qWd D (enX dA b) 367 b) M17 73 [(0, qr (some 364)), (2, qi a2), (3, qr (some (q1 + 4))), (5, qi x12), (6, qi x14), (7, qi x15), (8, qr r16)] [] := by
      clear hf
      intro n
      induction n with
      | zero =>
        intro K18 hK18 x14 x15 r16 M17 tr16 hf
        exact absurd hf (by simp [f_Layout_layCells_73])
      | succ n ih73 =>
        intro K18 hK18 x14 x15 r16 M17 tr16 hf
        rw [f_Layout_layCells_73] at hf
        have ih73 := ih73 K18 hK18
        refine qj_aload hx hb d_Layout_layCells_73 6 rfl ?_
        refine qj_ifnull (tgt := 152) hx hb d_Layout_layCells_75 (by decide) (fun hn28 => ?_) (fun o19 hn28 => ?_)
        · subst hn28
          replace hf := q_on_n hf
          refine qj_sub [5] rfl ?_
          exact hK18 x15 M17 hf
        · subst hn28
          replace hf := q_on_s hf
          refine qj_aload hx hb d_Layout_layCells_78 6 rfl ?_
          have hf9 := q_bp_s hf; clear hf; obtain ⟨x20, hx20, hf⟩ := hf9
          refine qc_Si (st := []) hx hb hml hown hts hK (qX_ok _ _ _ _) hs (c_Layout_isBox o19 (tr16 _ rfl) M17 _ hx20) ⟨(callB_of 1 hts (q_good tw_818) rfl rfl rfl (hts _ tw_430) (hts _ tw_819) (by decide +kernel) (by constructor <;> dsimp only [rm_Layout_isBox, rm_Layout_layCells] <;> omega)), (hts _ tw_820)⟩ rfl rfl (Nat.le_of_ble_eq_true rfl) d_Layout_layCells_80 ?_
          refine qj_if_eq (tgt := 142) hx hb d_Layout_layCells_83 (by decide) (fun hc21 => ?_) (fun hc21 => ?_)
          · replace hf := q_if_t hc21 hf
            refine qj_aload hx hb d_Layout_layCells_142 6 rfl ?_
            have hf9 := q_lt_s hf; clear hf; obtain ⟨r22, er22, hf⟩ := hf9
            refine qj_w fun w => ?_
            have tr22 : ∀ o, r22 = some o → tcX o = 7 := fun o h => (w _ _ o (er22.symm.trans h)).trans (by rw [(tr16 _ rfl)] <;> rfl)
            refine qj_get hx hb hts hin_3 hown hK (q_in (tr16 _ rfl) (by decide)) (en_7 (tr16 _ rfl)) rfl 8 (by decide) (hts _ tw_801) (fun _ h => h) (qr r22) (by rw [er22]; rfl) d_Layout_layCells_144 ?_
            refine qj_astore hx hb d_Layout_layCells_147 (by decide) rfl ?_
            refine qj_goto (tgt := 73) hx hb d_Layout_layCells_149 (by decide) ?_
            refine qj_sub [1, 2, 3, 4, 5, 6, 0] rfl ?_
            exact ih73 x14 x15 r22 M17 tr22 hf
          · replace hf := q_if_f hc21 hf
            refine qj_aload hx hb d_Layout_layCells_86 6 rfl ?_
            refine qj_get hx hb hts hin_3 hown hK (q_in (tr16 _ rfl) (by decide)) (en_7 (tr16 _ rfl)) rfl 12 (by decide) (hts _ tw_367) (fun _ h => h) (qr (some (o19 + 3))) rfl d_Layout_layCells_88 ?_
            refine qj_iconst (v := 4) hx hb d_Layout_layCells_91 (by decide) ?_
            have hf9 := q_ix_s hf; clear hf; obtain ⟨hi23, hf⟩ := hf9
            refine qj_iald (t0 := 0) hx hb hK (q_in (tc_7_3 (tr16 _ rfl)) (by decide)) (en_10 (tc_7_3 (tr16 _ rfl))) rfl hi23 d_Layout_layCells_92 ?_
            have hf9 := q_lt_s hf; clear hf; obtain ⟨x24, ex24, hf⟩ := hf9
            rw [← ex24]
            refine qj_istore hx hb d_Layout_layCells_93 (by decide) rfl ?_
            refine qj_aload_n hx hb d_Layout_layCells_95 rfl 1 rfl ?_
            refine qj_aload hx hb d_Layout_layCells_96 7 rfl ?_
            refine qj_iload hx hb d_Layout_layCells_98 5 rfl ?_
            refine qj_aload_n hx hb d_Layout_layCells_100 rfl 3 rfl ?_
            refine qj_get hx hb hts hin_0 hown hK (q_in (tc_7_4 tq1) (by decide)) (en_11 (tc_7_4 tq1)) rfl 6 (by decide) (hts _ tw_821) (fun _ h => h) (qi (M17.1 (q1 + 4) 6)) rfl d_Layout_layCells_101 ?_
            refine qj_iload hx hb d_Layout_layCells_104 0 rfl ?_
            refine qj_iadd hx hb d_Layout_layCells_106 ?_
            refine qj_iload hx hb d_Layout_layCells_107 4 rfl ?_
            refine qj_iload_n hx hb d_Layout_layCells_109 rfl 2 rfl ?_
            refine qj_iconst (v := 1) hx hb d_Layout_layCells_110 (by decide) ?_
            refine qj_iadd hx hb d_Layout_layCells_111 ?_
            have hf9 := q_cv_s hf; clear hf; obtain ⟨M25, hM25, hf⟩ := hf9
            refine qc_Vv (st := []) hx hb hml hown hts hK (qX_ok _ _ _ _) hs (hFB o19 x14 ((M17.1 (q1 + 4) 6) + x24) x12 (a2 + 1) (tr16 _ rfl) M17 _ hM25) ⟨(callB_of 5 hts (q_good tw_791) rfl rfl rfl (hts _ tw_430) (hts _ tw_792) (by decide +kernel) (by constructor <;> dsimp only [rm_Layout_layCells] <;> omega)), (hts _ tw_793), (hts _ tw_794)⟩ (q_in (rfl : tcX 364 = 24) (by decide)) (en_24 (rfl : tcX 364 = 24)) rfl rfl rfl (Nat.le_of_ble_eq_true rfl) d_Layout_layCells_112 ?_
            refine qj_iload hx hb d_Layout_layCells_115 5 rfl ?_
            refine qj_iload hx hb d_Layout_layCells_117 4 rfl ?_
            refine qj_iadd hx hb d_Layout_layCells_119 ?_
            refine qj_istore hx hb d_Layout_layCells_120 (by decide) rfl ?_
            refine qj_iload hx hb d_Layout_layCells_122 6 rfl ?_
            refine qj_iconst (v := 2) hx hb d_Layout_layCells_124 (by decide) ?_
            refine qj_iload hx hb d_Layout_layCells_125 1 rfl ?_
            refine qj_imul hx hb d_Layout_layCells_127 ?_
            refine qj_aload hx hb d_Layout_layCells_128 7 rfl ?_
            refine qj_get hx hb hts hin_3 hown hK (q_in (tr16 _ rfl) (by decide)) (en_7 (tr16 _ rfl)) rfl 13 (by decide) (hts _ tw_428) (fun _ h => h) (qr (some (o19 + 4))) rfl d_Layout_layCells_130 ?_
            refine qj_get hx hb hts hin_0 hown hK (q_in (tc_7_4 (tr16 _ rfl)) (by decide)) (en_11 (tc_7_4 (tr16 _ rfl))) rfl 4 (by decide) (hts _ tw_421) (fun _ h => h) (qi (M25.1 (o19 + 4) 4)) rfl d_Layout_layCells_133 ?_
            refine qj_iadd hx hb d_Layout_layCells_136 ?_
            refine qj_max hx hb hml hown (hts _ tw_788) (hts _ tw_390) (hts _ tw_391) (hts _ tw_392) (by first | omega | (dsimp only [rm_Layout_layCells]; omega) | (simp; omega)) (by simp only [List.length_cons, List.length_nil]; first | omega | (dsimp only [rm_Layout_layCells]; omega) | (simp; omega)) (Nat.zero_le _) (Nat.zero_le _) d_Layout_layCells_137 ?_
            have hf9 := q_lt_s hf; clear hf; obtain ⟨x26, ex26, hf⟩ := hf9
            rw [← ex26]
            refine qj_istore hx hb d_Layout_layCells_140 (by decide) rfl ?_
            refine qj_aload hx hb d_Layout_layCells_142 7 rfl ?_
            have hf9 := q_lt_s hf; clear hf; obtain ⟨r27, er27, hf⟩ := hf9
            refine qj_w fun w => ?_
            have tr27 : ∀ o, r27 = some o → tcX o = 7 := fun o h => (w _ _ o (er27.symm.trans h)).trans (by rw [(tr16 _ rfl)] <;> rfl)
            refine qj_get hx hb hts hin_3 hown hK (q_in (tr16 _ rfl) (by decide)) (en_7 (tr16 _ rfl)) rfl 8 (by decide) (hts _ tw_801) (fun _ h => h) (qr r27) (by rw [er27]; rfl) d_Layout_layCells_144 ?_
            refine qj_astore hx hb d_Layout_layCells_147 (by decide) rfl ?_
            refine qj_goto (tgt := 73) hx hb d_Layout_layCells_149 (by decide) ?_
            refine qj_sub [4, 5, 6, 7, 2, 1, 0] rfl ?_
            exact ih73 (x14 + x12) x26 r27 M25 tr27 hf
    refine qj_sub [4, 6, 7, 3, 2, 1, 0] rfl ?_
    refine hL73 _ _ (fun x29 M30 hf9 => ?_) (M.1 (q1 + 4) 5) 0 r13 M tr13 hf
    clear hf; have hf := hf9; clear hf9
    refine qj_iload hx hb d_Layout_layCells_152 0 rfl ?_
    exact hret _ _ _ _ d_Layout_layCells_154 (Option.some.inj hf)
  refine qj_if_ne (tgt := 49) hx hb d_Layout_layCells_42 (by decide) (fun hc32 => ?_) (fun hc32 => ?_)
  · replace hf := q_if_f hc32 hf
    refine qj_aload_n hx hb d_Layout_layCells_49 rfl 3 rfl ?_
    refine qj_get hx hb hts hin_0 hown hK (q_in (tc_7_4 tq1) (by decide)) (en_11 (tc_7_4 tq1)) rfl 7 (by decide) (hts _ tw_790) (fun _ h => h) (qi (M.1 (q1 + 4) 7)) rfl d_Layout_layCells_50 ?_
    refine qj_iload hx hb d_Layout_layCells_53 4 rfl ?_
    have hf9 := q_dk_s hf; clear hf; obtain ⟨hd33, hf⟩ := hf9
    refine qj_idiv hx hb d_Layout_layCells_55 hd33 ?_
    refine qj_sub [0, 1, 2, 3] rfl ?_
    exact hj31 ((M.1 (q1 + 4) 7) / x11) hf
  · replace hf := q_if_t hc32 hf
    refine qj_iconst (v := 0) hx hb d_Layout_layCells_45 (by decide) ?_
    refine qj_goto (tgt := 56) hx hb d_Layout_layCells_46 (by decide) ?_
    refine qj_sub [0, 1, 2, 3] rfl ?_
    exact hj31 0 hf
