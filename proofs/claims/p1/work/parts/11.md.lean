theorem d_Md_renew_0 : decode prog_14_method_26_code 0 = .ok (.aload_n 0, 1) := by decide +kernel
theorem d_Md_renew_1 : decode prog_14_method_26_code 1 = .ok (.invokevirtual 219, 3) := by decide +kernel
theorem d_Md_renew_4 : decode prog_14_method_26_code 4 = .ok (.istore_n 1, 1) := by decide +kernel
theorem d_Md_renew_5 : decode prog_14_method_26_code 5 = .ok (.iconst 0, 1) := by decide +kernel
theorem d_Md_renew_6 : decode prog_14_method_26_code 6 = .ok (.istore_n 2, 1) := by decide +kernel
theorem d_Md_renew_7 : decode prog_14_method_26_code 7 = .ok (.iconst 0, 1) := by decide +kernel
theorem d_Md_renew_8 : decode prog_14_method_26_code 8 = .ok (.istore_n 3, 1) := by decide +kernel
theorem d_Md_renew_9 : decode prog_14_method_26_code 9 = .ok (.iload_n 3, 1) := by decide +kernel
theorem d_Md_renew_10 : decode prog_14_method_26_code 10 = .ok (.aload_n 0, 1) := by decide +kernel
theorem d_Md_renew_11 : decode prog_14_method_26_code 11 = .ok (.getfield 151, 3) := by decide +kernel
theorem d_Md_renew_14 : decode prog_14_method_26_code 14 = .ok (.if_icmp .ge 36, 3) := by decide +kernel
theorem d_Md_renew_17 : decode prog_14_method_26_code 17 = .ok (.aload_n 0, 1) := by decide +kernel
theorem d_Md_renew_18 : decode prog_14_method_26_code 18 = .ok (.getfield 37, 3) := by decide +kernel
theorem d_Md_renew_21 : decode prog_14_method_26_code 21 = .ok (.iload_n 3, 1) := by decide +kernel
theorem d_Md_renew_22 : decode prog_14_method_26_code 22 = .ok (.iaload, 1) := by decide +kernel
theorem d_Md_renew_23 : decode prog_14_method_26_code 23 = .ok (.iload_n 1, 1) := by decide +kernel
theorem d_Md_renew_24 : decode prog_14_method_26_code 24 = .ok (.if_icmp .ne 20, 3) := by decide +kernel
theorem d_Md_renew_27 : decode prog_14_method_26_code 27 = .ok (.aload_n 0, 1) := by decide +kernel
theorem d_Md_renew_28 : decode prog_14_method_26_code 28 = .ok (.aload_n 0, 1) := by decide +kernel
theorem d_Md_renew_29 : decode prog_14_method_26_code 29 = .ok (.getfield 34, 3) := by decide +kernel
theorem d_Md_renew_32 : decode prog_14_method_26_code 32 = .ok (.iload_n 3, 1) := by decide +kernel
theorem d_Md_renew_33 : decode prog_14_method_26_code 33 = .ok (.iaload, 1) := by decide +kernel
theorem d_Md_renew_34 : decode prog_14_method_26_code 34 = .ok (.invokevirtual 223, 3) := by decide +kernel
theorem d_Md_renew_37 : decode prog_14_method_26_code 37 = .ok (.ifCond .lt 7, 3) := by decide +kernel
theorem d_Md_renew_40 : decode prog_14_method_26_code 40 = .ok (.iload_n 3, 1) := by decide +kernel
theorem d_Md_renew_41 : decode prog_14_method_26_code 41 = .ok (.iconst 1, 1) := by decide +kernel
theorem d_Md_renew_42 : decode prog_14_method_26_code 42 = .ok (.iadd, 1) := by decide +kernel
theorem d_Md_renew_43 : decode prog_14_method_26_code 43 = .ok (.istore_n 2, 1) := by decide +kernel
theorem d_Md_renew_44 : decode prog_14_method_26_code 44 = .ok (.iinc 3 1, 3) := by decide +kernel
theorem d_Md_renew_47 : decode prog_14_method_26_code 47 = .ok (.goto (-38), 3) := by decide +kernel
theorem d_Md_renew_50 : decode prog_14_method_26_code 50 = .ok (.iload_n 2, 1) := by decide +kernel
theorem d_Md_renew_51 : decode prog_14_method_26_code 51 = .ok (.istore_n 3, 1) := by decide +kernel
theorem d_Md_renew_52 : decode prog_14_method_26_code 52 = .ok (.iload_n 3, 1) := by decide +kernel
theorem d_Md_renew_53 : decode prog_14_method_26_code 53 = .ok (.aload_n 0, 1) := by decide +kernel
theorem d_Md_renew_54 : decode prog_14_method_26_code 54 = .ok (.getfield 151, 3) := by decide +kernel
theorem d_Md_renew_57 : decode prog_14_method_26_code 57 = .ok (.if_icmp .ge 76, 3) := by decide +kernel
theorem d_Md_renew_60 : decode prog_14_method_26_code 60 = .ok (.aload_n 0, 1) := by decide +kernel
theorem d_Md_renew_61 : decode prog_14_method_26_code 61 = .ok (.getfield 129, 3) := by decide +kernel
theorem d_Md_renew_64 : decode prog_14_method_26_code 64 = .ok (.ifCond .ne 69, 3) := by decide +kernel
theorem d_Md_renew_67 : decode prog_14_method_26_code 67 = .ok (.aload_n 0, 1) := by decide +kernel
theorem d_Md_renew_68 : decode prog_14_method_26_code 68 = .ok (.getfield 37, 3) := by decide +kernel
theorem d_Md_renew_71 : decode prog_14_method_26_code 71 = .ok (.iload_n 3, 1) := by decide +kernel
theorem d_Md_renew_72 : decode prog_14_method_26_code 72 = .ok (.iaload, 1) := by decide +kernel
theorem d_Md_renew_73 : decode prog_14_method_26_code 73 = .ok (.iload_n 1, 1) := by decide +kernel
theorem d_Md_renew_74 : decode prog_14_method_26_code 74 = .ok (.if_icmp .ne 53, 3) := by decide +kernel
theorem d_Md_renew_77 : decode prog_14_method_26_code 77 = .ok (.aload_n 0, 1) := by decide +kernel
theorem d_Md_renew_78 : decode prog_14_method_26_code 78 = .ok (.aload_n 0, 1) := by decide +kernel
theorem d_Md_renew_79 : decode prog_14_method_26_code 79 = .ok (.getfield 148, 3) := by decide +kernel
theorem d_Md_renew_82 : decode prog_14_method_26_code 82 = .ok (.invokevirtual 226, 3) := by decide +kernel
theorem d_Md_renew_85 : decode prog_14_method_26_code 85 = .ok (.aload_n 0, 1) := by decide +kernel
theorem d_Md_renew_86 : decode prog_14_method_26_code 86 = .ok (.aload_n 0, 1) := by decide +kernel
theorem d_Md_renew_87 : decode prog_14_method_26_code 87 = .ok (.getfield 19, 3) := by decide +kernel
theorem d_Md_renew_90 : decode prog_14_method_26_code 90 = .ok (.aload_n 0, 1) := by decide +kernel
theorem d_Md_renew_91 : decode prog_14_method_26_code 91 = .ok (.getfield 34, 3) := by decide +kernel
theorem d_Md_renew_94 : decode prog_14_method_26_code 94 = .ok (.iload_n 3, 1) := by decide +kernel
theorem d_Md_renew_95 : decode prog_14_method_26_code 95 = .ok (.iaload, 1) := by decide +kernel
theorem d_Md_renew_96 : decode prog_14_method_26_code 96 = .ok (.iaload, 1) := by decide +kernel
theorem d_Md_renew_97 : decode prog_14_method_26_code 97 = .ok (.aload_n 0, 1) := by decide +kernel
theorem d_Md_renew_98 : decode prog_14_method_26_code 98 = .ok (.getfield 22, 3) := by decide +kernel
theorem d_Md_renew_101 : decode prog_14_method_26_code 101 = .ok (.aload_n 0, 1) := by decide +kernel
theorem d_Md_renew_102 : decode prog_14_method_26_code 102 = .ok (.getfield 34, 3) := by decide +kernel
theorem d_Md_renew_105 : decode prog_14_method_26_code 105 = .ok (.iload_n 3, 1) := by decide +kernel
theorem d_Md_renew_106 : decode prog_14_method_26_code 106 = .ok (.iaload, 1) := by decide +kernel
theorem d_Md_renew_107 : decode prog_14_method_26_code 107 = .ok (.iaload, 1) := by decide +kernel
theorem d_Md_renew_108 : decode prog_14_method_26_code 108 = .ok (.invokevirtual 229, 3) := by decide +kernel
theorem d_Md_renew_111 : decode prog_14_method_26_code 111 = .ok (.istore 4, 2) := by decide +kernel
theorem d_Md_renew_113 : decode prog_14_method_26_code 113 = .ok (.aload_n 0, 1) := by decide +kernel
theorem d_Md_renew_114 : decode prog_14_method_26_code 114 = .ok (.iload 4, 2) := by decide +kernel
theorem d_Md_renew_116 : decode prog_14_method_26_code 116 = .ok (.invokevirtual 232, 3) := by decide +kernel
theorem d_Md_renew_119 : decode prog_14_method_26_code 119 = .ok (.aload_n 0, 1) := by decide +kernel
theorem d_Md_renew_120 : decode prog_14_method_26_code 120 = .ok (.getfield 34, 3) := by decide +kernel
theorem d_Md_renew_123 : decode prog_14_method_26_code 123 = .ok (.iload_n 3, 1) := by decide +kernel
theorem d_Md_renew_124 : decode prog_14_method_26_code 124 = .ok (.iload 4, 2) := by decide +kernel
theorem d_Md_renew_126 : decode prog_14_method_26_code 126 = .ok (.iastore, 1) := by decide +kernel
theorem d_Md_renew_127 : decode prog_14_method_26_code 127 = .ok (.iinc 3 1, 3) := by decide +kernel
theorem d_Md_renew_130 : decode prog_14_method_26_code 130 = .ok (.goto (-78), 3) := by decide +kernel
theorem d_Md_renew_133 : decode prog_14_method_26_code 133 = .ok (.return_, 1) := by decide +kernel
def f_Md_renew_9 (M : qM) (x1 : Int32) : Nat → (Int32 → Option qM) → Int32 → Int32 → Option qM
  | 0, _, _, _ => none
  | n + 1, K4, x2, x3 => if (M.1 0 16) ≤ x3 then (K4 x2) else (q_ix x3 40 <| if (M.1 10 x3.toNatClampNeg) = x1 then (q_ix x3 40 <| q_bp (f_Md_opened (M.1 9 x3.toNatClampNeg) M) fun x9 => if x9 < 0 then (f_Md_renew_9 M x1 n K4 x2 (x3 + 1)) else (f_Md_renew_9 M x1 n K4 (x3 + 1) (x3 + 1))) else (f_Md_renew_9 M x1 n K4 x2 (x3 + 1)))
def f_Md_renew_52 (x1 : Int32) : Nat → (qM → Option qM) → Int32 → qM → Option qM
  | 0, _, _, _ => none
  | n + 1, K14, x12, M13 => if (M13.1 0 16) ≤ x12 then (K14 M13) else (if (M13.1 0 4) = 0 then (q_ix x12 40 <| if (M13.1 10 x12.toNatClampNeg) = x1 then (q_cv (f_Md_findPlace (M13.1 0 13) M13) fun M19 => q_ix x12 40 <| q_ix (M19.1 9 x12.toNatClampNeg) 40 <| q_ix x12 40 <| q_ix (M19.1 9 x12.toNatClampNeg) 40 <| q_cl (f_Md_create (M19.1 4 (M19.1 9 x12.toNatClampNeg).toNatClampNeg) (M19.1 5 (M19.1 9 x12.toNatClampNeg).toNatClampNeg) M19) fun x24 M25 => q_cv (f_Md_push x24 M25) fun M26 => q_ix x12 40 <| q_lt (qsI M26 9 x12.toNatClampNeg x24) fun M28 => f_Md_renew_52 x1 n K14 (x12 + 1) M28) else (f_Md_renew_52 x1 n K14 (x12 + 1) M13)) else (K14 M13))
def f_Md_renew  (M : qM) : Option qM := q_bp (f_Md_listOwner M) fun x1 => f_Md_renew_9 M x1 1000 (fun (x11 : Int32) => f_Md_renew_52 x1 1000 (fun (M29 : qM) => some M29) x11 M) 0 0
abbrev rm_Md_renew : Room := { frames := 4, cells := 0, slots := 0, locals := 86 }
set_option maxRecDepth 100000 in
set_option maxHeartbeats 4000000 in
theorem c_Md_renew {l : Launch} {D : va_G} {dA : Nat → ClassId} {b : Nat}   (M : qM) (out : qM) (hf : f_Md_renew M = some out) : CTv l y_Md_renew w_Md_renew rm_Md_renew D (tysX dA) (enM dA b) 38 b (fun _ => True) [qr (some 0)] M out := by
  refine qm_v (cc := prog_14_method_26_code) (nL := 5) (by decide) rfl (Nat.le_of_ble_eq_true rfl) ?_
  intro p e s m args below meth c Q hx hb hts0 hown hml hK hs hret
  have hts : ∀ w ∈ lw_g, w.before args s = true := fun w h => hts0 w (List.mem_cons_of_mem _ h)
  show QJ p l e rm_Md_renew s m args below meth c (qA 38 b) b 5 0 0 Q (qWd D (enM dA b) 38 b) M 0 [(0, qr (some 0))] []
  unfold f_Md_renew at hf
  refine qj_aload_n hx hb d_Md_renew_0 rfl 0 rfl ?_
  have hf9 := q_bp_s hf; clear hf; obtain ⟨x1, hx1, hf⟩ := hf9
  refine qc_Vi (st := []) hx hb hml hown hts hK qT_ok hs (c_Md_listOwner  M _ hx1) ⟨(callB_of 0 hts (q_good tw_494) rfl rfl rfl (hts _ tw_459) (hts _ tw_495) (by decide +kernel) ⟨by decide, by decide⟩), (hts _ tw_496), (hts _ tw_497)⟩ (by decide) rfl rfl rfl rfl (Nat.le_of_ble_eq_true rfl) d_Md_renew_1 ?_
  refine qj_istore_n hx hb d_Md_renew_4 rfl (by decide) rfl ?_
  refine qj_iconst (v := 0) hx hb d_Md_renew_5 (by decide) ?_
  refine qj_istore_n hx hb d_Md_renew_6 rfl (by decide) rfl ?_
  refine qj_iconst (v := 0) hx hb d_Md_renew_7 (by decide) ?_
  refine qj_istore_n hx hb d_Md_renew_8 rfl (by decide) rfl ?_
  have hL9 : ∀ (n : Nat) (K4 : Int32 → Option qM), (∀ (x11 : Int32), K4 x11 = some out → QJ p l e rm_Md_renew s m args below meth c (qA 38 b) b 5 0 0 Q (qWd D (enM dA b) 38 b) M 50 [(0, qr (some 0)), (1, qi x1), (2, qi x11)] []) → ∀ (x2 : Int32) (x3 : Int32), f_Md_renew_9 M x1 n K4 x2 x3 = some out → QJ p l e rm_Md_renew s m args below meth c (qA 38 b) b 5 0 0 Q (qWd D (enM dA b) 38 b) M 9 [(0, qr (some 0)), (1, qi x1), (2, qi x2), (3, qi x3)] [] := by
    clear hf
    intro n
    induction n with
    | zero =>
      intro K4 hK4 x2 x3 hf
      exact absurd hf (by simp [f_Md_renew_9])
    | succ n ih9 =>
      intro K4 hK4 x2 x3 hf
      rw [f_Md_renew_9] at hf
      have ih9 := ih9 K4 hK4
      refine qj_iload_n hx hb d_Md_renew_9 rfl 3 rfl ?_
      refine qj_aload_n hx hb d_Md_renew_10 rfl 0 rfl ?_
      refine qj_get hx hb hts hin_12 hown hK (by decide) rfl rfl 16 (by decide) (hts _ tw_455) (fun _ h => h) (qi (M.1 0 16)) rfl d_Md_renew_11 ?_
      refine qj_icmp_ge (tgt := 50) hx hb d_Md_renew_14 (by decide) (fun hc5 => ?_) (fun hc5 => ?_)
      · replace hf := q_if_t hc5 hf
        refine qj_sub [0, 1, 2] rfl ?_
        exact hK4 x2 hf
      · replace hf := q_if_f hc5 hf
        refine qj_aload_n hx hb d_Md_renew_17 rfl 0 rfl ?_
        refine qj_get hx hb hts hin_12 hown hK (by decide) rfl rfl 15 (by decide) (hts _ tw_498) (fun _ h => h) (qr (some 10)) rfl d_Md_renew_18 ?_
        refine qj_iload_n hx hb d_Md_renew_21 rfl 3 rfl ?_
        have hf9 := q_ix_s hf; clear hf; obtain ⟨hi6, hf⟩ := hf9
        refine qj_iald (t0 := 0) hx hb hK (by decide) (fun _ _ => rfl) rfl hi6 d_Md_renew_22 ?_
        refine qj_iload_n hx hb d_Md_renew_23 rfl 1 rfl ?_
        refine qj_icmp_ne (tgt := 44) hx hb d_Md_renew_24 (by decide) (fun hc7 => ?_) (fun hc7 => ?_)
        · replace hf := q_if_f hc7 hf
          refine qj_iinc (j := 3) (v := x3 + 1) hx hb d_Md_renew_44 rfl rfl (by decide) rfl ?_
          refine qj_goto (tgt := 9) hx hb d_Md_renew_47 (by decide) ?_
          refine qj_sub [1, 2, 3, 0] rfl ?_
          exact ih9 x2 (x3 + 1) hf
        · replace hf := q_if_t hc7 hf
          refine qj_aload_n hx hb d_Md_renew_27 rfl 0 rfl ?_
          refine qj_aload_n hx hb d_Md_renew_28 rfl 0 rfl ?_
          refine qj_get hx hb hts hin_12 hown hK (by decide) rfl rfl 14 (by decide) (hts _ tw_499) (fun _ h => h) (qr (some 9)) rfl d_Md_renew_29 ?_
          refine qj_iload_n hx hb d_Md_renew_32 rfl 3 rfl ?_
          have hf9 := q_ix_s hf; clear hf; obtain ⟨hi8, hf⟩ := hf9
          refine qj_iald (t0 := 0) hx hb hK (by decide) (fun _ _ => rfl) rfl hi8 d_Md_renew_33 ?_
          have hf9 := q_bp_s hf; clear hf; obtain ⟨x9, hx9, hf⟩ := hf9
          refine qc_Vi (st := []) hx hb hml hown hts hK qT_ok hs (c_Md_opened (M.1 9 x3.toNatClampNeg) M _ hx9) ⟨(callB_of 1 hts (q_good tw_500) rfl rfl rfl (hts _ tw_459) (hts _ tw_501) (by decide +kernel) ⟨by decide, by decide⟩), (hts _ tw_502), (hts _ tw_503)⟩ (by decide) rfl rfl rfl rfl (Nat.le_of_ble_eq_true rfl) d_Md_renew_34 ?_
          refine qj_if_lt (tgt := 44) hx hb d_Md_renew_37 (by decide) (fun hc10 => ?_) (fun hc10 => ?_)
          · replace hf := q_if_t hc10 hf
            refine qj_iinc (j := 3) (v := x3 + 1) hx hb d_Md_renew_44 rfl rfl (by decide) rfl ?_
            refine qj_goto (tgt := 9) hx hb d_Md_renew_47 (by decide) ?_
            refine qj_sub [1, 2, 3, 0] rfl ?_
            exact ih9 x2 (x3 + 1) hf
          · replace hf := q_if_f hc10 hf
            refine qj_iload_n hx hb d_Md_renew_40 rfl 3 rfl ?_
            refine qj_iconst (v := 1) hx hb d_Md_renew_41 (by decide) ?_
            refine qj_iadd hx hb d_Md_renew_42 ?_
            refine qj_istore_n hx hb d_Md_renew_43 rfl (by decide) rfl ?_
            refine qj_iinc (j := 3) (v := x3 + 1) hx hb d_Md_renew_44 rfl rfl (by decide) rfl ?_
            refine qj_goto (tgt := 9) hx hb d_Md_renew_47 (by decide) ?_
            refine qj_sub [2, 3, 1, 0] rfl ?_
            exact ih9 (x3 + 1) (x3 + 1) hf
  refine qj_sub [3, 2, 1, 0] rfl ?_
  refine hL9 _ _ (fun x11 hf9 => ?_) 0 0 hf
  clear hf; have hf := hf9; clear hf9
  refine qj_iload_n hx hb d_Md_renew_50 rfl 2 rfl ?_
  refine qj_istore_n hx hb d_Md_renew_51 rfl (by decide) rfl ?_
  have hL52 : ∀ (n : Nat) (K14 : qM → Option qM), (∀ (M29 : qM), K14 M29 = some out → QJ p l e rm_Md_renew s m args below meth c (qA 38 b) b 5 0 0 Q (qWd D (enM dA b) 38 b) M29 133 [] []) → ∀ (x12 : Int32) (M13 : qM), f_Md_renew_52 x1 n K14 x12 M13 = some out → QJ p l e rm_Md_renew s m args below meth c (qA 38 b) b 5 0 0 Q (qWd D (enM dA b) 38 b) M13 52 [(0, qr (some 0)), (1, qi x1), (3, qi x12)] [] := by
    clear hf
    intro n
    induction n with
    | zero =>
      intro K14 hK14 x12 M13 hf
      exact absurd hf (by simp [f_Md_renew_52])
    | succ n ih52 =>
      intro K14 hK14 x12 M13 hf
      rw [f_Md_renew_52] at hf
      have ih52 := ih52 K14 hK14
      refine qj_iload_n hx hb d_Md_renew_52 rfl 2 rfl ?_
      refine qj_aload_n hx hb d_Md_renew_53 rfl 0 rfl ?_
      refine qj_get hx hb hts hin_12 hown hK (by decide) rfl rfl 16 (by decide) (hts _ tw_455) (fun _ h => h) (qi (M13.1 0 16)) rfl d_Md_renew_54 ?_
      refine qj_icmp_ge (tgt := 133) hx hb d_Md_renew_57 (by decide) (fun hc15 => ?_) (fun hc15 => ?_)
      · replace hf := q_if_t hc15 hf
        refine qj_sub [] rfl ?_
        exact hK14 M13 hf
      · replace hf := q_if_f hc15 hf
        refine qj_aload_n hx hb d_Md_renew_60 rfl 0 rfl ?_
        refine qj_get hx hb hts hin_12 hown hK (by decide) rfl rfl 4 (by decide) (hts _ tw_446) (fun _ h => h) (qi (M13.1 0 4)) rfl d_Md_renew_61 ?_
        refine qj_if_ne (tgt := 133) hx hb d_Md_renew_64 (by decide) (fun hc16 => ?_) (fun hc16 => ?_)
        · replace hf := q_if_f hc16 hf
          refine qj_sub [] rfl ?_
          exact hK14 M13 hf
        · replace hf := q_if_t hc16 hf
          refine qj_aload_n hx hb d_Md_renew_67 rfl 0 rfl ?_
          refine qj_get hx hb hts hin_12 hown hK (by decide) rfl rfl 15 (by decide) (hts _ tw_498) (fun _ h => h) (qr (some 10)) rfl d_Md_renew_68 ?_
          refine qj_iload_n hx hb d_Md_renew_71 rfl 2 rfl ?_
          have hf9 := q_ix_s hf; clear hf; obtain ⟨hi17, hf⟩ := hf9
          refine qj_iald (t0 := 0) hx hb hK (by decide) (fun _ _ => rfl) rfl hi17 d_Md_renew_72 ?_
          refine qj_iload_n hx hb d_Md_renew_73 rfl 1 rfl ?_
          refine qj_icmp_ne (tgt := 127) hx hb d_Md_renew_74 (by decide) (fun hc18 => ?_) (fun hc18 => ?_)
          · replace hf := q_if_f hc18 hf
            refine qj_iinc (j := 2) (v := x12 + 1) hx hb d_Md_renew_127 rfl rfl (by decide) rfl ?_
            refine qj_goto (tgt := 52) hx hb d_Md_renew_130 (by decide) ?_
            refine qj_sub [1, 2, 0] rfl ?_
            exact ih52 (x12 + 1) M13 hf
          · replace hf := q_if_t hc18 hf
            refine qj_aload_n hx hb d_Md_renew_77 rfl 0 rfl ?_
            refine qj_aload_n hx hb d_Md_renew_78 rfl 0 rfl ?_
            refine qj_get hx hb hts hin_12 hown hK (by decide) rfl rfl 13 (by decide) (hts _ tw_454) (fun _ h => h) (qi (M13.1 0 13)) rfl d_Md_renew_79 ?_
            have hf9 := q_cv_s hf; clear hf; obtain ⟨M19, hM19, hf⟩ := hf9
            refine qc_Vv (st := []) hx hb hml hown hts hK qT_ok hs (c_Md_findPlace (M13.1 0 13) M13 _ hM19) ⟨(callB_of 1 hts (q_good tw_504) rfl rfl rfl (hts _ tw_459) (hts _ tw_505) (by decide +kernel) ⟨by decide, by decide⟩), (hts _ tw_506), (hts _ tw_507)⟩ (by decide) rfl rfl rfl rfl (Nat.le_of_ble_eq_true rfl) d_Md_renew_82 ?_
            refine qj_aload_n hx hb d_Md_renew_85 rfl 0 rfl ?_
            refine qj_aload_n hx hb d_Md_renew_86 rfl 0 rfl ?_
            refine qj_get hx hb hts hin_12 hown hK (by decide) rfl rfl 8 (by decide) (hts _ tw_450) (fun _ h => h) (qr (some 4)) rfl d_Md_renew_87 ?_
            refine qj_aload_n hx hb d_Md_renew_90 rfl 0 rfl ?_
            refine qj_get hx hb hts hin_12 hown hK (by decide) rfl rfl 14 (by decide) (hts _ tw_499) (fun _ h => h) (qr (some 9)) rfl d_Md_renew_91 ?_
            refine qj_iload_n hx hb d_Md_renew_94 rfl 2 rfl ?_
            have hf9 := q_ix_s hf; clear hf; obtain ⟨hi20, hf⟩ := hf9
            refine qj_iald (t0 := 0) hx hb hK (by decide) (fun _ _ => rfl) rfl hi20 d_Md_renew_95 ?_
            have hf9 := q_ix_s hf; clear hf; obtain ⟨hi21, hf⟩ := hf9
            refine qj_iald (t0 := 0) hx hb hK (by decide) (fun _ _ => rfl) rfl hi21 d_Md_renew_96 ?_
            refine qj_aload_n hx hb d_Md_renew_97 rfl 0 rfl ?_
            refine qj_get hx hb hts hin_12 hown hK (by decide) rfl rfl 9 (by decide) (hts _ tw_451) (fun _ h => h) (qr (some 5)) rfl d_Md_renew_98 ?_
            refine qj_aload_n hx hb d_Md_renew_101 rfl 0 rfl ?_
            refine qj_get hx hb hts hin_12 hown hK (by decide) rfl rfl 14 (by decide) (hts _ tw_499) (fun _ h => h) (qr (some 9)) rfl d_Md_renew_102 ?_
            refine qj_iload_n hx hb d_Md_renew_105 rfl 2 rfl ?_
            have hf9 := q_ix_s hf; clear hf; obtain ⟨hi22, hf⟩ := hf9
            refine qj_iald (t0 := 0) hx hb hK (by decide) (fun _ _ => rfl) rfl hi22 d_Md_renew_106 ?_
            have hf9 := q_ix_s hf; clear hf; obtain ⟨hi23, hf⟩ := hf9
            refine qj_iald (t0 := 0) hx hb hK (by decide) (fun _ _ => rfl) rfl hi23 d_Md_renew_107 ?_
            have hf9 := q_cl_s hf; clear hf; obtain ⟨x24, M25, hx24, hf⟩ := hf9
            refine qc_Vi (st := []) hx hb hml hown hts hK qT_ok hs (c_Md_create (M19.1 4 (M19.1 9 x12.toNatClampNeg).toNatClampNeg) (M19.1 5 (M19.1 9 x12.toNatClampNeg).toNatClampNeg) M19 _ hx24) ⟨(callB_of 2 hts (q_good tw_508) rfl rfl rfl (hts _ tw_459) (hts _ tw_509) (by decide +kernel) ⟨by decide, by decide⟩), (hts _ tw_510), (hts _ tw_511)⟩ (by decide) rfl rfl rfl rfl (Nat.le_of_ble_eq_true rfl) d_Md_renew_108 ?_
            refine qj_istore hx hb d_Md_renew_111 (by decide) rfl ?_
            refine qj_aload_n hx hb d_Md_renew_113 rfl 1 rfl ?_
            refine qj_iload hx hb d_Md_renew_114 0 rfl ?_
            have hf9 := q_cv_s hf; clear hf; obtain ⟨M26, hM26, hf⟩ := hf9
            refine qc_Vv (st := []) hx hb hml hown hts hK qT_ok hs (c_Md_push x24 M25 _ hM26) ⟨(callB_of 1 hts (q_good tw_512) rfl rfl rfl (hts _ tw_459) (hts _ tw_513) (by decide +kernel) ⟨by decide, by decide⟩), (hts _ tw_514), (hts _ tw_515)⟩ (by decide) rfl rfl rfl rfl (Nat.le_of_ble_eq_true rfl) d_Md_renew_116 ?_
            refine qj_aload_n hx hb d_Md_renew_119 rfl 1 rfl ?_
            refine qj_get hx hb hts hin_12 hown hK (by decide) rfl rfl 14 (by decide) (hts _ tw_499) (fun _ h => h) (qr (some 9)) rfl d_Md_renew_120 ?_
            refine qj_iload_n hx hb d_Md_renew_123 rfl 3 rfl ?_
            refine qj_iload hx hb d_Md_renew_124 0 rfl ?_
            have hf9 := q_ix_s hf; clear hf; obtain ⟨hi27, hf⟩ := hf9
            have hf9 := q_lt_s hf; clear hf; obtain ⟨M28, eM28, hf⟩ := hf9
            refine qj_iast (t0 := 0) hx hb hK (by decide) (fun _ _ => rfl) rfl hi27 eM28 d_Md_renew_126 ?_
            refine qj_iinc (j := 3) (v := x12 + 1) hx hb d_Md_renew_127 rfl rfl (by decide) rfl ?_
            refine qj_goto (tgt := 52) hx hb d_Md_renew_130 (by decide) ?_
            refine qj_sub [2, 3, 0] rfl ?_
            exact ih52 (x12 + 1) M28 hf
  refine qj_sub [1, 2, 0] rfl ?_
  refine hL52 _ _ (fun M29 hf9 => ?_) x11 M hf
  clear hf; have hf := hf9; clear hf9
  exact hret _ _ _ d_Md_renew_133 (Option.some.inj hf)
theorem d_Md_clearWay_0 : decode prog_14_method_28_code 0 = .ok (.iload_n 1, 1) := by decide +kernel
theorem d_Md_clearWay_1 : decode prog_14_method_28_code 1 = .ok (.invokestatic 189, 3) := by decide +kernel
theorem d_Md_clearWay_4 : decode prog_14_method_28_code 4 = .ok (.ldc 235, 2) := by decide +kernel
theorem d_Md_clearWay_6 : decode prog_14_method_28_code 6 = .ok (.iand, 1) := by decide +kernel
theorem d_Md_clearWay_7 : decode prog_14_method_28_code 7 = .ok (.ifCond .eq 7, 3) := by decide +kernel
theorem d_Md_clearWay_10 : decode prog_14_method_28_code 10 = .ok (.iconst 1, 1) := by decide +kernel
theorem d_Md_clearWay_11 : decode prog_14_method_28_code 11 = .ok (.goto 4, 3) := by decide +kernel
theorem d_Md_clearWay_14 : decode prog_14_method_28_code 14 = .ok (.iconst 0, 1) := by decide +kernel
theorem d_Md_clearWay_15 : decode prog_14_method_28_code 15 = .ok (.istore_n 2, 1) := by decide +kernel
theorem d_Md_clearWay_16 : decode prog_14_method_28_code 16 = .ok (.aload_n 0, 1) := by decide +kernel
theorem d_Md_clearWay_17 : decode prog_14_method_28_code 17 = .ok (.bipush 116, 2) := by decide +kernel
theorem d_Md_clearWay_19 : decode prog_14_method_28_code 19 = .ok (.invokevirtual 196, 3) := by decide +kernel
theorem d_Md_clearWay_22 : decode prog_14_method_28_code 22 = .ok (.istore_n 3, 1) := by decide +kernel
theorem d_Md_clearWay_23 : decode prog_14_method_28_code 23 = .ok (.iload_n 2, 1) := by decide +kernel
theorem d_Md_clearWay_24 : decode prog_14_method_28_code 24 = .ok (.ifCond .eq 23, 3) := by decide +kernel
theorem d_Md_clearWay_27 : decode prog_14_method_28_code 27 = .ok (.aload_n 0, 1) := by decide +kernel
theorem d_Md_clearWay_28 : decode prog_14_method_28_code 28 = .ok (.bipush 112, 2) := by decide +kernel
theorem d_Md_clearWay_30 : decode prog_14_method_28_code 30 = .ok (.iconst 4, 1) := by decide +kernel
theorem d_Md_clearWay_31 : decode prog_14_method_28_code 31 = .ok (.invokevirtual 236, 3) := by decide +kernel
theorem d_Md_clearWay_34 : decode prog_14_method_28_code 34 = .ok (.ifCond .eq 13, 3) := by decide +kernel
theorem d_Md_clearWay_37 : decode prog_14_method_28_code 37 = .ok (.aload_n 0, 1) := by decide +kernel
theorem d_Md_clearWay_38 : decode prog_14_method_28_code 38 = .ok (.aload_n 0, 1) := by decide +kernel
theorem d_Md_clearWay_39 : decode prog_14_method_28_code 39 = .ok (.bipush 112, 2) := by decide +kernel
theorem d_Md_clearWay_41 : decode prog_14_method_28_code 41 = .ok (.invokevirtual 196, 3) := by decide +kernel
theorem d_Md_clearWay_44 : decode prog_14_method_28_code 44 = .ok (.putfield 148, 3) := by decide +kernel
theorem d_Md_clearWay_47 : decode prog_14_method_28_code 47 = .ok (.iload_n 1, 1) := by decide +kernel
theorem d_Md_clearWay_48 : decode prog_14_method_28_code 48 = .ok (.bipush 108, 2) := by decide +kernel
theorem d_Md_clearWay_50 : decode prog_14_method_28_code 50 = .ok (.if_icmp .ne 27, 3) := by decide +kernel
theorem d_Md_clearWay_53 : decode prog_14_method_28_code 53 = .ok (.aload_n 0, 1) := by decide +kernel
theorem d_Md_clearWay_54 : decode prog_14_method_28_code 54 = .ok (.bipush 108, 2) := by decide +kernel
theorem d_Md_clearWay_56 : decode prog_14_method_28_code 56 = .ok (.ldc 239, 2) := by decide +kernel
theorem d_Md_clearWay_58 : decode prog_14_method_28_code 58 = .ok (.invokevirtual 236, 3) := by decide +kernel
theorem d_Md_clearWay_61 : decode prog_14_method_28_code 61 = .ok (.ifCond .eq 120, 3) := by decide +kernel
theorem d_Md_clearWay_64 : decode prog_14_method_28_code 64 = .ok (.aload_n 0, 1) := by decide +kernel
theorem d_Md_clearWay_65 : decode prog_14_method_28_code 65 = .ok (.aload_n 0, 1) := by decide +kernel
theorem d_Md_clearWay_66 : decode prog_14_method_28_code 66 = .ok (.bipush 108, 2) := by decide +kernel
theorem d_Md_clearWay_68 : decode prog_14_method_28_code 68 = .ok (.invokevirtual 196, 3) := by decide +kernel
theorem d_Md_clearWay_71 : decode prog_14_method_28_code 71 = .ok (.putfield 148, 3) := by decide +kernel
theorem d_Md_clearWay_74 : decode prog_14_method_28_code 74 = .ok (.goto 107, 3) := by decide +kernel
theorem d_Md_clearWay_77 : decode prog_14_method_28_code 77 = .ok (.iload_n 1, 1) := by decide +kernel
theorem d_Md_clearWay_78 : decode prog_14_method_28_code 78 = .ok (.bipush 114, 2) := by decide +kernel
theorem d_Md_clearWay_80 : decode prog_14_method_28_code 80 = .ok (.if_icmp .ne 19, 3) := by decide +kernel
theorem d_Md_clearWay_83 : decode prog_14_method_28_code 83 = .ok (.iload_n 3, 1) := by decide +kernel
theorem d_Md_clearWay_84 : decode prog_14_method_28_code 84 = .ok (.ifCond .ge 5, 3) := by decide +kernel
theorem d_Md_clearWay_87 : decode prog_14_method_28_code 87 = .ok (.iconst 0, 1) := by decide +kernel
theorem d_Md_clearWay_88 : decode prog_14_method_28_code 88 = .ok (.ireturn, 1) := by decide +kernel
theorem d_Md_clearWay_89 : decode prog_14_method_28_code 89 = .ok (.aload_n 0, 1) := by decide +kernel
theorem d_Md_clearWay_90 : decode prog_14_method_28_code 90 = .ok (.iload_n 3, 1) := by decide +kernel
theorem d_Md_clearWay_91 : decode prog_14_method_28_code 91 = .ok (.iconst 1, 1) := by decide +kernel
theorem d_Md_clearWay_92 : decode prog_14_method_28_code 92 = .ok (.iadd, 1) := by decide +kernel
theorem d_Md_clearWay_93 : decode prog_14_method_28_code 93 = .ok (.putfield 148, 3) := by decide +kernel
theorem d_Md_clearWay_96 : decode prog_14_method_28_code 96 = .ok (.goto 85, 3) := by decide +kernel
theorem d_Md_clearWay_99 : decode prog_14_method_28_code 99 = .ok (.iload_n 1, 1) := by decide +kernel
theorem d_Md_clearWay_100 : decode prog_14_method_28_code 100 = .ok (.bipush 99, 2) := by decide +kernel
theorem d_Md_clearWay_102 : decode prog_14_method_28_code 102 = .ok (.if_icmp .ne 71, 3) := by decide +kernel
theorem d_Md_clearWay_105 : decode prog_14_method_28_code 105 = .ok (.iload_n 3, 1) := by decide +kernel
theorem d_Md_clearWay_106 : decode prog_14_method_28_code 106 = .ok (.ifCond .ge 5, 3) := by decide +kernel
theorem d_Md_clearWay_109 : decode prog_14_method_28_code 109 = .ok (.iconst 0, 1) := by decide +kernel
theorem d_Md_clearWay_110 : decode prog_14_method_28_code 110 = .ok (.ireturn, 1) := by decide +kernel
theorem d_Md_clearWay_111 : decode prog_14_method_28_code 111 = .ok (.aload_n 0, 1) := by decide +kernel
theorem d_Md_clearWay_112 : decode prog_14_method_28_code 112 = .ok (.bipush 114, 2) := by decide +kernel
theorem d_Md_clearWay_114 : decode prog_14_method_28_code 114 = .ok (.invokevirtual 196, 3) := by decide +kernel
theorem d_Md_clearWay_117 : decode prog_14_method_28_code 117 = .ok (.istore 4, 2) := by decide +kernel
theorem d_Md_clearWay_119 : decode prog_14_method_28_code 119 = .ok (.aload_n 0, 1) := by decide +kernel
theorem d_Md_clearWay_120 : decode prog_14_method_28_code 120 = .ok (.iload 4, 2) := by decide +kernel
theorem d_Md_clearWay_122 : decode prog_14_method_28_code 122 = .ok (.iload_n 3, 1) := by decide +kernel
theorem d_Md_clearWay_123 : decode prog_14_method_28_code 123 = .ok (.if_icmp .le 10, 3) := by decide +kernel
theorem d_Md_clearWay_126 : decode prog_14_method_28_code 126 = .ok (.iload 4, 2) := by decide +kernel
theorem d_Md_clearWay_128 : decode prog_14_method_28_code 128 = .ok (.iconst 1, 1) := by decide +kernel
theorem d_Md_clearWay_129 : decode prog_14_method_28_code 129 = .ok (.iadd, 1) := by decide +kernel
theorem d_Md_clearWay_130 : decode prog_14_method_28_code 130 = .ok (.goto 6, 3) := by decide +kernel
theorem d_Md_clearWay_133 : decode prog_14_method_28_code 133 = .ok (.iload_n 3, 1) := by decide +kernel
theorem d_Md_clearWay_134 : decode prog_14_method_28_code 134 = .ok (.iconst 1, 1) := by decide +kernel
theorem d_Md_clearWay_135 : decode prog_14_method_28_code 135 = .ok (.iadd, 1) := by decide +kernel
theorem d_Md_clearWay_136 : decode prog_14_method_28_code 136 = .ok (.putfield 148, 3) := by decide +kernel
theorem d_Md_clearWay_139 : decode prog_14_method_28_code 139 = .ok (.iload 4, 2) := by decide +kernel
theorem d_Md_clearWay_141 : decode prog_14_method_28_code 141 = .ok (.iload_n 3, 1) := by decide +kernel
theorem d_Md_clearWay_142 : decode prog_14_method_28_code 142 = .ok (.if_icmp .gt 28, 3) := by decide +kernel
theorem d_Md_clearWay_145 : decode prog_14_method_28_code 145 = .ok (.aload_n 0, 1) := by decide +kernel
theorem d_Md_clearWay_146 : decode prog_14_method_28_code 146 = .ok (.aload_n 0, 1) := by decide +kernel
theorem d_Md_clearWay_147 : decode prog_14_method_28_code 147 = .ok (.getfield 31, 3) := by decide +kernel
theorem d_Md_clearWay_150 : decode prog_14_method_28_code 150 = .ok (.iload_n 3, 1) := by decide +kernel
theorem d_Md_clearWay_151 : decode prog_14_method_28_code 151 = .ok (.iaload, 1) := by decide +kernel
theorem d_Md_clearWay_152 : decode prog_14_method_28_code 152 = .ok (.invokevirtual 216, 3) := by decide +kernel
theorem d_Md_clearWay_155 : decode prog_14_method_28_code 155 = .ok (.aload_n 0, 1) := by decide +kernel
theorem d_Md_clearWay_156 : decode prog_14_method_28_code 156 = .ok (.bipush 114, 2) := by decide +kernel
theorem d_Md_clearWay_158 : decode prog_14_method_28_code 158 = .ok (.iconst 0, 1) := by decide +kernel
theorem d_Md_clearWay_159 : decode prog_14_method_28_code 159 = .ok (.invokevirtual 229, 3) := by decide +kernel
theorem d_Md_clearWay_162 : decode prog_14_method_28_code 162 = .ok (.istore 5, 2) := by decide +kernel
theorem d_Md_clearWay_164 : decode prog_14_method_28_code 164 = .ok (.aload_n 0, 1) := by decide +kernel
theorem d_Md_clearWay_165 : decode prog_14_method_28_code 165 = .ok (.iload 5, 2) := by decide +kernel
theorem d_Md_clearWay_167 : decode prog_14_method_28_code 167 = .ok (.invokevirtual 232, 3) := by decide +kernel
theorem d_Md_clearWay_170 : decode prog_14_method_28_code 170 = .ok (.goto 11, 3) := by decide +kernel
theorem d_Md_clearWay_173 : decode prog_14_method_28_code 173 = .ok (.iload_n 2, 1) := by decide +kernel
theorem d_Md_clearWay_174 : decode prog_14_method_28_code 174 = .ok (.ifCond .ne 7, 3) := by decide +kernel
theorem d_Md_clearWay_177 : decode prog_14_method_28_code 177 = .ok (.aload_n 0, 1) := by decide +kernel
theorem d_Md_clearWay_178 : decode prog_14_method_28_code 178 = .ok (.invokevirtual 240, 3) := by decide +kernel
theorem d_Md_clearWay_181 : decode prog_14_method_28_code 181 = .ok (.aload_n 0, 1) := by decide +kernel
theorem d_Md_clearWay_182 : decode prog_14_method_28_code 182 = .ok (.getfield 129, 3) := by decide +kernel
theorem d_Md_clearWay_185 : decode prog_14_method_28_code 185 = .ok (.ifCond .ne 7, 3) := by decide +kernel
theorem d_Md_clearWay_188 : decode prog_14_method_28_code 188 = .ok (.iconst 1, 1) := by decide +kernel
theorem d_Md_clearWay_189 : decode prog_14_method_28_code 189 = .ok (.goto 4, 3) := by decide +kernel
theorem d_Md_clearWay_192 : decode prog_14_method_28_code 192 = .ok (.iconst 0, 1) := by decide +kernel
theorem d_Md_clearWay_193 : decode prog_14_method_28_code 193 = .ok (.ireturn, 1) := by decide +kernel
def f_Md_clearWay (a1 : Int32) (M : qM) : Option (Int32 × qM) := q_bp (f_Md_bit a1 M) fun x1 => q_lt (fun (x2 : Int32) => q_bp (f_Md_topmost 116 M) fun x3 => q_lt (fun (M4 : qM) => q_lt (fun (M5 : qM) => if (M5.1 0 4) = 0 then (some (1, M5)) else (some (0, M5))) fun (j7 : qM → Option (Int32 × qM)) => if a1 = 108 then (q_bp (f_Md_reach 108 1048580 M4) fun x27 => if x27 = 0 then (j7 M4) else (q_bp (f_Md_topmost 108 M4) fun x29 => q_lt (qsI M4 0 13 x29) fun M30 => j7 M30)) else (if a1 = 114 then (if 0 ≤ x3 then (q_lt (qsI M4 0 13 (x3 + 1)) fun M26 => j7 M26) else (some (0, M4))) else (if a1 = 99 then (if 0 ≤ x3 then (q_bp (f_Md_topmost 114 M4) fun x14 => q_lt (fun (x15 : Int32) => q_lt (qsI M4 0 13 x15) fun M16 => if x3 < x14 then (j7 M16) else (q_ix x3 40 <| q_cv (f_Md_insideTop (M16.1 8 x3.toNatClampNeg) M16) fun M19 => q_cl (f_Md_create 114 0 M19) fun x20 M21 => q_cv (f_Md_push x20 M21) fun M22 => j7 M22)) fun (j23 : Int32 → Option (Int32 × qM)) => if x14 ≤ x3 then (j23 (x3 + 1)) else (j23 (x14 + 1))) else (some (0, M4))) else (if x2 = 0 then (q_cv (f_Md_renew M4) fun M12 => j7 M12) else (j7 M4))))) fun (j31 : qM → Option (Int32 × qM)) => if x2 = 0 then (j31 M) else (q_bp (f_Md_reach 112 4 M) fun x33 => if x33 = 0 then (j31 M) else (q_bp (f_Md_topmost 112 M) fun x35 => q_lt (qsI M 0 13 x35) fun M36 => j31 M36))) fun (j37 : Int32 → Option (Int32 × qM)) => if (x1 &&& 1607816) = 0 then (j37 0) else (j37 1)
abbrev rm_Md_clearWay : Room := { frames := 5, cells := 0, slots := 0, locals := 110 }
set_option maxRecDepth 100000 in
set_option maxHeartbeats 4000000 in
theorem c_Md_clearWay {l : Launch} {D : va_G} {dA : Nat → ClassId} {b : Nat} (a1 : Int32)  (M : qM) (out : Int32 × qM) (hf : f_Md_clearWay a1 M = some out) : CTi l y_Md_clearWay w_Md_clearWay rm_Md_clearWay D (tysX dA) (enM dA b) 38 b (fun _ => True) [qr (some 0), qi a1] M out := by
  refine qm_z (cc := prog_14_method_28_code) (nL := 6) (by decide) rfl (Nat.le_of_ble_eq_true rfl) ?_
  intro p e s m args below meth c Q hx hb hts0 hown hml hK hs hret
  have hts : ∀ w ∈ lw_g, w.before args s = true := fun w h => hts0 w (List.mem_cons_of_mem _ h)
  show QJ p l e rm_Md_clearWay s m args below meth c (qA 38 b) b 6 0 0 Q (qWd D (enM dA b) 38 b) M 0 [(0, qr (some 0)), (1, qi a1)] []
  unfold f_Md_clearWay at hf
  refine qj_iload_n hx hb d_Md_clearWay_0 rfl 1 rfl ?_
  have hf9 := q_bp_s hf; clear hf; obtain ⟨x1, hx1, hf⟩ := hf9
  refine qc_Si (st := []) hx hb hml hown hts hK qT_ok hs (c_Md_bit a1 M _ hx1) ⟨(callB_of 1 hts (q_good tw_463) rfl rfl rfl (hts _ tw_459) (hts _ tw_464) (by decide +kernel) ⟨by decide, by decide⟩), (hts _ tw_465)⟩ rfl rfl (Nat.le_of_ble_eq_true rfl) d_Md_clearWay_1 ?_
  refine qj_ldc (v := 1607816) hx hb hown (hts _ tw_516) d_Md_clearWay_4 ?_
  refine qj_iand hx hb d_Md_clearWay_6 ?_
  have hf9 := q_lt_s hf; clear hf; obtain ⟨j37, ej37, hf⟩ := hf9
  have hj37 : ∀ (x2 : Int32), j37 x2 = some out → QJ p l e rm_Md_clearWay s m args below meth c (qA 38 b) b 6 0 0 Q (qWd D (enM dA b) 38 b) M 15 [(0, qr (some 0)), (1, qi a1)] [qi x2] := by
    clear hf
    intro x2 hf
    rw [ej37] at hf
    refine qj_istore_n hx hb d_Md_clearWay_15 rfl (by decide) rfl ?_
    refine qj_aload_n hx hb d_Md_clearWay_16 rfl 1 rfl ?_
    refine qj_bipush (v := 116) hx hb d_Md_clearWay_17 (by decide) ?_
    have hf9 := q_bp_s hf; clear hf; obtain ⟨x3, hx3, hf⟩ := hf9
    refine qc_Vi (st := []) hx hb hml hown hts hK qT_ok hs (c_Md_topmost 116 M _ hx3) ⟨(callB_of 1 hts (q_good tw_470) rfl rfl rfl (hts _ tw_459) (hts _ tw_471) (by decide +kernel) ⟨by decide, by decide⟩), (hts _ tw_472), (hts _ tw_473)⟩ (by decide) rfl rfl rfl rfl (Nat.le_of_ble_eq_true rfl) d_Md_clearWay_19 ?_
    refine qj_istore_n hx hb d_Md_clearWay_22 rfl (by decide) rfl ?_
    refine qj_iload_n hx hb d_Md_clearWay_23 rfl 1 rfl ?_
    have hf9 := q_lt_s hf; clear hf; obtain ⟨j31, ej31, hf⟩ := hf9
    have hj31 : ∀ (M4 : qM), j31 M4 = some out → QJ p l e rm_Md_clearWay s m args below meth c (qA 38 b) b 6 0 0 Q (qWd D (enM dA b) 38 b) M4 47 [(0, qr (some 0)), (1, qi a1), (2, qi x2), (3, qi x3)] [] := by
      clear hf
      intro M4 hf
      rw [ej31] at hf
      refine qj_iload_n hx hb d_Md_clearWay_47 rfl 1 rfl ?_
      refine qj_bipush (v := 108) hx hb d_Md_clearWay_48 (by decide) ?_
      have hf9 := q_lt_s hf; clear hf; obtain ⟨j7, ej7, hf⟩ := hf9
      have hj7 : ∀ (M5 : qM), j7 M5 = some out → QJ p l e rm_Md_clearWay s m args below meth c (qA 38 b) b 6 0 0 Q (qWd D (enM dA b) 38 b) M5 181 [(0, qr (some 0))] [] := by
        clear hf
        intro M5 hf
        rw [ej7] at hf
        refine qj_aload_n hx hb d_Md_clearWay_181 rfl 0 rfl ?_
        refine qj_get hx hb hts hin_12 hown hK (by decide) rfl rfl 4 (by decide) (hts _ tw_446) (fun _ h => h) (qi (M5.1 0 4)) rfl d_Md_clearWay_182 ?_
        refine qj_if_ne (tgt := 192) hx hb d_Md_clearWay_185 (by decide) (fun hc6 => ?_) (fun hc6 => ?_)
        · replace hf := q_if_f hc6 hf
          refine qj_iconst (v := 0) hx hb d_Md_clearWay_192 (by decide) ?_
          exact hret _ _ _ _ (Or.inl rfl) d_Md_clearWay_193 (Option.some.inj hf)
        · replace hf := q_if_t hc6 hf
          refine qj_iconst (v := 1) hx hb d_Md_clearWay_188 (by decide) ?_
          refine qj_goto (tgt := 193) hx hb d_Md_clearWay_189 (by decide) ?_
          exact hret _ _ _ _ (Or.inr rfl) d_Md_clearWay_193 (Option.some.inj hf)
      refine qj_icmp_ne (tgt := 77) hx hb d_Md_clearWay_50 (by decide) (fun hc8 => ?_) (fun hc8 => ?_)
      · replace hf := q_if_f hc8 hf
        refine qj_iload_n hx hb d_Md_clearWay_77 rfl 1 rfl ?_
        refine qj_bipush (v := 114) hx hb d_Md_clearWay_78 (by decide) ?_
        refine qj_icmp_ne (tgt := 99) hx hb d_Md_clearWay_80 (by decide) (fun hc9 => ?_) (fun hc9 => ?_)
        · replace hf := q_if_f hc9 hf
          refine qj_iload_n hx hb d_Md_clearWay_99 rfl 1 rfl ?_
          refine qj_bipush (v := 99) hx hb d_Md_clearWay_100 (by decide) ?_
          refine qj_icmp_ne (tgt := 173) hx hb d_Md_clearWay_102 (by decide) (fun hc10 => ?_) (fun hc10 => ?_)
          · replace hf := q_if_f hc10 hf
            refine qj_iload_n hx hb d_Md_clearWay_173 rfl 2 rfl ?_
            refine qj_if_ne (tgt := 181) hx hb d_Md_clearWay_174 (by decide) (fun hc11 => ?_) (fun hc11 => ?_)
            · replace hf := q_if_f hc11 hf
              refine qj_sub [0] rfl ?_
              exact hj7 M4 hf
            · replace hf := q_if_t hc11 hf
              refine qj_aload_n hx hb d_Md_clearWay_177 rfl 0 rfl ?_
              have hf9 := q_cv_s hf; clear hf; obtain ⟨M12, hM12, hf⟩ := hf9
              refine qc_Vv (st := []) hx hb hml hown hts hK qT_ok hs (c_Md_renew  M4 _ hM12) ⟨(callB_of 0 hts (q_good tw_517) rfl rfl rfl (hts _ tw_459) (hts _ tw_518) (by decide +kernel) ⟨by decide, by decide⟩), (hts _ tw_519), (hts _ tw_520)⟩ (by decide) rfl rfl rfl rfl (Nat.le_of_ble_eq_true rfl) d_Md_clearWay_178 ?_
              refine qj_sub [0] rfl ?_
              exact hj7 M12 hf
          · replace hf := q_if_t hc10 hf
            refine qj_iload_n hx hb d_Md_clearWay_105 rfl 3 rfl ?_
            refine qj_if_ge (tgt := 111) hx hb d_Md_clearWay_106 (by decide) (fun hc13 => ?_) (fun hc13 => ?_)
            · replace hf := q_if_t hc13 hf
              refine qj_aload_n hx hb d_Md_clearWay_111 rfl 0 rfl ?_
              refine qj_bipush (v := 114) hx hb d_Md_clearWay_112 (by decide) ?_
              have hf9 := q_bp_s hf; clear hf; obtain ⟨x14, hx14, hf⟩ := hf9
              refine qc_Vi (st := []) hx hb hml hown hts hK qT_ok hs (c_Md_topmost 114 M4 _ hx14) ⟨(callB_of 1 hts (q_good tw_470) rfl rfl rfl (hts _ tw_459) (hts _ tw_471) (by decide +kernel) ⟨by decide, by decide⟩), (hts _ tw_472), (hts _ tw_473)⟩ (by decide) rfl rfl rfl rfl (Nat.le_of_ble_eq_true rfl) d_Md_clearWay_114 ?_
              refine qj_istore hx hb d_Md_clearWay_117 (by decide) rfl ?_
              refine qj_aload_n hx hb d_Md_clearWay_119 rfl 1 rfl ?_
              refine qj_iload hx hb d_Md_clearWay_120 0 rfl ?_
              refine qj_iload_n hx hb d_Md_clearWay_122 rfl 4 rfl ?_
              have hf9 := q_lt_s hf; clear hf; obtain ⟨j23, ej23, hf⟩ := hf9
              have hj23 : ∀ (x15 : Int32), j23 x15 = some out → QJ p l e rm_Md_clearWay s m args below meth c (qA 38 b) b 6 0 0 Q (qWd D (enM dA b) 38 b) M4 136 [(0, qr (some 0)), (3, qi x3), (4, qi x14)] [qi x15, qr (some 0)] := by
                clear hf
                intro x15 hf
                rw [ej23] at hf
                have hf9 := q_lt_s hf; clear hf; obtain ⟨M16, eM16, hf⟩ := hf9
                refine qj_puti (ty := .int) hx hb hts hin_12 ty_12 tyok_12 nm_12 hown hK (by decide) rfl rfl 13 (by decide) (hts _ tw_454) (fun _ h => h) rfl (by decide +kernel) rfl rfl (Nat.le_of_ble_eq_true rfl) sm_13 eM16 d_Md_clearWay_136 ?_
                refine qj_iload hx hb d_Md_clearWay_139 2 rfl ?_
                refine qj_iload_n hx hb d_Md_clearWay_141 rfl 1 rfl ?_
                refine qj_icmp_gt (tgt := 170) hx hb d_Md_clearWay_142 (by decide) (fun hc17 => ?_) (fun hc17 => ?_)
                · replace hf := q_if_t hc17 hf
                  refine qj_goto (tgt := 181) hx hb d_Md_clearWay_170 (by decide) ?_
                  refine qj_sub [0] rfl ?_
                  exact hj7 M16 hf
                · replace hf := q_if_f hc17 hf
                  refine qj_aload_n hx hb d_Md_clearWay_145 rfl 0 rfl ?_
                  refine qj_aload_n hx hb d_Md_clearWay_146 rfl 0 rfl ?_
                  refine qj_get hx hb hts hin_12 hown hK (by decide) rfl rfl 12 (by decide) (hts _ tw_453) (fun _ h => h) (qr (some 8)) rfl d_Md_clearWay_147 ?_
                  refine qj_iload_n hx hb d_Md_clearWay_150 rfl 1 rfl ?_
                  have hf9 := q_ix_s hf; clear hf; obtain ⟨hi18, hf⟩ := hf9
                  refine qj_iald (t0 := 0) hx hb hK (by decide) (fun _ _ => rfl) rfl hi18 d_Md_clearWay_151 ?_
                  have hf9 := q_cv_s hf; clear hf; obtain ⟨M19, hM19, hf⟩ := hf9
                  refine qc_Vv (st := []) hx hb hml hown hts hK qT_ok hs (c_Md_insideTop (M16.1 8 x3.toNatClampNeg) M16 _ hM19) ⟨(callB_of 1 hts (q_good tw_490) rfl rfl rfl (hts _ tw_459) (hts _ tw_491) (by decide +kernel) ⟨by decide, by decide⟩), (hts _ tw_492), (hts _ tw_493)⟩ (by decide) rfl rfl rfl rfl (Nat.le_of_ble_eq_true rfl) d_Md_clearWay_152 ?_
                  refine qj_aload_n hx hb d_Md_clearWay_155 rfl 0 rfl ?_
                  refine qj_bipush (v := 114) hx hb d_Md_clearWay_156 (by decide) ?_
                  refine qj_iconst (v := 0) hx hb d_Md_clearWay_158 (by decide) ?_
                  have hf9 := q_cl_s hf; clear hf; obtain ⟨x20, M21, hx20, hf⟩ := hf9
                  refine qc_Vi (st := []) hx hb hml hown hts hK qT_ok hs (c_Md_create 114 0 M19 _ hx20) ⟨(callB_of 2 hts (q_good tw_508) rfl rfl rfl (hts _ tw_459) (hts _ tw_509) (by decide +kernel) ⟨by decide, by decide⟩), (hts _ tw_510), (hts _ tw_511)⟩ (by decide) rfl rfl rfl rfl (Nat.le_of_ble_eq_true rfl) d_Md_clearWay_159 ?_
                  refine qj_istore hx hb d_Md_clearWay_162 (by decide) rfl ?_
                  refine qj_aload_n hx hb d_Md_clearWay_164 rfl 1 rfl ?_
                  refine qj_iload hx hb d_Md_clearWay_165 0 rfl ?_
                  have hf9 := q_cv_s hf; clear hf; obtain ⟨M22, hM22, hf⟩ := hf9
                  refine qc_Vv (st := []) hx hb hml hown hts hK qT_ok hs (c_Md_push x20 M21 _ hM22) ⟨(callB_of 1 hts (q_good tw_512) rfl rfl rfl (hts _ tw_459) (hts _ tw_513) (by decide +kernel) ⟨by decide, by decide⟩), (hts _ tw_514), (hts _ tw_515)⟩ (by decide) rfl rfl rfl rfl (Nat.le_of_ble_eq_true rfl) d_Md_clearWay_167 ?_
                  refine qj_goto (tgt := 181) hx hb d_Md_clearWay_170 (by decide) ?_
                  refine qj_sub [1] rfl ?_
                  exact hj7 M22 hf
              refine qj_icmp_le (tgt := 133) hx hb d_Md_clearWay_123 (by decide) (fun hc24 => ?_) (fun hc24 => ?_)
              · replace hf := q_if_t hc24 hf
                refine qj_iload_n hx hb d_Md_clearWay_133 rfl 4 rfl ?_
                refine qj_iconst (v := 1) hx hb d_Md_clearWay_134 (by decide) ?_
                refine qj_iadd hx hb d_Md_clearWay_135 ?_
                refine qj_sub [1, 4, 0] rfl ?_
                exact hj23 (x3 + 1) hf
              · replace hf := q_if_f hc24 hf
                refine qj_iload hx hb d_Md_clearWay_126 0 rfl ?_
                refine qj_iconst (v := 1) hx hb d_Md_clearWay_128 (by decide) ?_
                refine qj_iadd hx hb d_Md_clearWay_129 ?_
                refine qj_goto (tgt := 136) hx hb d_Md_clearWay_130 (by decide) ?_
                refine qj_sub [1, 4, 0] rfl ?_
                exact hj23 (x14 + 1) hf
            · replace hf := q_if_f hc13 hf
              refine qj_iconst (v := 0) hx hb d_Md_clearWay_109 (by decide) ?_
              exact hret _ _ _ _ (Or.inl rfl) d_Md_clearWay_110 (Option.some.inj hf)
        · replace hf := q_if_t hc9 hf
          refine qj_iload_n hx hb d_Md_clearWay_83 rfl 3 rfl ?_
          refine qj_if_ge (tgt := 89) hx hb d_Md_clearWay_84 (by decide) (fun hc25 => ?_) (fun hc25 => ?_)
          · replace hf := q_if_t hc25 hf
            refine qj_aload_n hx hb d_Md_clearWay_89 rfl 0 rfl ?_
            refine qj_iload_n hx hb d_Md_clearWay_90 rfl 3 rfl ?_
            refine qj_iconst (v := 1) hx hb d_Md_clearWay_91 (by decide) ?_
            refine qj_iadd hx hb d_Md_clearWay_92 ?_
            have hf9 := q_lt_s hf; clear hf; obtain ⟨M26, eM26, hf⟩ := hf9
            refine qj_puti (ty := .int) hx hb hts hin_12 ty_12 tyok_12 nm_12 hown hK (by decide) rfl rfl 13 (by decide) (hts _ tw_454) (fun _ h => h) rfl (by decide +kernel) rfl rfl (Nat.le_of_ble_eq_true rfl) sm_13 eM26 d_Md_clearWay_93 ?_
            refine qj_goto (tgt := 181) hx hb d_Md_clearWay_96 (by decide) ?_
            refine qj_sub [0] rfl ?_
            exact hj7 M26 hf
          · replace hf := q_if_f hc25 hf
            refine qj_iconst (v := 0) hx hb d_Md_clearWay_87 (by decide) ?_
            exact hret _ _ _ _ (Or.inl rfl) d_Md_clearWay_88 (Option.some.inj hf)
      · replace hf := q_if_t hc8 hf
        refine qj_aload_n hx hb d_Md_clearWay_53 rfl 0 rfl ?_
        refine qj_bipush (v := 108) hx hb d_Md_clearWay_54 (by decide) ?_
        refine qj_ldc (v := 1048580) hx hb hown (hts _ tw_521) d_Md_clearWay_56 ?_
        have hf9 := q_bp_s hf; clear hf; obtain ⟨x27, hx27, hf⟩ := hf9
        refine qc_Vi (st := []) hx hb hml hown hts hK qT_ok hs (c_Md_reach 108 1048580 M4 _ hx27) ⟨(callB_of 2 hts (q_good tw_522) rfl rfl rfl (hts _ tw_459) (hts _ tw_523) (by decide +kernel) ⟨by decide, by decide⟩), (hts _ tw_524), (hts _ tw_525)⟩ (by decide) rfl rfl rfl rfl (Nat.le_of_ble_eq_true rfl) d_Md_clearWay_58 ?_
        refine qj_if_eq (tgt := 181) hx hb d_Md_clearWay_61 (by decide) (fun hc28 => ?_) (fun hc28 => ?_)
        · replace hf := q_if_t hc28 hf
          refine qj_sub [0] rfl ?_
          exact hj7 M4 hf
        · replace hf := q_if_f hc28 hf
          refine qj_aload_n hx hb d_Md_clearWay_64 rfl 0 rfl ?_
          refine qj_aload_n hx hb d_Md_clearWay_65 rfl 0 rfl ?_
          refine qj_bipush (v := 108) hx hb d_Md_clearWay_66 (by decide) ?_
          have hf9 := q_bp_s hf; clear hf; obtain ⟨x29, hx29, hf⟩ := hf9
          refine qc_Vi (st := [qr (some 0)]) hx hb hml hown hts hK qT_ok hs (c_Md_topmost 108 M4 _ hx29) ⟨(callB_of 1 hts (q_good tw_470) rfl rfl rfl (hts _ tw_459) (hts _ tw_471) (by decide +kernel) ⟨by decide, by decide⟩), (hts _ tw_472), (hts _ tw_473)⟩ (by decide) rfl rfl rfl rfl (Nat.le_of_ble_eq_true rfl) d_Md_clearWay_68 ?_
          have hf9 := q_lt_s hf; clear hf; obtain ⟨M30, eM30, hf⟩ := hf9
          refine qj_puti (ty := .int) hx hb hts hin_12 ty_12 tyok_12 nm_12 hown hK (by decide) rfl rfl 13 (by decide) (hts _ tw_454) (fun _ h => h) rfl (by decide +kernel) rfl rfl (Nat.le_of_ble_eq_true rfl) sm_13 eM30 d_Md_clearWay_71 ?_
          refine qj_goto (tgt := 181) hx hb d_Md_clearWay_74 (by decide) ?_
          refine qj_sub [0] rfl ?_
          exact hj7 M30 hf
    refine qj_if_eq (tgt := 47) hx hb d_Md_clearWay_24 (by decide) (fun hc32 => ?_) (fun hc32 => ?_)
    · replace hf := q_if_t hc32 hf
      refine qj_sub [2, 3, 1, 0] rfl ?_
      exact hj31 M hf
    · replace hf := q_if_f hc32 hf
      refine qj_aload_n hx hb d_Md_clearWay_27 rfl 2 rfl ?_
      refine qj_bipush (v := 112) hx hb d_Md_clearWay_28 (by decide) ?_
      refine qj_iconst (v := 4) hx hb d_Md_clearWay_30 (by decide) ?_
      have hf9 := q_bp_s hf; clear hf; obtain ⟨x33, hx33, hf⟩ := hf9
      refine qc_Vi (st := []) hx hb hml hown hts hK qT_ok hs (c_Md_reach 112 4 M _ hx33) ⟨(callB_of 2 hts (q_good tw_522) rfl rfl rfl (hts _ tw_459) (hts _ tw_523) (by decide +kernel) ⟨by decide, by decide⟩), (hts _ tw_524), (hts _ tw_525)⟩ (by decide) rfl rfl rfl rfl (Nat.le_of_ble_eq_true rfl) d_Md_clearWay_31 ?_
      refine qj_if_eq (tgt := 47) hx hb d_Md_clearWay_34 (by decide) (fun hc34 => ?_) (fun hc34 => ?_)
      · replace hf := q_if_t hc34 hf
        refine qj_sub [2, 3, 1, 0] rfl ?_
        exact hj31 M hf
      · replace hf := q_if_f hc34 hf
        refine qj_aload_n hx hb d_Md_clearWay_37 rfl 2 rfl ?_
        refine qj_aload_n hx hb d_Md_clearWay_38 rfl 2 rfl ?_
        refine qj_bipush (v := 112) hx hb d_Md_clearWay_39 (by decide) ?_
        have hf9 := q_bp_s hf; clear hf; obtain ⟨x35, hx35, hf⟩ := hf9
        refine qc_Vi (st := [qr (some 0)]) hx hb hml hown hts hK qT_ok hs (c_Md_topmost 112 M _ hx35) ⟨(callB_of 1 hts (q_good tw_470) rfl rfl rfl (hts _ tw_459) (hts _ tw_471) (by decide +kernel) ⟨by decide, by decide⟩), (hts _ tw_472), (hts _ tw_473)⟩ (by decide) rfl rfl rfl rfl (Nat.le_of_ble_eq_true rfl) d_Md_clearWay_41 ?_
        have hf9 := q_lt_s hf; clear hf; obtain ⟨M36, eM36, hf⟩ := hf9
        refine qj_puti (ty := .int) hx hb hts hin_12 ty_12 tyok_12 nm_12 hown hK (by decide) rfl rfl 13 (by decide) (hts _ tw_454) (fun _ h => h) rfl (by decide +kernel) rfl rfl (Nat.le_of_ble_eq_true rfl) sm_13 eM36 d_Md_clearWay_44 ?_
        refine qj_sub [2, 3, 1, 0] rfl ?_
        exact hj31 M36 hf
  refine qj_if_eq (tgt := 14) hx hb d_Md_clearWay_7 (by decide) (fun hc38 => ?_) (fun hc38 => ?_)
  · replace hf := q_if_t hc38 hf
    refine qj_iconst (v := 0) hx hb d_Md_clearWay_14 (by decide) ?_
    exact hj37 0 hf
  · replace hf := q_if_f hc38 hf
    refine qj_iconst (v := 1) hx hb d_Md_clearWay_10 (by decide) ?_
    refine qj_goto (tgt := 15) hx hb d_Md_clearWay_11 (by decide) ?_
    exact hj37 1 hf
theorem d_Md_dropEntry_0 : decode prog_14_method_27_code 0 = .ok (.aload_n 0, 1) := by decide +kernel
theorem d_Md_dropEntry_1 : decode prog_14_method_27_code 1 = .ok (.dup, 1) := by decide +kernel
theorem d_Md_dropEntry_2 : decode prog_14_method_27_code 2 = .ok (.getfield 151, 3) := by decide +kernel
theorem d_Md_dropEntry_5 : decode prog_14_method_27_code 5 = .ok (.iconst 1, 1) := by decide +kernel
theorem d_Md_dropEntry_6 : decode prog_14_method_27_code 6 = .ok (.isub, 1) := by decide +kernel
theorem d_Md_dropEntry_7 : decode prog_14_method_27_code 7 = .ok (.putfield 151, 3) := by decide +kernel
theorem d_Md_dropEntry_10 : decode prog_14_method_27_code 10 = .ok (.iload_n 1, 1) := by decide +kernel
theorem d_Md_dropEntry_11 : decode prog_14_method_27_code 11 = .ok (.istore_n 2, 1) := by decide +kernel
theorem d_Md_dropEntry_12 : decode prog_14_method_27_code 12 = .ok (.iload_n 2, 1) := by decide +kernel
theorem d_Md_dropEntry_13 : decode prog_14_method_27_code 13 = .ok (.aload_n 0, 1) := by decide +kernel
theorem d_Md_dropEntry_14 : decode prog_14_method_27_code 14 = .ok (.getfield 151, 3) := by decide +kernel
theorem d_Md_dropEntry_17 : decode prog_14_method_27_code 17 = .ok (.if_icmp .ge 37, 3) := by decide +kernel
theorem d_Md_dropEntry_20 : decode prog_14_method_27_code 20 = .ok (.aload_n 0, 1) := by decide +kernel
theorem d_Md_dropEntry_21 : decode prog_14_method_27_code 21 = .ok (.getfield 34, 3) := by decide +kernel
theorem d_Md_dropEntry_24 : decode prog_14_method_27_code 24 = .ok (.iload_n 2, 1) := by decide +kernel
theorem d_Md_dropEntry_25 : decode prog_14_method_27_code 25 = .ok (.aload_n 0, 1) := by decide +kernel
theorem d_Md_dropEntry_26 : decode prog_14_method_27_code 26 = .ok (.getfield 34, 3) := by decide +kernel
theorem d_Md_dropEntry_29 : decode prog_14_method_27_code 29 = .ok (.iload_n 2, 1) := by decide +kernel
theorem d_Md_dropEntry_30 : decode prog_14_method_27_code 30 = .ok (.iconst 1, 1) := by decide +kernel
theorem d_Md_dropEntry_31 : decode prog_14_method_27_code 31 = .ok (.iadd, 1) := by decide +kernel
theorem d_Md_dropEntry_32 : decode prog_14_method_27_code 32 = .ok (.iaload, 1) := by decide +kernel
theorem d_Md_dropEntry_33 : decode prog_14_method_27_code 33 = .ok (.iastore, 1) := by decide +kernel
theorem d_Md_dropEntry_34 : decode prog_14_method_27_code 34 = .ok (.aload_n 0, 1) := by decide +kernel
theorem d_Md_dropEntry_35 : decode prog_14_method_27_code 35 = .ok (.getfield 37, 3) := by decide +kernel
theorem d_Md_dropEntry_38 : decode prog_14_method_27_code 38 = .ok (.iload_n 2, 1) := by decide +kernel
theorem d_Md_dropEntry_39 : decode prog_14_method_27_code 39 = .ok (.aload_n 0, 1) := by decide +kernel
theorem d_Md_dropEntry_40 : decode prog_14_method_27_code 40 = .ok (.getfield 37, 3) := by decide +kernel
theorem d_Md_dropEntry_43 : decode prog_14_method_27_code 43 = .ok (.iload_n 2, 1) := by decide +kernel
theorem d_Md_dropEntry_44 : decode prog_14_method_27_code 44 = .ok (.iconst 1, 1) := by decide +kernel
theorem d_Md_dropEntry_45 : decode prog_14_method_27_code 45 = .ok (.iadd, 1) := by decide +kernel
theorem d_Md_dropEntry_46 : decode prog_14_method_27_code 46 = .ok (.iaload, 1) := by decide +kernel
theorem d_Md_dropEntry_47 : decode prog_14_method_27_code 47 = .ok (.iastore, 1) := by decide +kernel
theorem d_Md_dropEntry_48 : decode prog_14_method_27_code 48 = .ok (.iinc 2 1, 3) := by decide +kernel
theorem d_Md_dropEntry_51 : decode prog_14_method_27_code 51 = .ok (.goto (-39), 3) := by decide +kernel
theorem d_Md_dropEntry_54 : decode prog_14_method_27_code 54 = .ok (.return_, 1) := by decide +kernel
def f_Md_dropEntry_12  : Nat → (qM → Option qM) → Int32 → qM → Option qM
  | 0, _, _, _ => none
  | n + 1, K4, x2, M3 => if (M3.1 0 16) ≤ x2 then (K4 M3) else (q_ix (x2 + 1) 40 <| q_ix x2 40 <| q_lt (qsI M3 9 x2.toNatClampNeg (M3.1 9 (x2 + 1).toNatClampNeg)) fun M8 => q_ix (x2 + 1) 40 <| q_ix x2 40 <| q_lt (qsI M8 10 x2.toNatClampNeg (M8.1 10 (x2 + 1).toNatClampNeg)) fun M11 => f_Md_dropEntry_12 n K4 (x2 + 1) M11)
def f_Md_dropEntry (a1 : Int32) (M : qM) : Option qM := q_lt (qsI M 0 16 ((M.1 0 16) - 1)) fun M1 => f_Md_dropEntry_12 1000 (fun (M12 : qM) => some M12) a1 M1
abbrev rm_Md_dropEntry : Room := { frames := 0, cells := 0, slots := 0, locals := 0 }
set_option maxRecDepth 100000 in
set_option maxHeartbeats 4000000 in
theorem c_Md_dropEntry {l : Launch} {D : va_G} {dA : Nat → ClassId} {b : Nat} (a1 : Int32)  (M : qM) (out : qM) (hf : f_Md_dropEntry a1 M = some out) : CTv l y_Md_dropEntry w_Md_dropEntry rm_Md_dropEntry D (tysX dA) (enM dA b) 38 b (fun _ => True) [qr (some 0), qi a1] M out := by
  refine qm_v (cc := prog_14_method_27_code) (nL := 3) (by decide) rfl (Nat.le_of_ble_eq_true rfl) ?_
  intro p e s m args below meth c Q hx hb hts0 hown hml hK hs hret
  have hts : ∀ w ∈ lw_g, w.before args s = true := fun w h => hts0 w (List.mem_cons_of_mem _ h)
  show QJ p l e rm_Md_dropEntry s m args below meth c (qA 38 b) b 3 0 0 Q (qWd D (enM dA b) 38 b) M 0 [(0, qr (some 0)), (1, qi a1)] []
  unfold f_Md_dropEntry at hf
  refine qj_aload_n hx hb d_Md_dropEntry_0 rfl 0 rfl ?_
  refine qj_dup hx hb d_Md_dropEntry_1 ?_
  refine qj_get hx hb hts hin_12 hown hK (by decide) rfl rfl 16 (by decide) (hts _ tw_455) (fun _ h => h) (qi (M.1 0 16)) rfl d_Md_dropEntry_2 ?_
  refine qj_iconst (v := 1) hx hb d_Md_dropEntry_5 (by decide) ?_
  refine qj_isub hx hb d_Md_dropEntry_6 ?_
  have hf9 := q_lt_s hf; clear hf; obtain ⟨M1, eM1, hf⟩ := hf9
  refine qj_puti (ty := .int) hx hb hts hin_12 ty_12 tyok_12 nm_12 hown hK (by decide) rfl rfl 16 (by decide) (hts _ tw_455) (fun _ h => h) rfl (by decide +kernel) rfl rfl (Nat.le_of_ble_eq_true rfl) sm_16 eM1 d_Md_dropEntry_7 ?_
  refine qj_iload_n hx hb d_Md_dropEntry_10 rfl 1 rfl ?_
  refine qj_istore_n hx hb d_Md_dropEntry_11 rfl (by decide) rfl ?_
  have hL12 : ∀ (n : Nat) (K4 : qM → Option qM), (∀ (M12 : qM), K4 M12 = some out → QJ p l e rm_Md_dropEntry s m args below meth c (qA 38 b) b 3 0 0 Q (qWd D (enM dA b) 38 b) M12 54 [] []) → ∀ (x2 : Int32) (M3 : qM), f_Md_dropEntry_12 n K4 x2 M3 = some out → QJ p l e rm_Md_dropEntry s m args below meth c (qA 38 b) b 3 0 0 Q (qWd D (enM dA b) 38 b) M3 12 [(0, qr (some 0)), (2, qi x2)] [] := by
    clear hf
    intro n
    induction n with
    | zero =>
      intro K4 hK4 x2 M3 hf
      exact absurd hf (by simp [f_Md_dropEntry_12])
    | succ n ih12 =>
      intro K4 hK4 x2 M3 hf
      rw [f_Md_dropEntry_12] at hf
      have ih12 := ih12 K4 hK4
      refine qj_iload_n hx hb d_Md_dropEntry_12 rfl 1 rfl ?_
      refine qj_aload_n hx hb d_Md_dropEntry_13 rfl 0 rfl ?_
      refine qj_get hx hb hts hin_12 hown hK (by decide) rfl rfl 16 (by decide) (hts _ tw_455) (fun _ h => h) (qi (M3.1 0 16)) rfl d_Md_dropEntry_14 ?_
      refine qj_icmp_ge (tgt := 54) hx hb d_Md_dropEntry_17 (by decide) (fun hc5 => ?_) (fun hc5 => ?_)
      · replace hf := q_if_t hc5 hf
        refine qj_sub [] rfl ?_
        exact hK4 M3 hf
      · replace hf := q_if_f hc5 hf
        refine qj_aload_n hx hb d_Md_dropEntry_20 rfl 0 rfl ?_
        refine qj_get hx hb hts hin_12 hown hK (by decide) rfl rfl 14 (by decide) (hts _ tw_499) (fun _ h => h) (qr (some 9)) rfl d_Md_dropEntry_21 ?_
        refine qj_iload_n hx hb d_Md_dropEntry_24 rfl 1 rfl ?_
        refine qj_aload_n hx hb d_Md_dropEntry_25 rfl 0 rfl ?_
        refine qj_get hx hb hts hin_12 hown hK (by decide) rfl rfl 14 (by decide) (hts _ tw_499) (fun _ h => h) (qr (some 9)) rfl d_Md_dropEntry_26 ?_
        refine qj_iload_n hx hb d_Md_dropEntry_29 rfl 1 rfl ?_
        refine qj_iconst (v := 1) hx hb d_Md_dropEntry_30 (by decide) ?_
        refine qj_iadd hx hb d_Md_dropEntry_31 ?_
        have hf9 := q_ix_s hf; clear hf; obtain ⟨hi6, hf⟩ := hf9
        refine qj_iald (t0 := 0) hx hb hK (by decide) (fun _ _ => rfl) rfl hi6 d_Md_dropEntry_32 ?_
        have hf9 := q_ix_s hf; clear hf; obtain ⟨hi7, hf⟩ := hf9
        have hf9 := q_lt_s hf; clear hf; obtain ⟨M8, eM8, hf⟩ := hf9
        refine qj_iast (t0 := 0) hx hb hK (by decide) (fun _ _ => rfl) rfl hi7 eM8 d_Md_dropEntry_33 ?_
        refine qj_aload_n hx hb d_Md_dropEntry_34 rfl 0 rfl ?_
        refine qj_get hx hb hts hin_12 hown hK (by decide) rfl rfl 15 (by decide) (hts _ tw_498) (fun _ h => h) (qr (some 10)) rfl d_Md_dropEntry_35 ?_
        refine qj_iload_n hx hb d_Md_dropEntry_38 rfl 1 rfl ?_
        refine qj_aload_n hx hb d_Md_dropEntry_39 rfl 0 rfl ?_
        refine qj_get hx hb hts hin_12 hown hK (by decide) rfl rfl 15 (by decide) (hts _ tw_498) (fun _ h => h) (qr (some 10)) rfl d_Md_dropEntry_40 ?_
        refine qj_iload_n hx hb d_Md_dropEntry_43 rfl 1 rfl ?_
        refine qj_iconst (v := 1) hx hb d_Md_dropEntry_44 (by decide) ?_
        refine qj_iadd hx hb d_Md_dropEntry_45 ?_
        have hf9 := q_ix_s hf; clear hf; obtain ⟨hi9, hf⟩ := hf9
        refine qj_iald (t0 := 0) hx hb hK (by decide) (fun _ _ => rfl) rfl hi9 d_Md_dropEntry_46 ?_
        have hf9 := q_ix_s hf; clear hf; obtain ⟨hi10, hf⟩ := hf9
        have hf9 := q_lt_s hf; clear hf; obtain ⟨M11, eM11, hf⟩ := hf9
        refine qj_iast (t0 := 0) hx hb hK (by decide) (fun _ _ => rfl) rfl hi10 eM11 d_Md_dropEntry_47 ?_
        refine qj_iinc (j := 1) (v := x2 + 1) hx hb d_Md_dropEntry_48 rfl rfl (by decide) rfl ?_
        refine qj_goto (tgt := 12) hx hb d_Md_dropEntry_51 (by decide) ?_
        refine qj_sub [1, 0] rfl ?_
        exact ih12 (x2 + 1) M11 hf
  refine qj_sub [1, 0] rfl ?_
  refine hL12 _ _ (fun M12 hf9 => ?_) a1 M1 hf
  clear hf; have hf := hf9; clear hf9
  exact hret _ _ _ d_Md_dropEntry_54 (Option.some.inj hf)
theorem d_Md_list_0 : decode prog_14_method_29_code 0 = .ok (.iconst (-1), 1) := by decide +kernel
theorem d_Md_list_1 : decode prog_14_method_29_code 1 = .ok (.istore_n 3, 1) := by decide +kernel
theorem d_Md_list_2 : decode prog_14_method_29_code 2 = .ok (.iconst 0, 1) := by decide +kernel
theorem d_Md_list_3 : decode prog_14_method_29_code 3 = .ok (.istore 4, 2) := by decide +kernel
theorem d_Md_list_5 : decode prog_14_method_29_code 5 = .ok (.aload_n 0, 1) := by decide +kernel
theorem d_Md_list_6 : decode prog_14_method_29_code 6 = .ok (.getfield 151, 3) := by decide +kernel
theorem d_Md_list_9 : decode prog_14_method_29_code 9 = .ok (.iconst 1, 1) := by decide +kernel
theorem d_Md_list_10 : decode prog_14_method_29_code 10 = .ok (.isub, 1) := by decide +kernel
theorem d_Md_list_11 : decode prog_14_method_29_code 11 = .ok (.istore 5, 2) := by decide +kernel
theorem d_Md_list_13 : decode prog_14_method_29_code 13 = .ok (.iload 5, 2) := by decide +kernel
theorem d_Md_list_15 : decode prog_14_method_29_code 15 = .ok (.ifCond .lt 48, 3) := by decide +kernel
theorem d_Md_list_18 : decode prog_14_method_29_code 18 = .ok (.aload_n 0, 1) := by decide +kernel
theorem d_Md_list_19 : decode prog_14_method_29_code 19 = .ok (.getfield 37, 3) := by decide +kernel
theorem d_Md_list_22 : decode prog_14_method_29_code 22 = .ok (.iload 5, 2) := by decide +kernel
theorem d_Md_list_24 : decode prog_14_method_29_code 24 = .ok (.iaload, 1) := by decide +kernel
theorem d_Md_list_25 : decode prog_14_method_29_code 25 = .ok (.iload_n 2, 1) := by decide +kernel
theorem d_Md_list_26 : decode prog_14_method_29_code 26 = .ok (.if_icmp .ne 8, 3) := by decide +kernel
theorem d_Md_list_29 : decode prog_14_method_29_code 29 = .ok (.iload 5, 2) := by decide +kernel
theorem d_Md_list_31 : decode prog_14_method_29_code 31 = .ok (.goto 4, 3) := by decide +kernel
theorem d_Md_list_34 : decode prog_14_method_29_code 34 = .ok (.iload_n 3, 1) := by decide +kernel
theorem d_Md_list_35 : decode prog_14_method_29_code 35 = .ok (.istore_n 3, 1) := by decide +kernel
theorem d_Md_list_36 : decode prog_14_method_29_code 36 = .ok (.iload 4, 2) := by decide +kernel
theorem d_Md_list_38 : decode prog_14_method_29_code 38 = .ok (.aload_n 0, 1) := by decide +kernel
theorem d_Md_list_39 : decode prog_14_method_29_code 39 = .ok (.getfield 37, 3) := by decide +kernel
theorem d_Md_list_42 : decode prog_14_method_29_code 42 = .ok (.iload 5, 2) := by decide +kernel
theorem d_Md_list_44 : decode prog_14_method_29_code 44 = .ok (.iaload, 1) := by decide +kernel
theorem d_Md_list_45 : decode prog_14_method_29_code 45 = .ok (.iload_n 2, 1) := by decide +kernel
theorem d_Md_list_46 : decode prog_14_method_29_code 46 = .ok (.if_icmp .ne 7, 3) := by decide +kernel
theorem d_Md_list_49 : decode prog_14_method_29_code 49 = .ok (.iconst 1, 1) := by decide +kernel
theorem d_Md_list_50 : decode prog_14_method_29_code 50 = .ok (.goto 4, 3) := by decide +kernel
theorem d_Md_list_53 : decode prog_14_method_29_code 53 = .ok (.iconst 0, 1) := by decide +kernel
theorem d_Md_list_54 : decode prog_14_method_29_code 54 = .ok (.iadd, 1) := by decide +kernel
theorem d_Md_list_55 : decode prog_14_method_29_code 55 = .ok (.istore 4, 2) := by decide +kernel
theorem d_Md_list_57 : decode prog_14_method_29_code 57 = .ok (.iinc 5 (-1), 3) := by decide +kernel
theorem d_Md_list_60 : decode prog_14_method_29_code 60 = .ok (.goto (-47), 3) := by decide +kernel
theorem d_Md_list_63 : decode prog_14_method_29_code 63 = .ok (.iload 4, 2) := by decide +kernel
theorem d_Md_list_65 : decode prog_14_method_29_code 65 = .ok (.iconst 4, 1) := by decide +kernel
theorem d_Md_list_66 : decode prog_14_method_29_code 66 = .ok (.if_icmp .ne 8, 3) := by decide +kernel
theorem d_Md_list_69 : decode prog_14_method_29_code 69 = .ok (.aload_n 0, 1) := by decide +kernel
theorem d_Md_list_70 : decode prog_14_method_29_code 70 = .ok (.iload_n 3, 1) := by decide +kernel
theorem d_Md_list_71 : decode prog_14_method_29_code 71 = .ok (.invokevirtual 243, 3) := by decide +kernel
theorem d_Md_list_74 : decode prog_14_method_29_code 74 = .ok (.aload_n 0, 1) := by decide +kernel
theorem d_Md_list_75 : decode prog_14_method_29_code 75 = .ok (.getfield 34, 3) := by decide +kernel
theorem d_Md_list_78 : decode prog_14_method_29_code 78 = .ok (.aload_n 0, 1) := by decide +kernel
theorem d_Md_list_79 : decode prog_14_method_29_code 79 = .ok (.getfield 151, 3) := by decide +kernel
theorem d_Md_list_82 : decode prog_14_method_29_code 82 = .ok (.iload_n 1, 1) := by decide +kernel
theorem d_Md_list_83 : decode prog_14_method_29_code 83 = .ok (.iastore, 1) := by decide +kernel
theorem d_Md_list_84 : decode prog_14_method_29_code 84 = .ok (.aload_n 0, 1) := by decide +kernel
theorem d_Md_list_85 : decode prog_14_method_29_code 85 = .ok (.getfield 37, 3) := by decide +kernel
theorem d_Md_list_88 : decode prog_14_method_29_code 88 = .ok (.aload_n 0, 1) := by decide +kernel
theorem d_Md_list_89 : decode prog_14_method_29_code 89 = .ok (.getfield 151, 3) := by decide +kernel
theorem d_Md_list_92 : decode prog_14_method_29_code 92 = .ok (.iload_n 2, 1) := by decide +kernel
theorem d_Md_list_93 : decode prog_14_method_29_code 93 = .ok (.iastore, 1) := by decide +kernel
theorem d_Md_list_94 : decode prog_14_method_29_code 94 = .ok (.aload_n 0, 1) := by decide +kernel
theorem d_Md_list_95 : decode prog_14_method_29_code 95 = .ok (.dup, 1) := by decide +kernel
theorem d_Md_list_96 : decode prog_14_method_29_code 96 = .ok (.getfield 151, 3) := by decide +kernel
theorem d_Md_list_99 : decode prog_14_method_29_code 99 = .ok (.iconst 1, 1) := by decide +kernel
theorem d_Md_list_100 : decode prog_14_method_29_code 100 = .ok (.iadd, 1) := by decide +kernel
theorem d_Md_list_101 : decode prog_14_method_29_code 101 = .ok (.putfield 151, 3) := by decide +kernel
theorem d_Md_list_104 : decode prog_14_method_29_code 104 = .ok (.return_, 1) := by decide +kernel
def f_Md_list_13 (M : qM) (a2 : Int32) : Nat → (Int32 → Int32 → Option qM) → Int32 → Int32 → Int32 → Option qM
  | 0, _, _, _, _ => none
  | n + 1, K4, x1, x2, x3 => if x3 < 0 then (K4 x1 x2) else (q_ix x3 40 <| q_lt (fun (x7 : Int32) => q_ix x3 40 <| if (M.1 10 x3.toNatClampNeg) = a2 then (f_Md_list_13 M a2 n K4 x7 (x2 + 1) (x3 + (-1))) else (f_Md_list_13 M a2 n K4 x7 (x2 + 0) (x3 + (-1)))) fun (j10 : Int32 → Option qM) => if (M.1 10 x3.toNatClampNeg) = a2 then (j10 x3) else (j10 x1))
def f_Md_list (a1 : Int32) (a2 : Int32) (M : qM) : Option qM := f_Md_list_13 M a2 1000 (fun (x12 : Int32) (x13 : Int32) => q_lt (fun (M14 : qM) => q_ix (M14.1 0 16) 40 <| q_lt (qsI M14 9 (M14.1 0 16).toNatClampNeg a1) fun M16 => q_ix (M16.1 0 16) 40 <| q_lt (qsI M16 10 (M16.1 0 16).toNatClampNeg a2) fun M18 => q_lt (qsI M18 0 16 ((M18.1 0 16) + 1)) fun M19 => some M19) fun (j20 : qM → Option qM) => if x13 = 4 then (q_cv (f_Md_dropEntry x12 M) fun M22 => j20 M22) else (j20 M)) (-1) 0 ((M.1 0 16) - 1)
abbrev rm_Md_list : Room := { frames := 1, cells := 0, slots := 0, locals := 22 }
set_option maxRecDepth 100000 in
set_option maxHeartbeats 4000000 in
theorem c_Md_list {l : Launch} {D : va_G} {dA : Nat → ClassId} {b : Nat} (a1 : Int32) (a2 : Int32)  (M : qM) (out : qM) (hf : f_Md_list a1 a2 M = some out) : CTv l y_Md_list w_Md_list rm_Md_list D (tysX dA) (enM dA b) 38 b (fun _ => True) [qr (some 0), qi a1, qi a2] M out := by
  refine qm_v (cc := prog_14_method_29_code) (nL := 6) (by decide) rfl (Nat.le_of_ble_eq_true rfl) ?_
  intro p e s m args below meth c Q hx hb hts0 hown hml hK hs hret
  have hts : ∀ w ∈ lw_g, w.before args s = true := fun w h => hts0 w (List.mem_cons_of_mem _ h)
  show QJ p l e rm_Md_list s m args below meth c (qA 38 b) b 6 0 0 Q (qWd D (enM dA b) 38 b) M 0 [(0, qr (some 0)), (1, qi a1), (2, qi a2)] []
  unfold f_Md_list at hf
  refine qj_iconst (v := (-1)) hx hb d_Md_list_0 (by decide) ?_
  refine qj_istore_n hx hb d_Md_list_1 rfl (by decide) rfl ?_
  refine qj_iconst (v := 0) hx hb d_Md_list_2 (by decide) ?_
  refine qj_istore hx hb d_Md_list_3 (by decide) rfl ?_
  refine qj_aload_n hx hb d_Md_list_5 rfl 2 rfl ?_
  refine qj_get hx hb hts hin_12 hown hK (by decide) rfl rfl 16 (by decide) (hts _ tw_455) (fun _ h => h) (qi (M.1 0 16)) rfl d_Md_list_6 ?_
  refine qj_iconst (v := 1) hx hb d_Md_list_9 (by decide) ?_
  refine qj_isub hx hb d_Md_list_10 ?_
  refine qj_istore hx hb d_Md_list_11 (by decide) rfl ?_
  have hL13 : ∀ (n : Nat) (K4 : Int32 → Int32 → Option qM), (∀ (x12 : Int32) (x13 : Int32), K4 x12 x13 = some out → QJ p l e rm_Md_list s m args below meth c (qA 38 b) b 6 0 0 Q (qWd D (enM dA b) 38 b) M 63 [(0, qr (some 0)), (1, qi a1), (2, qi a2), (3, qi x12), (4, qi x13)] []) → ∀ (x1 : Int32) (x2 : Int32) (x3 : Int32), f_Md_list_13 M a2 n K4 x1 x2 x3 = some out → QJ p l e rm_Md_list s m args below meth c (qA 38 b) b 6 0 0 Q (qWd D (enM dA b) 38 b) M 13 [(0, qr (some 0)), (1, qi a1), (2, qi a2), (3, qi x1), (4, qi x2), (5, qi x3)] [] := by
    clear hf
    intro n
    induction n with
    | zero =>
      intro K4 hK4 x1 x2 x3 hf
      exact absurd hf (by simp [f_Md_list_13])
    | succ n ih13 =>
      intro K4 hK4 x1 x2 x3 hf
      rw [f_Md_list_13] at hf
      have ih13 := ih13 K4 hK4
      refine qj_iload hx hb d_Md_list_13 5 rfl ?_
      refine qj_if_lt (tgt := 63) hx hb d_Md_list_15 (by decide) (fun hc5 => ?_) (fun hc5 => ?_)
      · replace hf := q_if_t hc5 hf
        refine qj_sub [0, 1, 2, 3, 4] rfl ?_
        exact hK4 x1 x2 hf
      · replace hf := q_if_f hc5 hf
        refine qj_aload_n hx hb d_Md_list_18 rfl 0 rfl ?_
        refine qj_get hx hb hts hin_12 hown hK (by decide) rfl rfl 15 (by decide) (hts _ tw_498) (fun _ h => h) (qr (some 10)) rfl d_Md_list_19 ?_
        refine qj_iload hx hb d_Md_list_22 5 rfl ?_
        have hf9 := q_ix_s hf; clear hf; obtain ⟨hi6, hf⟩ := hf9
        refine qj_iald (t0 := 0) hx hb hK (by decide) (fun _ _ => rfl) rfl hi6 d_Md_list_24 ?_
        refine qj_iload_n hx hb d_Md_list_25 rfl 2 rfl ?_
        have hf9 := q_lt_s hf; clear hf; obtain ⟨j10, ej10, hf⟩ := hf9
        have hj10 : ∀ (x7 : Int32), j10 x7 = some out → QJ p l e rm_Md_list s m args below meth c (qA 38 b) b 6 0 0 Q (qWd D (enM dA b) 38 b) M 35 [(0, qr (some 0)), (1, qi a1), (2, qi a2), (4, qi x2), (5, qi x3)] [qi x7] := by
          clear hf
          intro x7 hf
          rw [ej10] at hf
          refine qj_istore_n hx hb d_Md_list_35 rfl (by decide) rfl ?_
          refine qj_iload hx hb d_Md_list_36 4 rfl ?_
          refine qj_aload_n hx hb d_Md_list_38 rfl 1 rfl ?_
          refine qj_get hx hb hts hin_12 hown hK (by decide) rfl rfl 15 (by decide) (hts _ tw_498) (fun _ h => h) (qr (some 10)) rfl d_Md_list_39 ?_
          refine qj_iload hx hb d_Md_list_42 5 rfl ?_
          have hf9 := q_ix_s hf; clear hf; obtain ⟨hi8, hf⟩ := hf9
          refine qj_iald (t0 := 0) hx hb hK (by decide) (fun _ _ => rfl) rfl hi8 d_Md_list_44 ?_
          refine qj_iload_n hx hb d_Md_list_45 rfl 3 rfl ?_
          refine qj_icmp_ne (tgt := 53) hx hb d_Md_list_46 (by decide) (fun hc9 => ?_) (fun hc9 => ?_)
          · replace hf := q_if_f hc9 hf
            refine qj_iconst (v := 0) hx hb d_Md_list_53 (by decide) ?_
            refine qj_iadd hx hb d_Md_list_54 ?_
            refine qj_istore hx hb d_Md_list_55 (by decide) rfl ?_
            refine qj_iinc (j := 5) (v := x3 + (-1)) hx hb d_Md_list_57 rfl rfl (by decide) rfl ?_
            refine qj_goto (tgt := 13) hx hb d_Md_list_60 (by decide) ?_
            refine qj_sub [3, 4, 5, 2, 1, 0] rfl ?_
            exact ih13 x7 (x2 + 0) (x3 + (-1)) hf
          · replace hf := q_if_t hc9 hf
            refine qj_iconst (v := 1) hx hb d_Md_list_49 (by decide) ?_
            refine qj_goto (tgt := 54) hx hb d_Md_list_50 (by decide) ?_
            refine qj_iadd hx hb d_Md_list_54 ?_
            refine qj_istore hx hb d_Md_list_55 (by decide) rfl ?_
            refine qj_iinc (j := 5) (v := x3 + (-1)) hx hb d_Md_list_57 rfl rfl (by decide) rfl ?_
            refine qj_goto (tgt := 13) hx hb d_Md_list_60 (by decide) ?_
            refine qj_sub [3, 4, 5, 2, 1, 0] rfl ?_
            exact ih13 x7 (x2 + 1) (x3 + (-1)) hf
        refine qj_icmp_ne (tgt := 34) hx hb d_Md_list_26 (by decide) (fun hc11 => ?_) (fun hc11 => ?_)
        · replace hf := q_if_f hc11 hf
          refine qj_iload_n hx hb d_Md_list_34 rfl 3 rfl ?_
          refine qj_sub [0, 1, 2, 4, 5] rfl ?_
          exact hj10 x1 hf
        · replace hf := q_if_t hc11 hf
          refine qj_iload hx hb d_Md_list_29 5 rfl ?_
          refine qj_goto (tgt := 35) hx hb d_Md_list_31 (by decide) ?_
          refine qj_sub [0, 1, 2, 4, 5] rfl ?_
          exact hj10 x3 hf
  refine qj_sub [3, 4, 5, 2, 1, 0] rfl ?_
  refine hL13 _ _ (fun x12 x13 hf9 => ?_) (-1) 0 ((M.1 0 16) - 1) hf
  clear hf; have hf := hf9; clear hf9
  refine qj_iload hx hb d_Md_list_63 4 rfl ?_
  refine qj_iconst (v := 4) hx hb d_Md_list_65 (by decide) ?_
  have hf9 := q_lt_s hf; clear hf; obtain ⟨j20, ej20, hf⟩ := hf9
  have hj20 : ∀ (M14 : qM), j20 M14 = some out → QJ p l e rm_Md_list s m args below meth c (qA 38 b) b 6 0 0 Q (qWd D (enM dA b) 38 b) M14 74 [(0, qr (some 0)), (1, qi a1), (2, qi a2)] [] := by
    clear hf
    intro M14 hf
    rw [ej20] at hf
    refine qj_aload_n hx hb d_Md_list_74 rfl 0 rfl ?_
    refine qj_get hx hb hts hin_12 hown hK (by decide) rfl rfl 14 (by decide) (hts _ tw_499) (fun _ h => h) (qr (some 9)) rfl d_Md_list_75 ?_
    refine qj_aload_n hx hb d_Md_list_78 rfl 0 rfl ?_
    refine qj_get hx hb hts hin_12 hown hK (by decide) rfl rfl 16 (by decide) (hts _ tw_455) (fun _ h => h) (qi (M14.1 0 16)) rfl d_Md_list_79 ?_
    refine qj_iload_n hx hb d_Md_list_82 rfl 1 rfl ?_
    have hf9 := q_ix_s hf; clear hf; obtain ⟨hi15, hf⟩ := hf9
    have hf9 := q_lt_s hf; clear hf; obtain ⟨M16, eM16, hf⟩ := hf9
    refine qj_iast (t0 := 0) hx hb hK (by decide) (fun _ _ => rfl) rfl hi15 eM16 d_Md_list_83 ?_
    refine qj_aload_n hx hb d_Md_list_84 rfl 0 rfl ?_
    refine qj_get hx hb hts hin_12 hown hK (by decide) rfl rfl 15 (by decide) (hts _ tw_498) (fun _ h => h) (qr (some 10)) rfl d_Md_list_85 ?_
    refine qj_aload_n hx hb d_Md_list_88 rfl 0 rfl ?_
    refine qj_get hx hb hts hin_12 hown hK (by decide) rfl rfl 16 (by decide) (hts _ tw_455) (fun _ h => h) (qi (M16.1 0 16)) rfl d_Md_list_89 ?_
    refine qj_iload_n hx hb d_Md_list_92 rfl 2 rfl ?_
    have hf9 := q_ix_s hf; clear hf; obtain ⟨hi17, hf⟩ := hf9
    have hf9 := q_lt_s hf; clear hf; obtain ⟨M18, eM18, hf⟩ := hf9
    refine qj_iast (t0 := 0) hx hb hK (by decide) (fun _ _ => rfl) rfl hi17 eM18 d_Md_list_93 ?_
    refine qj_aload_n hx hb d_Md_list_94 rfl 0 rfl ?_
    refine qj_dup hx hb d_Md_list_95 ?_
    refine qj_get hx hb hts hin_12 hown hK (by decide) rfl rfl 16 (by decide) (hts _ tw_455) (fun _ h => h) (qi (M18.1 0 16)) rfl d_Md_list_96 ?_
    refine qj_iconst (v := 1) hx hb d_Md_list_99 (by decide) ?_
    refine qj_iadd hx hb d_Md_list_100 ?_
    have hf9 := q_lt_s hf; clear hf; obtain ⟨M19, eM19, hf⟩ := hf9
    refine qj_puti (ty := .int) hx hb hts hin_12 ty_12 tyok_12 nm_12 hown hK (by decide) rfl rfl 16 (by decide) (hts _ tw_455) (fun _ h => h) rfl (by decide +kernel) rfl rfl (Nat.le_of_ble_eq_true rfl) sm_16 eM19 d_Md_list_101 ?_
    exact hret _ _ _ d_Md_list_104 (Option.some.inj hf)
  refine qj_icmp_ne (tgt := 74) hx hb d_Md_list_66 (by decide) (fun hc21 => ?_) (fun hc21 => ?_)
  · replace hf := q_if_f hc21 hf
    refine qj_sub [0, 1, 2] rfl ?_
    exact hj20 M hf
  · replace hf := q_if_t hc21 hf
    refine qj_aload_n hx hb d_Md_list_69 rfl 0 rfl ?_
    refine qj_iload_n hx hb d_Md_list_70 rfl 3 rfl ?_
    have hf9 := q_cv_s hf; clear hf; obtain ⟨M22, hM22, hf⟩ := hf9
    refine qc_Vv (st := []) hx hb hml hown hts hK qT_ok hs (c_Md_dropEntry x12 M _ hM22) ⟨(callB_of 1 hts (q_good tw_526) rfl rfl rfl (hts _ tw_459) (hts _ tw_527) (by decide +kernel) ⟨by decide, by decide⟩), (hts _ tw_528), (hts _ tw_529)⟩ (by decide) rfl rfl rfl rfl (Nat.le_of_ble_eq_true rfl) d_Md_list_71 ?_
    refine qj_sub [0, 1, 2] rfl ?_
    exact hj20 M22 hf
theorem d_Md_start_0 : decode prog_14_method_30_code 0 = .ok (.aload_n 0, 1) := by decide +kernel
theorem d_Md_start_1 : decode prog_14_method_30_code 1 = .ok (.iload_n 1, 1) := by decide +kernel
theorem d_Md_start_2 : decode prog_14_method_30_code 2 = .ok (.invokevirtual 246, 3) := by decide +kernel
theorem d_Md_start_5 : decode prog_14_method_30_code 5 = .ok (.ifCond .ne 4, 3) := by decide +kernel
theorem d_Md_start_8 : decode prog_14_method_30_code 8 = .ok (.return_, 1) := by decide +kernel
theorem d_Md_start_9 : decode prog_14_method_30_code 9 = .ok (.iload_n 1, 1) := by decide +kernel
theorem d_Md_start_10 : decode prog_14_method_30_code 10 = .ok (.bipush 114, 2) := by decide +kernel
theorem d_Md_start_12 : decode prog_14_method_30_code 12 = .ok (.if_icmp .eq 9, 3) := by decide +kernel
theorem d_Md_start_15 : decode prog_14_method_30_code 15 = .ok (.iload_n 1, 1) := by decide +kernel
theorem d_Md_start_16 : decode prog_14_method_30_code 16 = .ok (.bipush 99, 2) := by decide +kernel
theorem d_Md_start_18 : decode prog_14_method_30_code 18 = .ok (.if_icmp .ne 21, 3) := by decide +kernel
theorem d_Md_start_21 : decode prog_14_method_30_code 21 = .ok (.aload_n 0, 1) := by decide +kernel
theorem d_Md_start_22 : decode prog_14_method_30_code 22 = .ok (.aload_n 0, 1) := by decide +kernel
theorem d_Md_start_23 : decode prog_14_method_30_code 23 = .ok (.getfield 31, 3) := by decide +kernel
theorem d_Md_start_26 : decode prog_14_method_30_code 26 = .ok (.aload_n 0, 1) := by decide +kernel
theorem d_Md_start_27 : decode prog_14_method_30_code 27 = .ok (.getfield 148, 3) := by decide +kernel
theorem d_Md_start_30 : decode prog_14_method_30_code 30 = .ok (.iconst 1, 1) := by decide +kernel
theorem d_Md_start_31 : decode prog_14_method_30_code 31 = .ok (.isub, 1) := by decide +kernel
theorem d_Md_start_32 : decode prog_14_method_30_code 32 = .ok (.iaload, 1) := by decide +kernel
theorem d_Md_start_33 : decode prog_14_method_30_code 33 = .ok (.invokevirtual 216, 3) := by decide +kernel
theorem d_Md_start_36 : decode prog_14_method_30_code 36 = .ok (.goto 11, 3) := by decide +kernel
theorem d_Md_start_39 : decode prog_14_method_30_code 39 = .ok (.aload_n 0, 1) := by decide +kernel
theorem d_Md_start_40 : decode prog_14_method_30_code 40 = .ok (.aload_n 0, 1) := by decide +kernel
theorem d_Md_start_41 : decode prog_14_method_30_code 41 = .ok (.getfield 148, 3) := by decide +kernel
theorem d_Md_start_44 : decode prog_14_method_30_code 44 = .ok (.invokevirtual 226, 3) := by decide +kernel
theorem d_Md_start_47 : decode prog_14_method_30_code 47 = .ok (.aload_n 0, 1) := by decide +kernel
theorem d_Md_start_48 : decode prog_14_method_30_code 48 = .ok (.invokevirtual 219, 3) := by decide +kernel
theorem d_Md_start_51 : decode prog_14_method_30_code 51 = .ok (.istore_n 3, 1) := by decide +kernel
theorem d_Md_start_52 : decode prog_14_method_30_code 52 = .ok (.aload_n 0, 1) := by decide +kernel
theorem d_Md_start_53 : decode prog_14_method_30_code 53 = .ok (.iload_n 1, 1) := by decide +kernel
theorem d_Md_start_54 : decode prog_14_method_30_code 54 = .ok (.iload_n 2, 1) := by decide +kernel
theorem d_Md_start_55 : decode prog_14_method_30_code 55 = .ok (.invokevirtual 229, 3) := by decide +kernel
theorem d_Md_start_58 : decode prog_14_method_30_code 58 = .ok (.istore 4, 2) := by decide +kernel
theorem d_Md_start_60 : decode prog_14_method_30_code 60 = .ok (.aload_n 0, 1) := by decide +kernel
theorem d_Md_start_61 : decode prog_14_method_30_code 61 = .ok (.getfield 129, 3) := by decide +kernel
theorem d_Md_start_64 : decode prog_14_method_30_code 64 = .ok (.ifCond .eq 4, 3) := by decide +kernel
theorem d_Md_start_67 : decode prog_14_method_30_code 67 = .ok (.return_, 1) := by decide +kernel
theorem d_Md_start_68 : decode prog_14_method_30_code 68 = .ok (.iload_n 1, 1) := by decide +kernel
theorem d_Md_start_69 : decode prog_14_method_30_code 69 = .ok (.bipush 104, 2) := by decide +kernel
theorem d_Md_start_71 : decode prog_14_method_30_code 71 = .ok (.if_icmp .eq 15, 3) := by decide +kernel
theorem d_Md_start_74 : decode prog_14_method_30_code 74 = .ok (.iload_n 1, 1) := by decide +kernel
theorem d_Md_start_75 : decode prog_14_method_30_code 75 = .ok (.bipush 107, 2) := by decide +kernel
theorem d_Md_start_77 : decode prog_14_method_30_code 77 = .ok (.if_icmp .eq 9, 3) := by decide +kernel
theorem d_Md_start_80 : decode prog_14_method_30_code 80 = .ok (.aload_n 0, 1) := by decide +kernel
theorem d_Md_start_81 : decode prog_14_method_30_code 81 = .ok (.iload 4, 2) := by decide +kernel
theorem d_Md_start_83 : decode prog_14_method_30_code 83 = .ok (.invokevirtual 232, 3) := by decide +kernel
theorem d_Md_start_86 : decode prog_14_method_30_code 86 = .ok (.iload_n 1, 1) := by decide +kernel
theorem d_Md_start_87 : decode prog_14_method_30_code 87 = .ok (.invokestatic 189, 3) := by decide +kernel
theorem d_Md_start_90 : decode prog_14_method_30_code 90 = .ok (.ldc 249, 2) := by decide +kernel
theorem d_Md_start_92 : decode prog_14_method_30_code 92 = .ok (.iand, 1) := by decide +kernel
theorem d_Md_start_93 : decode prog_14_method_30_code 93 = .ok (.ifCond .eq 10, 3) := by decide +kernel
theorem d_Md_start_96 : decode prog_14_method_30_code 96 = .ok (.aload_n 0, 1) := by decide +kernel
theorem d_Md_start_97 : decode prog_14_method_30_code 97 = .ok (.iload 4, 2) := by decide +kernel
theorem d_Md_start_99 : decode prog_14_method_30_code 99 = .ok (.iload_n 3, 1) := by decide +kernel
theorem d_Md_start_100 : decode prog_14_method_30_code 100 = .ok (.invokevirtual 250, 3) := by decide +kernel
theorem d_Md_start_103 : decode prog_14_method_30_code 103 = .ok (.return_, 1) := by decide +kernel
def f_Md_start (a1 : Int32) (a2 : Int32) (M : qM) : Option qM := q_cl (f_Md_clearWay a1 M) fun x1 M2 => if x1 = 0 then (some M2) else (q_lt (fun (M4 : qM) => q_bp (f_Md_listOwner M4) fun x5 => q_cl (f_Md_create a1 a2 M4) fun x6 M7 => if (M7.1 0 4) = 0 then (q_lt (fun (M9 : qM) => q_bp (f_Md_bit a1 M9) fun x10 => if (x10 &&& 262402) = 0 then (some M9) else (q_cv (f_Md_list x6 x5 M9) fun M12 => some M12)) fun (j13 : qM → Option qM) => if a1 = 104 then (j13 M7) else (if a1 = 107 then (j13 M7) else (q_cv (f_Md_push x6 M7) fun M16 => j13 M16))) else (some M7)) fun (j17 : qM → Option qM) => q_lt (q_ix ((M2.1 0 13) - 1) 40 <| q_cv (f_Md_insideTop (M2.1 8 ((M2.1 0 13) - 1).toNatClampNeg) M2) fun M19 => j17 M19) fun (j20 : Option qM) => if a1 = 114 then (j20) else (if a1 = 99 then (j20) else (q_cv (f_Md_findPlace (M2.1 0 13) M2) fun M23 => j17 M23)))
abbrev rm_Md_start : Room := { frames := 6, cells := 0, slots := 0, locals := 135 }
set_option maxRecDepth 100000 in
set_option maxHeartbeats 4000000 in
theorem c_Md_start {l : Launch} {D : va_G} {dA : Nat → ClassId} {b : Nat} (a1 : Int32) (a2 : Int32)  (M : qM) (out : qM) (hf : f_Md_start a1 a2 M = some out) : CTv l y_Md_start w_Md_start rm_Md_start D (tysX dA) (enM dA b) 38 b (fun _ => True) [qr (some 0), qi a1, qi a2] M out := by
  refine qm_v (cc := prog_14_method_30_code) (nL := 5) (by decide) rfl (Nat.le_of_ble_eq_true rfl) ?_
  intro p e s m args below meth c Q hx hb hts0 hown hml hK hs hret
  have hts : ∀ w ∈ lw_g, w.before args s = true := fun w h => hts0 w (List.mem_cons_of_mem _ h)
  show QJ p l e rm_Md_start s m args below meth c (qA 38 b) b 5 0 0 Q (qWd D (enM dA b) 38 b) M 0 [(0, qr (some 0)), (1, qi a1), (2, qi a2)] []
  unfold f_Md_start at hf
  refine qj_aload_n hx hb d_Md_start_0 rfl 0 rfl ?_
  refine qj_iload_n hx hb d_Md_start_1 rfl 1 rfl ?_
  have hf9 := q_cl_s hf; clear hf; obtain ⟨x1, M2, hx1, hf⟩ := hf9
  refine qc_Vi (st := []) hx hb hml hown hts hK qT_ok hs (c_Md_clearWay a1 M _ hx1) ⟨(callB_of 1 hts (q_good tw_530) rfl rfl rfl (hts _ tw_459) (hts _ tw_531) (by decide +kernel) ⟨by decide, by decide⟩), (hts _ tw_532), (hts _ tw_533)⟩ (by decide) rfl rfl rfl rfl (Nat.le_of_ble_eq_true rfl) d_Md_start_2 ?_
  refine qj_if_ne (tgt := 9) hx hb d_Md_start_5 (by decide) (fun hc3 => ?_) (fun hc3 => ?_)
  · replace hf := q_if_f hc3 hf
    refine qj_iload_n hx hb d_Md_start_9 rfl 1 rfl ?_
    refine qj_bipush (v := 114) hx hb d_Md_start_10 (by decide) ?_
    have hf9 := q_lt_s hf; clear hf; obtain ⟨j17, ej17, hf⟩ := hf9
    have hj17 : ∀ (M4 : qM), j17 M4 = some out → QJ p l e rm_Md_start s m args below meth c (qA 38 b) b 5 0 0 Q (qWd D (enM dA b) 38 b) M4 47 [(0, qr (some 0)), (1, qi a1), (2, qi a2)] [] := by
      clear hf
      intro M4 hf
      rw [ej17] at hf
      refine qj_aload_n hx hb d_Md_start_47 rfl 0 rfl ?_
      have hf9 := q_bp_s hf; clear hf; obtain ⟨x5, hx5, hf⟩ := hf9
      refine qc_Vi (st := []) hx hb hml hown hts hK qT_ok hs (c_Md_listOwner  M4 _ hx5) ⟨(callB_of 0 hts (q_good tw_494) rfl rfl rfl (hts _ tw_459) (hts _ tw_495) (by decide +kernel) ⟨by decide, by decide⟩), (hts _ tw_496), (hts _ tw_497)⟩ (by decide) rfl rfl rfl rfl (Nat.le_of_ble_eq_true rfl) d_Md_start_48 ?_
      refine qj_istore_n hx hb d_Md_start_51 rfl (by decide) rfl ?_
      refine qj_aload_n hx hb d_Md_start_52 rfl 1 rfl ?_
      refine qj_iload_n hx hb d_Md_start_53 rfl 2 rfl ?_
      refine qj_iload_n hx hb d_Md_start_54 rfl 3 rfl ?_
      have hf9 := q_cl_s hf; clear hf; obtain ⟨x6, M7, hx6, hf⟩ := hf9
      refine qc_Vi (st := []) hx hb hml hown hts hK qT_ok hs (c_Md_create a1 a2 M4 _ hx6) ⟨(callB_of 2 hts (q_good tw_508) rfl rfl rfl (hts _ tw_459) (hts _ tw_509) (by decide +kernel) ⟨by decide, by decide⟩), (hts _ tw_510), (hts _ tw_511)⟩ (by decide) rfl rfl rfl rfl (Nat.le_of_ble_eq_true rfl) d_Md_start_55 ?_
      refine qj_istore hx hb d_Md_start_58 (by decide) rfl ?_
      refine qj_aload_n hx hb d_Md_start_60 rfl 2 rfl ?_
      refine qj_get hx hb hts hin_12 hown hK (by decide) rfl rfl 4 (by decide) (hts _ tw_446) (fun _ h => h) (qi (M7.1 0 4)) rfl d_Md_start_61 ?_
      refine qj_if_eq (tgt := 68) hx hb d_Md_start_64 (by decide) (fun hc8 => ?_) (fun hc8 => ?_)
      · replace hf := q_if_t hc8 hf
        refine qj_iload_n hx hb d_Md_start_68 rfl 3 rfl ?_
        refine qj_bipush (v := 104) hx hb d_Md_start_69 (by decide) ?_
        have hf9 := q_lt_s hf; clear hf; obtain ⟨j13, ej13, hf⟩ := hf9
        have hj13 : ∀ (M9 : qM), j13 M9 = some out → QJ p l e rm_Md_start s m args below meth c (qA 38 b) b 5 0 0 Q (qWd D (enM dA b) 38 b) M9 86 [(0, qr (some 0)), (1, qi a1), (3, qi x5), (4, qi x6)] [] := by
          clear hf
          intro M9 hf
          rw [ej13] at hf
          refine qj_iload_n hx hb d_Md_start_86 rfl 1 rfl ?_
          have hf9 := q_bp_s hf; clear hf; obtain ⟨x10, hx10, hf⟩ := hf9
          refine qc_Si (st := []) hx hb hml hown hts hK qT_ok hs (c_Md_bit a1 M9 _ hx10) ⟨(callB_of 1 hts (q_good tw_463) rfl rfl rfl (hts _ tw_459) (hts _ tw_464) (by decide +kernel) ⟨by decide, by decide⟩), (hts _ tw_465)⟩ rfl rfl (Nat.le_of_ble_eq_true rfl) d_Md_start_87 ?_
          refine qj_ldc (v := 262402) hx hb hown (hts _ tw_534) d_Md_start_90 ?_
          refine qj_iand hx hb d_Md_start_92 ?_
          refine qj_if_eq (tgt := 103) hx hb d_Md_start_93 (by decide) (fun hc11 => ?_) (fun hc11 => ?_)
          · replace hf := q_if_t hc11 hf
            exact hret _ _ _ d_Md_start_103 (Option.some.inj hf)
          · replace hf := q_if_f hc11 hf
            refine qj_aload_n hx hb d_Md_start_96 rfl 0 rfl ?_
            refine qj_iload hx hb d_Md_start_97 3 rfl ?_
            refine qj_iload_n hx hb d_Md_start_99 rfl 2 rfl ?_
            have hf9 := q_cv_s hf; clear hf; obtain ⟨M12, hM12, hf⟩ := hf9
            refine qc_Vv (st := []) hx hb hml hown hts hK qT_ok hs (c_Md_list x6 x5 M9 _ hM12) ⟨(callB_of 2 hts (q_good tw_535) rfl rfl rfl (hts _ tw_459) (hts _ tw_536) (by decide +kernel) ⟨by decide, by decide⟩), (hts _ tw_537), (hts _ tw_538)⟩ (by decide) rfl rfl rfl rfl (Nat.le_of_ble_eq_true rfl) d_Md_start_100 ?_
            exact hret _ _ _ d_Md_start_103 (Option.some.inj hf)
        refine qj_icmp_eq (tgt := 86) hx hb d_Md_start_71 (by decide) (fun hc14 => ?_) (fun hc14 => ?_)
        · replace hf := q_if_t hc14 hf
          refine qj_sub [2, 3, 1, 0] rfl ?_
          exact hj13 M7 hf
        · replace hf := q_if_f hc14 hf
          refine qj_iload_n hx hb d_Md_start_74 rfl 3 rfl ?_
          refine qj_bipush (v := 107) hx hb d_Md_start_75 (by decide) ?_
          refine qj_icmp_eq (tgt := 86) hx hb d_Md_start_77 (by decide) (fun hc15 => ?_) (fun hc15 => ?_)
          · replace hf := q_if_t hc15 hf
            refine qj_sub [2, 3, 1, 0] rfl ?_
            exact hj13 M7 hf
          · replace hf := q_if_f hc15 hf
            refine qj_aload_n hx hb d_Md_start_80 rfl 2 rfl ?_
            refine qj_iload hx hb d_Md_start_81 0 rfl ?_
            have hf9 := q_cv_s hf; clear hf; obtain ⟨M16, hM16, hf⟩ := hf9
            refine qc_Vv (st := []) hx hb hml hown hts hK qT_ok hs (c_Md_push x6 M7 _ hM16) ⟨(callB_of 1 hts (q_good tw_512) rfl rfl rfl (hts _ tw_459) (hts _ tw_513) (by decide +kernel) ⟨by decide, by decide⟩), (hts _ tw_514), (hts _ tw_515)⟩ (by decide) rfl rfl rfl rfl (Nat.le_of_ble_eq_true rfl) d_Md_start_83 ?_
            refine qj_sub [2, 3, 1, 0] rfl ?_
            exact hj13 M16 hf
      · replace hf := q_if_f hc8 hf
        exact hret _ _ _ d_Md_start_67 (Option.some.inj hf)
    have hf9 := q_lt_s hf; clear hf; obtain ⟨j20, ej20, hf⟩ := hf9
    have hj20 : j20 = some out → QJ p l e rm_Md_start s m args below meth c (qA 38 b) b 5 0 0 Q (qWd D (enM dA b) 38 b) M2 21 [(0, qr (some 0)), (1, qi a1), (2, qi a2)] [] := by
      clear hf
      intro hf
      rw [ej20] at hf
      refine qj_aload_n hx hb d_Md_start_21 rfl 0 rfl ?_
      refine qj_aload_n hx hb d_Md_start_22 rfl 0 rfl ?_
      refine qj_get hx hb hts hin_12 hown hK (by decide) rfl rfl 12 (by decide) (hts _ tw_453) (fun _ h => h) (qr (some 8)) rfl d_Md_start_23 ?_
      refine qj_aload_n hx hb d_Md_start_26 rfl 0 rfl ?_
      refine qj_get hx hb hts hin_12 hown hK (by decide) rfl rfl 13 (by decide) (hts _ tw_454) (fun _ h => h) (qi (M2.1 0 13)) rfl d_Md_start_27 ?_
      refine qj_iconst (v := 1) hx hb d_Md_start_30 (by decide) ?_
      refine qj_isub hx hb d_Md_start_31 ?_
      have hf9 := q_ix_s hf; clear hf; obtain ⟨hi18, hf⟩ := hf9
      refine qj_iald (t0 := 0) hx hb hK (by decide) (fun _ _ => rfl) rfl hi18 d_Md_start_32 ?_
      have hf9 := q_cv_s hf; clear hf; obtain ⟨M19, hM19, hf⟩ := hf9
      refine qc_Vv (st := []) hx hb hml hown hts hK qT_ok hs (c_Md_insideTop (M2.1 8 ((M2.1 0 13) - 1).toNatClampNeg) M2 _ hM19) ⟨(callB_of 1 hts (q_good tw_490) rfl rfl rfl (hts _ tw_459) (hts _ tw_491) (by decide +kernel) ⟨by decide, by decide⟩), (hts _ tw_492), (hts _ tw_493)⟩ (by decide) rfl rfl rfl rfl (Nat.le_of_ble_eq_true rfl) d_Md_start_33 ?_
      refine qj_goto (tgt := 47) hx hb d_Md_start_36 (by decide) ?_
      exact hj17 M19 hf
    refine qj_icmp_eq (tgt := 21) hx hb d_Md_start_12 (by decide) (fun hc21 => ?_) (fun hc21 => ?_)
    · replace hf := q_if_t hc21 hf
      exact hj20  hf
    · replace hf := q_if_f hc21 hf
      refine qj_iload_n hx hb d_Md_start_15 rfl 1 rfl ?_
      refine qj_bipush (v := 99) hx hb d_Md_start_16 (by decide) ?_
      refine qj_icmp_ne (tgt := 39) hx hb d_Md_start_18 (by decide) (fun hc22 => ?_) (fun hc22 => ?_)
      · replace hf := q_if_f hc22 hf
        refine qj_aload_n hx hb d_Md_start_39 rfl 0 rfl ?_
        refine qj_aload_n hx hb d_Md_start_40 rfl 0 rfl ?_
        refine qj_get hx hb hts hin_12 hown hK (by decide) rfl rfl 13 (by decide) (hts _ tw_454) (fun _ h => h) (qi (M2.1 0 13)) rfl d_Md_start_41 ?_
        have hf9 := q_cv_s hf; clear hf; obtain ⟨M23, hM23, hf⟩ := hf9
        refine qc_Vv (st := []) hx hb hml hown hts hK qT_ok hs (c_Md_findPlace (M2.1 0 13) M2 _ hM23) ⟨(callB_of 1 hts (q_good tw_504) rfl rfl rfl (hts _ tw_459) (hts _ tw_505) (by decide +kernel) ⟨by decide, by decide⟩), (hts _ tw_506), (hts _ tw_507)⟩ (by decide) rfl rfl rfl rfl (Nat.le_of_ble_eq_true rfl) d_Md_start_44 ?_
        exact hj17 M23 hf
      · replace hf := q_if_t hc22 hf
        exact hj20  hf
  · replace hf := q_if_t hc3 hf
    exact hret _ _ _ d_Md_start_8 (Option.some.inj hf)
