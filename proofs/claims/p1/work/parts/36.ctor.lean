theorem qW0 : qW qM0 := fun o k o' h => by cases h
theorem qk_wd {D : va_G} {en : qE} {b K : Nat} {M : qM} {H : Heap} (h : qWk D en b 0 K [] M H) : qWd D en K b qM0 H := by
  refine ⟨qW0, fun k q hk => ?_⟩
  have hl : k < K := by
    have := (List.getElem?_eq_some_iff.mp hk).1
    rwa [wl_len] at this
  rw [wl_get hl] at hk
  cases hk
  exact h.2.2 k (Nat.zero_le _) hl fun q hq => by cases hq
abbrev CTp (l : Launch) (y : MethodName) (ws : List Cond) (rm : Room) (D : va_G) (tys : List (ClassId × FieldType)) (en : qE) (K b : Nat) (X : State → Prop) (mc ms : Nat) (e0 : va_E) (M1 : qM) : Prop := Met l y ws rm (va_Pc [.ref (b + 0)] (qKk D tys en b 0 1 [(0, e0)] X)) (va_Qv (fun _ : Unit => True) (fun _ t => qWd D en K b M1 t.heap) (qB (b + 0))) mc ms (qB (b + 0))
theorem qm_p {l : Launch} {D : va_G} {tys : List (ClassId × FieldType)} {en : qE} {K b nL : Nat} {X : State → Prop} {cc : ByteArray} {mc ms : Nat} {e0 : va_E} {M1 : qM} {y : MethodName} {ws ws' : List Cond} {rm : Room} (hy : plainName y.cls = true) (hi : y.name = "<init>") (hw : ws = Cond.code y cc nL none :: ws') (hlen : 1 ≤ nL)
    (body : ∀ (p : Program) (e : Env) (s : State) (m : MethodId) (args : Array Value) (below : List Frame) (meth : Method) (c : Code) (Q : State → Prop), p.tables.exec = Jvm.exec → c.code = cc → (∀ w ∈ ws, w.before args s = true) → s.vm.findClass y.cls = some m.cls → c.maxLocals = nL → meth.name = "<init>" → va_K D vwCl tys s → X s → s.heap.size = b + 1 →
      (∀ (M : qM) (pc : Nat) (L : List (Nat × qV)) (Wd : qM → Heap → Prop), decode cc pc = .ok (.return_, 1) → (∀ H, Wd M H → qWd D en K b M1 H) → QJ p l e rm s m args below meth c (qB (b + 0)) b nL mc ms Q Wd M pc L []) → QJ p l e rm s m args below meth c (qB (b + 0)) b nL 0 0 Q (qWk D en b 0 1 [(0, e0)]) qM0 0 [(0, qr (some 0))] []) : CTp l y ws rm D tys en K b X mc ms e0 M1 := by
  refine Met.ofW (cc := cc) (maxL := nL) (ret := none) hy hw ?_
  intro p e s m args below meth c s₁ B hml hv
  obtain ⟨rfl, P, hK, hX⟩ := hv
  rw [lg_entry_eq]
  refine body p e s m _ below meth c _ B.exec B.bytes (atoms_spec (ws := ws) B.pre) (findClass_of_methodNamed B.named) hml ((name_of_methodNamed B.named B.method).1.trans hi) hK hX P.1 ?_ s.heap [] _ P va_S.rf (lv_entry [.ref (b + 0)] hlen)
  intro M pc L Wd d ho H locs ls P S hl
  exact W.vret B.exec B.bytes B.returns (fun t ht _ => ⟨⟨(), rfl, trivial, by show qWd D en K b M1 t.heap; rw [ht]; exact ho H P⟩, S.F ht⟩) S.2.2 d B.notSynchronized
theorem qk_callV {p : Program} {l : Launch} {e : Env} {R : Room} {s : State} {m : MethodId} {args : Array Value} {below : List Frame} {meth : Method} {c : Code} {b nL cs sl K index maxL ci N pc : Nat} {Q : State → Prop} {D : va_G} {tys : List (ClassId × FieldType)} {en : qE} {X : State → Prop} {M M1 : qM} {L : List (Nat × qV)} {cc bytes : ByteArray} {Wd : qM → Heap → Prop} {own C : String} {y : MethodName} {ws Ts : List Cond} {rm : Room} {T : u_T} {fs : List Value} (hx : p.tables.exec = Jvm.exec) (hb : c.code = cc) (hml : c.maxLocals = nL) (hown : s.vm.findClass own = some m.cls) (hts : ∀ w ∈ Ts, w.before args s = true) (hK : va_K D vwCl tys s) (hX : qXok K b X) (hs : X s) (hsz : s.heap.size = b + 1) (hK0 : 0 < K) (hM : CTv l y ws rm D tys en K b X [qr (some 0)] qM0 M1) (cw : CallW R s args own C index y bytes maxL none ws rm 0 0 0) (he : en 0 (qM0.1 0) (qM0.2 0) = .inr (ci, fs)) (hc : vwCl[ci]? = some (C, T, N)) (hwd : ∀ H, Wd M H → qWd D en K b qM0 H) (hcs : cs ≤ R.cells) (hsl : sl ≤ R.slots) (d : decode cc pc = .ok (.invokevirtual index, 3)) (k : QJ p l e R s m args below meth c (qB (b + 0)) b nL cs sl Q (fun _ H => qWd D en K b M1 H) M (pc + 3) L []) : QJ p l e R s m args below meth c (qB (b + 0)) b nL cs sl Q Wd M pc L [qr (some 0)] := fun H locs ls P S hl => by
  have P0 := hwd H P
  have S1 : va_S (qA K b) s.heap H [] := ⟨S.1, fun q h1 h2 => S.2.1 q h1 (fun h3 => h2 ⟨h3, by omega⟩), fun _ h => by cases h⟩
  refine va_callv (va_runV (Ts := Ts) (C := C) (As := []) (rest := []) (b := b + 0) ⟨hx, hb, hml, hown, hts⟩ hM cw ⟨q_blind hX, q_recv hK P0.2 hK0 he hc, q_pre (av := [qr (some 0)]) hX hs hK P0.1 P0.2 S1⟩ rfl rfl hl.1 rfl (lv_room (by decide)) d ⟨hcs, hsl⟩) S (fun q _ h => ?_) (fun q h => ?_) (fun u t H1 locs1 ht _ hp hB _ _ hS => ?_)
  · exact h.1
  · exact h.1
  · cases hp
    exact k H1 locs1 ls ⟨hB.1, by rw [← ht]; exact hB.2⟩ hS hl
set_option maxRecDepth 10000 in
theorem tm_0 : Cond.methodLink "PlainPage" 1 Lib.objectInit ∈ lw_g := q_g (q_t1 (List.mem_of_getElem? (i := 26) rfl)) rfl
set_option maxRecDepth 10000 in
theorem tm_1 : Cond.code y_Tree_init prog_11_method_1_code 2 none ∈ lw_g := q_g (q_t1 (List.mem_of_getElem? (i := 33) rfl)) rfl
set_option maxRecDepth 10000 in
theorem tm_2 : Cond.methodLink "PlainPage" 9 y_Tree_init ∈ lw_g := q_g (q_t1 (List.mem_of_getElem? (i := 31) rfl)) rfl
set_option maxRecDepth 10000 in
theorem tm_3 : Cond.classLink "PlainPage" 7 "PlainPage$Tree" ∈ lw_g := q_g (q_t1 (List.mem_of_getElem? (i := 29) rfl)) rfl
set_option maxRecDepth 10000 in
theorem tm_4 : Cond.instantiable "PlainPage$Tree" 8 ∈ lw_g := q_g (q_t1 (List.mem_of_getElem? (i := 30) rfl)) rfl
set_option maxRecDepth 10000 in
theorem tm_5 : Cond.instanceMethod y_Tree_init ∈ lw_g := q_g (q_t1 (List.mem_of_getElem? (i := 32) rfl)) rfl
set_option maxRecDepth 10000 in
theorem tm_6 : Cond.code y_Typist_init prog_12_method_1_code 1 none ∈ lw_g := q_g (q_t2 (List.mem_of_getElem? (i := 37) rfl)) rfl
set_option maxRecDepth 10000 in
theorem tm_7 : Cond.classLink "PlainPage" 16 "PlainPage$Typist" ∈ lw_g := q_g (q_t2 (List.mem_of_getElem? (i := 33) rfl)) rfl
set_option maxRecDepth 10000 in
theorem tm_8 : Cond.instantiable "PlainPage$Typist" 4 ∈ lw_g := q_g (q_t2 (List.mem_of_getElem? (i := 34) rfl)) rfl
set_option maxRecDepth 10000 in
theorem tm_9 : Cond.instanceMethod y_Typist_init ∈ lw_g := q_g (q_t2 (List.mem_of_getElem? (i := 36) rfl)) rfl
set_option maxRecDepth 10000 in
theorem tm_10 : Cond.code y_Sheet_init prog_10_method_1_code 2 none ∈ lw_g := q_g (q_t2 (List.mem_of_getElem? (i := 56) rfl)) rfl
set_option maxRecDepth 10000 in
theorem tm_11 : Cond.methodLink "PlainPage" 25 y_Sheet_init ∈ lw_g := q_g (q_t2 (List.mem_of_getElem? (i := 54) rfl)) rfl
set_option maxRecDepth 10000 in
theorem tm_12 : Cond.classLink "PlainPage" 23 "PlainPage$Sheet" ∈ lw_g := q_g (q_t2 (List.mem_of_getElem? (i := 52) rfl)) rfl
set_option maxRecDepth 10000 in
theorem tm_13 : Cond.instantiable "PlainPage$Sheet" 7 ∈ lw_g := q_g (q_t2 (List.mem_of_getElem? (i := 53) rfl)) rfl
set_option maxRecDepth 10000 in
theorem tm_14 : Cond.instanceMethod y_Sheet_init ∈ lw_g := q_g (q_t2 (List.mem_of_getElem? (i := 55) rfl)) rfl
set_option maxRecDepth 10000 in
theorem tm_15 : Cond.code y_Layout_init prog_4_method_1_code 1 none ∈ lw_g := q_g (q_t2 (List.mem_of_getElem? (i := 122) rfl)) rfl
set_option maxRecDepth 10000 in
theorem tm_16 : Cond.classLink "PlainPage" 30 "PlainPage$Layout" ∈ lw_g := q_g (q_t2 (List.mem_of_getElem? (i := 118) rfl)) rfl
set_option maxRecDepth 10000 in
theorem tm_17 : Cond.instantiable "PlainPage$Layout" 2 ∈ lw_g := q_g (q_t2 (List.mem_of_getElem? (i := 119) rfl)) rfl
set_option maxRecDepth 10000 in
theorem tm_18 : Cond.instanceMethod y_Layout_init ∈ lw_g := q_g (q_t2 (List.mem_of_getElem? (i := 121) rfl)) rfl
theorem d_Pg_init_0 : decode prog_1_method_1_code 0 = .ok (.aload_n 0, 1) := by decide +kernel
theorem d_Pg_init_1 : decode prog_1_method_1_code 1 = .ok (.invokespecial 1, 3) := by decide +kernel
theorem d_Pg_init_4 : decode prog_1_method_1_code 4 = .ok (.aload_n 0, 1) := by decide +kernel
theorem d_Pg_init_5 : decode prog_1_method_1_code 5 = .ok (.new 7, 3) := by decide +kernel
theorem d_Pg_init_8 : decode prog_1_method_1_code 8 = .ok (.dup, 1) := by decide +kernel
theorem d_Pg_init_9 : decode prog_1_method_1_code 9 = .ok (.invokespecial 9, 3) := by decide +kernel
theorem d_Pg_init_12 : decode prog_1_method_1_code 12 = .ok (.putfield 10, 3) := by decide +kernel
theorem d_Pg_init_15 : decode prog_1_method_1_code 15 = .ok (.aload_n 0, 1) := by decide +kernel
theorem d_Pg_init_16 : decode prog_1_method_1_code 16 = .ok (.new 16, 3) := by decide +kernel
theorem d_Pg_init_19 : decode prog_1_method_1_code 19 = .ok (.dup, 1) := by decide +kernel
theorem d_Pg_init_20 : decode prog_1_method_1_code 20 = .ok (.invokespecial 18, 3) := by decide +kernel
theorem d_Pg_init_23 : decode prog_1_method_1_code 23 = .ok (.putfield 19, 3) := by decide +kernel
theorem d_Pg_init_26 : decode prog_1_method_1_code 26 = .ok (.aload_n 0, 1) := by decide +kernel
theorem d_Pg_init_27 : decode prog_1_method_1_code 27 = .ok (.new 23, 3) := by decide +kernel
theorem d_Pg_init_30 : decode prog_1_method_1_code 30 = .ok (.dup, 1) := by decide +kernel
theorem d_Pg_init_31 : decode prog_1_method_1_code 31 = .ok (.invokespecial 25, 3) := by decide +kernel
theorem d_Pg_init_34 : decode prog_1_method_1_code 34 = .ok (.putfield 26, 3) := by decide +kernel
theorem d_Pg_init_37 : decode prog_1_method_1_code 37 = .ok (.aload_n 0, 1) := by decide +kernel
theorem d_Pg_init_38 : decode prog_1_method_1_code 38 = .ok (.new 30, 3) := by decide +kernel
theorem d_Pg_init_41 : decode prog_1_method_1_code 41 = .ok (.dup, 1) := by decide +kernel
theorem d_Pg_init_42 : decode prog_1_method_1_code 42 = .ok (.invokespecial 32, 3) := by decide +kernel
theorem d_Pg_init_45 : decode prog_1_method_1_code 45 = .ok (.putfield 33, 3) := by decide +kernel
theorem d_Pg_init_48 : decode prog_1_method_1_code 48 = .ok (.aload_n 0, 1) := by decide +kernel
theorem d_Pg_init_49 : decode prog_1_method_1_code 49 = .ok (.invokevirtual 37, 3) := by decide +kernel
theorem d_Pg_init_52 : decode prog_1_method_1_code 52 = .ok (.return_, 1) := by decide +kernel
abbrev rm_Pg_init : Room := { frames := 4, cells := 366, slots := 2840, locals := 200 }
set_option maxRecDepth 100000 in
set_option maxHeartbeats 4000000 in
theorem k_Pg_init {l : Launch} {D : va_G} {dA : Nat → ClassId} {b : Nat} {adK adV : Nat → Nat} (M1 : qM) (hf : f_Pg_startAnew qM0 = some M1) : CTp l y_Pg_init w_Pg_init rm_Pg_init D (tysX dA) (enX dA b) 367 b (fun U => qXc U ∧ qX adK adV 367 b U) 366 2840 (.inr (11, [.null, .null, .null, .null, .int 0, .int 0, .int 0, .int 0])) M1 := by
  refine qm_p (cc := prog_1_method_1_code) (nL := 1) (by decide) rfl rfl (by decide) ?_
  intro p e s m args below meth c Q hx hb hts0 hown hml hin2 hK hs0 hsz hret
  have hts : ∀ w ∈ lw_g, w.before args s = true := fun w h => hts0 w (List.mem_cons_of_mem _ h)
  have hs := hs0.1
  refine qj_aload_n hx hb d_Pg_init_0 rfl 0 rfl ?_
  refine qk_obj hx hb hml hown (hts _ tm_0) (hts _ tk_1) (hts _ tk_2) d_Pg_init_1 (by decide) (Nat.le_of_ble_eq_true rfl) ?_
  refine qj_aload_n hx hb d_Pg_init_4 rfl 0 rfl ?_
  refine qk_sub hx hb (List.forall_mem_cons.mpr ⟨(by show 0 < 1; omega), fun _ h => absurd h List.not_mem_nil⟩) hml hts hin_5 ty_5 tyok_5 hown (hts _ tm_3) (hts _ tm_4) (hts _ tw_54) hK qXc_ok hs rfl df_5 (k_Tree_init) ⟨(callB_of 0 hts (q_good tm_1) rfl rfl rfl (hts _ tw_54) (hts _ tm_2) (by decide +kernel) ⟨by decide, by decide⟩), rfl, (hts _ tm_5)⟩ (by omega) (Nat.le_of_ble_eq_true rfl) (by decide) (by decide) d_Pg_init_5 d_Pg_init_8 d_Pg_init_9 ?_
  refine qk_put (j := 0) (ty := .object "PlainPage$Tree") (v := qr (some (1))) hx hb hts hin_11 ty_11 tyok_11 nm_11 hown hK (by omega) rfl q_s1 rfl 0 (by decide) (hts _ tw_240) (fun _ h => h) hin2 rfl (by decide +kernel) rfl rfl (Nat.le_of_ble_eq_true rfl) d_Pg_init_12 ?_
  refine qj_aload_n hx hb d_Pg_init_15 rfl 0 rfl ?_
  refine qk_subN hx hb (List.forall_mem_cons.mpr ⟨(by show 0 < 287; omega), fun _ h => absurd h List.not_mem_nil⟩) hml hts hin_6 ty_6 tyok_6 hown (hts _ tm_7) (hts _ tm_8) (hts _ tw_202) hK qXc_ok hs rfl df_6 (k_Typist_init) ⟨(va_cnB 0 hts (q_good tm_6) rfl rfl rfl (hs.2 ("PlainPage", 18, y_Typist_init, "PlainPage") (by decide +kernel)) (hts _ tw_202) (by decide +kernel) ⟨by decide, by decide⟩), rfl, (hts _ tm_9)⟩ (by omega) (Nat.le_of_ble_eq_true rfl) (by decide) (by decide) d_Pg_init_16 d_Pg_init_19 d_Pg_init_20 ?_
  refine qk_put (j := 0) (ty := .object "PlainPage$Typist") (v := qr (some (287))) hx hb hts hin_11 ty_11 tyok_11 nm_11 hown hK (by omega) rfl q_s1 rfl 1 (by decide) (hts _ tw_246) (fun _ h => h) hin2 rfl (by decide +kernel) rfl rfl (Nat.le_of_ble_eq_true rfl) d_Pg_init_23 ?_
  refine qj_aload_n hx hb d_Pg_init_26 rfl 0 rfl ?_
  refine qk_sub hx hb (List.forall_mem_cons.mpr ⟨(by show 0 < 288; omega), fun _ h => absurd h List.not_mem_nil⟩) hml hts hin_8 ty_8 tyok_8 hown (hts _ tm_12) (hts _ tm_13) (hts _ tw_297) hK qXc_ok hs rfl df_8 (k_Sheet_init) ⟨(callB_of 0 hts (q_good tm_10) rfl rfl rfl (hts _ tw_297) (hts _ tm_11) (by decide +kernel) ⟨by decide, by decide⟩), rfl, (hts _ tm_14)⟩ (by omega) (Nat.le_of_ble_eq_true rfl) (by decide) (by decide) d_Pg_init_27 d_Pg_init_30 d_Pg_init_31 ?_
  refine qk_put (j := 0) (ty := .object "PlainPage$Sheet") (v := qr (some (288))) hx hb hts hin_11 ty_11 tyok_11 nm_11 hown hK (by omega) rfl q_s1 rfl 2 (by decide) (hts _ tw_307) (fun _ h => h) hin2 rfl (by decide +kernel) rfl rfl (Nat.le_of_ble_eq_true rfl) d_Pg_init_34 ?_
  refine qj_aload_n hx hb d_Pg_init_37 rfl 0 rfl ?_
  refine qk_subN hx hb (List.forall_mem_cons.mpr ⟨(by show 0 < 364; omega), fun _ h => absurd h List.not_mem_nil⟩) hml hts hin_10 ty_10 tyok_10 hown (hts _ tm_16) (hts _ tm_17) (hts _ tw_430) hK qXc_ok hs rfl df_10 (k_Layout_init) ⟨(va_cnB 0 hts (q_good tm_15) rfl rfl rfl (hs.2 ("PlainPage", 32, y_Layout_init, "PlainPage") (by decide +kernel)) (hts _ tw_430) (by decide +kernel) ⟨by decide, by decide⟩), rfl, (hts _ tm_18)⟩ (by omega) (Nat.le_of_ble_eq_true rfl) (by decide) (by decide) d_Pg_init_38 d_Pg_init_41 d_Pg_init_42 ?_
  refine qk_put (j := 0) (ty := .object "PlainPage$Layout") (v := qr (some (364))) hx hb hts hin_11 ty_11 tyok_11 nm_11 hown hK (by omega) rfl q_s1 rfl 3 (by decide) (hts _ tw_415) (fun _ h => h) hin2 rfl (by decide +kernel) rfl rfl (Nat.le_of_ble_eq_true rfl) d_Pg_init_45 ?_
  refine qj_aload_n hx hb d_Pg_init_48 rfl 0 rfl ?_
  refine qk_callV (X := qX adK adV 367 b) hx hb hml hown hts hK (qX_ok _ _ _ _) hs0.2 hsz (by decide) (c_Pg_startAnew qM0 M1 hf) ⟨(callB_of 0 hts (q_good tw_325) rfl rfl rfl (hts _ tw_4) (hts _ tw_326) (by decide +kernel) ⟨by decide, by decide⟩), (hts _ tw_327), (hts _ tw_328)⟩ (en_0 (rfl : tcX 0 = 0)) rfl (fun H h => qk_wd (qk_done h (by rw [en_0 (rfl : tcX 0 = 0)]; rfl))) (by decide) (by decide) d_Pg_init_49 ?_
  exact hret _ _ _ _ d_Pg_init_52 (fun H h => h)
