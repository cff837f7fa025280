/-! THE CLAIM OUT OF ONE WALK OF THE LAW'S BODY. Your part is whole_start (and what it stands on); all else here is the same for every law, but numbers. -/
def R_law : String := "PlainPageLaw"
def lw_P (b : Addr) (xs : List Int32) (args : Array Value) (s : State) : Prop := args = #[.ref b] ∧ s.IntsAt b xs ∧ xs.length ≤ 3 ∧ (Jvm.Cond.and given_1 narrow_1).before args s = true
def lw_Q (_ : Array Value) (s : State) (o : Outcome) (t : State) : Prop := o = .returned (some (.int 1)) ∧ Framed s o t [] 600000 7302250
def lw_Z (below : List Frame) (a : Array Value) (s : State) : State → Prop := fun t => ∃ o, t.status = .running ∧ Ended t below o ∧ lw_Q a s o t
/-- the law's own end, with 1 on the stack, nothing written that was there before, its room as the claim has it -/
theorem lw_ret {p : Program} {l : Launch} {e : Env} {s : State} {m : MethodId} {below : List Frame} {meth : Method} {c : Code} {b : Nat} (hx : p.tables.exec = Jvm.exec) (hb : c.code = code) (hr : meth.sig.returnType = ret) (hlocks : meth.locks = false) {pc : Nat} {H : Heap} {ls : Array Slot} (hdg : decode code pc = .ok (.ireturn, 1)) : W p l e room_1 s m #[Value.ref b] below meth c H [] 600000 7302250 (lw_Z below #[Value.ref b] s) (F0 m pc ls [.int 1]) := by
  intro T hT X
  obtain ⟨fs, hret, hrun, hended, hW, hframe⟩ := X.leave (v := some (.int 1)) (hlocks := hlocks) (fun h => by rw [hr] at h; cases h)
  have hmeth' : T.vm.method? m = some meth := X.method'
  refine ⟨T.setFrames fs, ?_, .returned (some (.int 1)), hrun, hended, rfl, ⟨_, rfl⟩, hW, hframe⟩
  jvm_step X.here [X.here.top, hx, hb, hdg, hmeth', hr, ret, narrow_b1]
  (try refine ⟨rfl, ?_⟩); (try refine ⟨rfl, ?_⟩)
  first | (intro acts; rw [hret _ acts rfl rfl rfl]) | rw [hret _ _ rfl rfl rfl]
  exact Steps.refl _
/-- what holds at the law's entry: the machine, the code, the tables' words (any of lw_tbl by 'hts w (by decide +kernel)'), the script of L ints xs at the cell b, what the Statement gives of the start (any of its parts by flat_of_before) -/
def lw_At (p : Program) (s : State) (m : MethodId) (meth : Method) (c : Code) (b L : Nat) (xs : Nat → Int32) : Prop :=
  p.tables.exec = Jvm.exec ∧ c.code = code ∧ meth.sig.returnType = ret ∧ c.maxLocals = 4 ∧ s.vm.findClass R_law = some m.cls ∧ (∀ w ∈ lw_tbl, w.before #[Value.ref b] s = true) ∧ va_X b L xs s s.heap ∧ b < s.heap.size ∧ meth.locks = false ∧ (Jvm.Cond.and given_1 narrow_1).before #[Value.ref b] s = true
set_option maxRecDepth 10000 in
theorem tn_130 : Cond.code y_Pg_init prog_1_method_1_code 1 none ∈ lw_g := q_g (q_t1 (List.mem_of_getElem? (i := 25) rfl)) rfl
set_option maxRecDepth 10000 in
theorem tn_131 : Cond.methodLink "PlainPageLaw" 9 y_Pg_init ∈ lw_g := q_g (q_t1 (List.mem_of_getElem? (i := 23) rfl)) rfl
set_option maxRecDepth 10000 in
theorem tn_132 : Cond.classLink "PlainPageLaw" 7 "PlainPage" ∈ lw_g := q_g (q_t1 (List.mem_of_getElem? (i := 21) rfl)) rfl
set_option maxRecDepth 10000 in
theorem tn_133 : Cond.instanceMethod y_Pg_init ∈ lw_g := q_g (q_t1 (List.mem_of_getElem? (i := 24) rfl)) rfl
set_option maxRecDepth 10000 in
theorem tn_134 : Cond.code y_Md_init prog_14_method_1_code 1 none ∈ lw_g := q_g (q_t5 (List.mem_of_getElem? (i := 34) rfl)) rfl
set_option maxRecDepth 10000 in
theorem tn_135 : Cond.methodLink "PlainPageLaw" 12 y_Md_init ∈ lw_g := q_g (q_t5 (List.mem_of_getElem? (i := 32) rfl)) rfl
set_option maxRecDepth 10000 in
theorem tn_136 : Cond.classLink "PlainPageLaw" 10 "PlainPageModel" ∈ lw_g := q_g (q_t5 (List.mem_of_getElem? (i := 30) rfl)) rfl
set_option maxRecDepth 10000 in
theorem tn_137 : Cond.instanceMethod y_Md_init ∈ lw_g := q_g (q_t5 (List.mem_of_getElem? (i := 33) rfl)) rfl
theorem qj_astoreA_n {p : Program} {l : Launch} {e : Env} {R : Room} {s : State} {m : MethodId} {args : Array Value} {below : List Frame} {meth : Method} {c : Code} {A : Nat → Prop} {b nL cs sl i a pc : Nat} {Q : State → Prop} {Wd : qM → Heap → Prop} {M : qM} {L L' : List (Nat × qV)} {st : List qV} {cc : ByteArray} {k0 : Fin 4} (hx : p.tables.exec = Jvm.exec) (hb : c.code = cc) (d : decode cc pc = .ok (.astore_n k0, 1)) (hi : (k0 : Nat) = i) (hn : i < nL) (hL : (i, qa a) :: L.filter (fun q => !(q.1 == i)) = L') (k : QJ p l e R s m args below meth c A b nL cs sl Q Wd M (pc + 1) L' st) : QJ p l e R s m args below meth c A b nL cs sl Q Wd M pc L (qa a :: st) := fun H locs ls P S hl => lv_astore_n hx hb d hi hl hn (lv' := qL b L') (by rw [qL_filt, ← hL]; rfl) (fun ls' h' => k H locs ls' P S h')
theorem ql_mk {p : Program} {l : Launch} {e : Env} {R : Room} {s : State} {m : MethodId} {args : Array Value} {below : List Frame} {meth : Method} {c : Code} {D : va_G} {tys : List (ClassId × FieldType)} {en : qE} {K nL cs sl pc bb mc ms ci N index index2 maxL : Nat} {Q : State → Prop} {X : State → Prop} {M M1 : qM} {L : List (Nat × qV)} {st : List qV} {cc bytes : ByteArray} {own C : String} {y : MethodName} {ws : List Cond} {rm : Room} {T : u_T} {fs0 : List Value} {Wd2 : qM → Heap → Prop} {H0 : Heap} (hx : p.tables.exec = Jvm.exec) (hb : c.code = cc) (hml : c.maxLocals = nL) (hown : s.vm.findClass own = some m.cls) (hts : ∀ w ∈ lw_g, w.before args s = true) (hin : ∀ w ∈ u_ws C T N, w ∈ lw_g) (ty : Nat → FieldType) (hty : ∀ k, k < N → parseFieldDescriptor (T k).2.2.1 = some (ty k)) (hcl : (Cond.classLink own index C).before args s = true) (hinst : (Cond.instantiable C N).before args s = true) (hini : (Cond.initialized C).before args s = true) (hK : va_K D vwCl tys s) (hc : vwCl[ci]? = some (C, T, N)) (hfs : ∀ j, j < N → defaultValue (ty j) = vp_V fs0 j) (hM : CTp l y ws rm D tys en K bb X mc ms (.inr (ci, fs0)) M1) (hXb : ∀ (U : State) (g : JFrame) (mk : MethodId) (a : Array Value), X U → X (U.calling g mk a)) (hXu : ∀ U : State, (∀ q : Nat, q < s.heap.size → U.heap[q]? = s.heap[q]?) → s.heap.size ≤ U.heap.size → s.WarmedH U.vm → X U) (cw : CallB R s args own index2 y bytes maxL none ws rm mc ms 0 ∧ y.name = "<init>" ∧ (Cond.instanceMethod y).before args s = true) (hsz : H0.size = bb) (hbb : s.heap.size ≤ bb) (hnew : ∀ H2 : Heap, (∀ q : Nat, q < bb → H2[q]? = H0[q]?) → qWd D en K bb M1 H2 → Wd2 M H2) (hl7 : st.length ≤ 7) (hcells : cs + 1 + mc ≤ R.cells) (hslots : sl + N + ms ≤ R.slots) (d1 : decode cc pc = .ok (.new index, 3)) (d2 : decode cc (pc + 3) = .ok (.dup, 1)) (d3 : decode cc (pc + 3 + 1) = .ok (.invokespecial index2, 3)) (k : QJ p l e R s m args below meth c (qB s.heap.size) 0 nL (cs + 1 + mc) (sl + N + ms) Q Wd2 M (pc + 3 + 1 + 3) L (qa bb :: st)) : QJ p l e R s m args below meth c (qB s.heap.size) 0 nL cs sl Q (fun _ H => H = H0) M pc L st := fun H locs ls P S hl => by
  have P0 : H = H0 := P
  subst P0
  have hKn := hK.1 ci _ hc
  refine W.newcK hx hb hown hcl hinst hini rfl d1 (by omega) (by omega) hKn.2.1 hsz fun H1 kC hkC e1 z1 o1 => ?_
  have hb1 : va_at D vwCl (bb + 0, .inr (ci, fs0)) H1 := ⟨_, hc, (u_born ty hts hin hKn hkC e1 hty).to hfs⟩
  have hold : ∀ q : Nat, q < s.heap.size → H1[q]? = s.heap[q]? := fun q h => (o1 q (by omega)).trans (S.2.1 q h (fun h3 => by have h4 : s.heap.size ≤ q := h3; omega))
  have S1 : va_S (qB s.heap.size) s.heap H1 locs := ⟨by omega, fun q h1 _ => hold q h1, S.2.2⟩
  show W p l e R s m args below meth c H1 locs (cs + 1) (sl + N) Q (F0 m (pc + 3) ls (.ref bb :: st.map (qv 0)))
  refine lv_dup hx hb d2 rfl ?_
  refine va_callv (va_runI (Ts := lw_g) (As := []) (rest := .ref bb :: st.map (qv 0)) (b := bb + 0) ⟨hx, hb, hml, hown, hts⟩ hM cw ⟨fun a U g mk q => ?_, fun U hU hW => ?_⟩ rfl rfl hl.1 rfl (lv_room ?_) d3 ⟨by omega, by omega⟩) S1 (fun q _ h => ?_) (fun q h => ?_) (fun u t H2 locs2 ht _ _ hB hz hk hS => ?_)
  · obtain ⟨q0, q1, q2, q3⟩ := q
    exact ⟨q0, q1, va_K.moved (u := U) (U := U.calling g mk a) (Vm.Alike.refl U.vm) q2, hXb U g mk a q3⟩
  · subst hU
    exact ⟨rfl, ⟨z1, fun q hq => by rw [List.mem_singleton.mp hq]; exact hb1, fun o h1 h2 h3 => absurd (show 0 = o by omega) (h3 (0, .inr (ci, fs0)) (List.mem_singleton.mpr rfl))⟩, va_K.moved hW.alike hK, hXu U hold (by omega) hW⟩
  · show 1 + ((st.map (qv 0)).map fun v => v.category).sum ≤ 8
    rw [q_sum]; omega
  · have h5 : bb + 0 ≤ q := h
    show s.heap.size ≤ q
    omega
  · have h5 : bb + 0 ≤ q := h
    show s.heap.size ≤ q
    omega
  · subst ht
    exact k _ locs2 ls (hnew _ (fun q hq => (hk q (by omega) (by show ¬ bb + 0 ≤ q; omega)).trans (o1 q hq)) hB) hS hl
set_option maxRecDepth 100000 in
set_option maxHeartbeats 4000000 in
theorem law_start {p : Program} {e : Env} {s : State} {m : MethodId} {below : List Frame} {meth : Method} {c : Code} (l : Launch) {b0 Ls : Nat} {xs : Nat → Int32} (hL : Ls ≤ 1536) (C0 : lw_At p s m meth c b0 Ls xs) (Inv : Nat → qM → qM → Prop) (Mx0 Mm0 : qM) (hf1 : f_Pg_startAnew qM0 = some Mx0) (hf2 : f_Md_reset qM0 = some Mm0) (hI0 : Inv 0 Mx0 Mm0) (hop : ∀ (k j : Nat) (Mx Mm : qM), 3 * k + 3 ≤ Ls → j < 16 → xs (3 * k) &&& 15 = nI j → Inv k Mx Mm → qOp j (xs (3 * k + 1)) (xs (3 * k + 2)) Mx Mm (Inv (k + 1))) : W p l e room_1 s m #[Value.ref b0] below meth c s.heap [] 0 0 (lw_Z below #[Value.ref b0] s) (entryFrame m ([Value.ref b0] : List Value).toArray 4) := by
  obtain ⟨hx, hb, hr, hml, hown, hw, hX, hbl, hlk, hgv⟩ := C0
  have hg := flat_of_before _ hgv
  have hts : ∀ w ∈ lw_g, w.before #[Value.ref b0] s = true := fun w h => hw w (List.mem_filter.mp h).1
  obtain ⟨D, dA, hK⟩ := st_K hts hw
  obtain ⟨adK, adV, hQ⟩ := st_all hg hw
  have hcs := st_c hw
  rw [lg_entry_eq]
  refine (show QJ p l e room_1 s m #[Value.ref b0] below meth c (qB s.heap.size) 0 4 0 0 (lw_Z below #[Value.ref b0] s) (fun _ H => H = s.heap) qM0 0 [(0, qa b0)] [] from ?_) s.heap [] _ rfl va_S.rf (lv_entry [.ref b0] (Nat.le_of_ble_eq_true rfl))
  refine ql_mk (Wd2 := fun _ H2 => qWd D (enX dA s.heap.size) 367 s.heap.size Mx0 H2) (bb := s.heap.size) (H0 := s.heap) (X := fun U => qXc U ∧ qX adK adV 367 s.heap.size U) hx hb hml hown hts hin_11 ty_11 tyok_11 (hts _ tn_132) (hts _ tn_128) (hts _ tw_4) hK rfl df_11 (k_Pg_init Mx0 hf1) (fun U g mk a h => ⟨qXc_ok.1 U g mk a h.1, (qX_ok _ _ _ _).1 U g mk a h.2⟩) (fun U h1 h2 hW => ⟨qXc_ok.2 s U hcs hW, (qX_ok _ _ _ _).2 s U [] (hQ _ (Nat.le_refl _)) ⟨h2, fun q h _ => h1 q h, fun _ h => by cases h⟩ hW⟩) ⟨(callB_of 0 hts (q_good tn_130) rfl rfl rfl (hts _ tw_4) (hts _ tn_131) (by decide +kernel) ⟨by decide, by decide⟩), rfl, (hts _ tn_133)⟩ rfl (Nat.le_refl _) (fun H2 _ h => h) (Nat.le_of_ble_eq_true rfl) (by decide) (by decide) d_law_0 d_law_3 d_law_4 ?_
  refine qj_astoreA_n hx hb d_law_7 rfl (by decide) rfl ?_
  intro H locs ls P S hl
  have hlt : s.heap.size + 366 < H.size := by
    have h5 := (P.2 366 _ (wl_get (by decide))).lt
    exact h5
  refine (show QJ p l e room_1 s m #[Value.ref b0] below meth c (qB s.heap.size) 0 4 (0 + 1 + 366) (0 + 8 + 2840) (lw_Z below #[Value.ref b0] s) (fun _ H' => H' = H) qM0 8 [(1, qa s.heap.size), (0, qa b0)] [] from ?_) H locs ls rfl S hl
  refine ql_mk (Wd2 := qWL D dA s.heap.size H.size Mx0 Mm0) (bb := H.size) (H0 := H) (X := fun _ => True) hx hb hml hown hts hin_12 ty_12 tyok_12 (hts _ tn_136) (hts _ tn_129) (hts _ tw_459) hK rfl df_12 (k_Md_init Mm0 hf2) (fun _ _ _ _ _ => trivial) (fun _ _ _ _ => trivial) ⟨(callB_of 0 hts (q_good tn_134) rfl rfl rfl (hts _ tw_459) (hts _ tn_135) (by decide +kernel) ⟨by decide, by decide⟩), rfl, (hts _ tn_137)⟩ rfl (by omega) (fun H2 h1 h2 => ⟨qWd_kept P fun q a1 a2 a3 => h1 q a1, h2⟩) (Nat.le_of_ble_eq_true rfl) (by decide) (by decide) d_law_8 d_law_11 d_law_12 ?_
  refine qj_astoreA_n hx hb d_law_15 rfl (by decide) rfl ?_
  refine qj_iconst (v := nI (3 * 0)) hx hb d_law_16 (by decide) ?_
  refine qj_istore_n hx hb d_law_17 rfl (by decide) rfl ?_
  refine qj_sub [3, 2, 1, 0] rfl ?_
  refine law_loop hx hb hml hown hts hK (hQ _ (Nat.le_refl _)) (Nat.le_refl _) (by omega) hX hbl hL (by decide) (by decide) Inv hop ?_ 600 0 Mx0 Mm0 (by omega) (by omega) hI0
  intro Mx Mm L H2 locs2 ls2 P2 S2 hl2
  exact va_forget (fun q hq => S2.2.2 q hq) (W.widen (by decide) (by decide) (lw_ret hx hb hr hlk d_law_491))
