def qWL (D : va_G) (dA : Nat → ClassId) (bx bm : Nat) (Mx Mm : qM) (_ : qM) (H : Heap) : Prop := qWd D (enX dA bx) 367 bx Mx H ∧ qWd D (enM dA bm) 38 bm Mm H
theorem qWd_kept {D : va_G} {en : qE} {K b : Nat} {M : qM} {H H1 : Heap} (h : qWd D en K b M H) (hk : ∀ q : Nat, q < H.size → b ≤ q → q < b + K → H1[q]? = H[q]?) : qWd D en K b M H1 := by
  refine ⟨h.1, h.2.kept fun k q hq => ?_⟩
  have hl : k < K := by
    have := (List.getElem?_eq_some_iff.mp hq).1
    rwa [wl_len] at this
  have hlt := (h.2 k q hq).lt
  rw [wl_get hl] at hq
  cases hq
  exact hk _ hlt (by show b ≤ b + k; omega) (by show b + k < b + K; omega)
section QLW
variable {p : Program} {l : Launch} {e_ : Env} {R : Room} {s : State} {m : MethodId} {args : Array Value} {below : List Frame} {meth : Method} {c : Code} {D : va_G} {dA : Nat → ClassId} {bx bm nL cs sl pc index maxL n b0 Ls : Nat} {xs : Nat → Int32} {Q : State → Prop} {Mx Mm M1 M : qM} {L : List (Nat × qV)} {st st0 : List qV} {is : List Int32} {cc bytes : ByteArray} {own : String} {y : MethodName} {ws : List Cond} {rm : Room} {ret : Option FieldType} {adK adV : Nat → Nat} {Wd : qM → Heap → Prop}
theorem ql_len (hx : p.tables.exec = Jvm.exec) (hb : c.code = cc) (hX : va_X b0 Ls xs s s.heap) (hbl : b0 < s.heap.size) (d : decode cc pc = .ok (.arraylength, 1)) (k : QJ p l e_ R s m args below meth c (qB s.heap.size) 0 nL cs sl Q Wd M (pc + 1) L (qi (nI Ls) :: st)) : QJ p l e_ R s m args below meth c (qB s.heap.size) 0 nL cs sl Q Wd M pc L (qa b0 :: st) := fun H locs ls P S hl => va_slen hx hb hX hbl (fun h => by have h1 : s.heap.size ≤ b0 := h; omega) S d (k H locs ls P S hl)
theorem ql_ld (hx : p.tables.exec = Jvm.exec) (hb : c.code = cc) (hX : va_X b0 Ls xs s s.heap) (hbl : b0 < s.heap.size) {j : Nat} {x : Int32} (hj : j < Ls) (hL : Ls < 2 ^ 31) (e : x = nI j) (d : decode cc pc = .ok (.iaload, 1)) (k : QJ p l e_ R s m args below meth c (qB s.heap.size) 0 nL cs sl Q Wd M (pc + 1) L (qi (xs j) :: st)) : QJ p l e_ R s m args below meth c (qB s.heap.size) 0 nL cs sl Q Wd M pc L (qi x :: qa b0 :: st) := fun H locs ls P S hl => by
  subst e
  refine va_sld hx hb hX hbl (fun h => by have h1 : s.heap.size ≤ b0 := h; omega) S (vp_in_nI hj hL) d ?_
  rw [nI_clamp (by omega)]
  exact k H locs ls P S hl
theorem ql_Xi (hx : p.tables.exec = Jvm.exec) (hb : c.code = cc) {r : Int32} (hml : c.maxLocals = nL) (hown : s.vm.findClass own = some m.cls) (hts : ∀ w ∈ lw_g, w.before args s = true) (hK : va_K D vwCl (tysX dA) s) (hs : qX adK adV 367 bx s) (hbx : s.heap.size ≤ bx) (hbm : bx + 367 ≤ bm) (hM : CTi l y ws rm D (tysX dA) (enX dA bx) 367 bx (qX adK adV 367 bx) (qr (some 0) :: is.map qi) Mx (r, M1)) (cw : CallW R s args own "PlainPage" index y bytes maxL ret ws rm 0 0 n) (hn : is.length = n) (hst : st0 = (is.map qi).reverse ++ qa bx :: st) (hl8 : st.length ≤ 8) (hcs : cs ≤ R.cells) (hsl : sl ≤ R.slots) (d : decode cc pc = .ok (.invokevirtual index, 3)) (k : QJ p l e_ R s m args below meth c (qB s.heap.size) 0 nL cs sl Q (qWL D dA bx bm M1 Mm) M (pc + 3) L (qi r :: st)) : QJ p l e_ R s m args below meth c (qB s.heap.size) 0 nL cs sl Q (qWL D dA bx bm Mx Mm) M pc L st0 := fun H locs ls P S hl => by
  have S1 : va_S (qA 367 bx) s.heap H [] := ⟨S.1, fun q h1 _ => S.2.1 q h1 (fun h3 => by have h4 : s.heap.size ≤ q := h3; omega), fun _ h => by cases h⟩
  refine va_calli (va_runV (Ts := lw_g) (C := "PlainPage") (As := (is.map qi).map (qv bx)) (rest := st.map (qv 0)) (b := bx + 0) ⟨hx, hb, hml, hown, hts⟩ hM cw ⟨q_blind (qX_ok _ _ _ _), q_recv (o := 0) hK P.1.2 (by decide) (en_0 (rfl : tcX 0 = 0)) rfl, q_pre (av := qr (some 0) :: is.map qi) (qX_ok _ _ _ _) hs hK P.1.1 P.1.2 S1⟩ rfl (by simp [hn]) hl.1 (by rw [hst]; simp [F0, qv, Function.comp_def]) (lv_room (by rw [q_sum]; exact hl8)) d ⟨hcs, hsl⟩) S (fun q _ h => ?_) (fun q h => ?_) (fun r0 u t H1 locs1 ht _ hp hB _ hk hS => ?_)
  · have := h.1
    show s.heap.size ≤ q
    omega
  · have := h.1
    show s.heap.size ≤ q
    omega
  · cases hp
    exact k H1 locs1 ls ⟨⟨hB.1, by rw [← ht]; exact hB.2⟩, qWd_kept P.2 fun q h1 h2 h3 => hk q h1 (fun h => by have := h.2; omega)⟩ hS hl
theorem ql_Xv (hx : p.tables.exec = Jvm.exec) (hb : c.code = cc) (hml : c.maxLocals = nL) (hown : s.vm.findClass own = some m.cls) (hts : ∀ w ∈ lw_g, w.before args s = true) (hK : va_K D vwCl (tysX dA) s) (hs : qX adK adV 367 bx s) (hbx : s.heap.size ≤ bx) (hbm : bx + 367 ≤ bm) (hM : CTv l y ws rm D (tysX dA) (enX dA bx) 367 bx (qX adK adV 367 bx) (qr (some 0) :: is.map qi) Mx M1) (cw : CallW R s args own "PlainPage" index y bytes maxL ret ws rm 0 0 n) (hn : is.length = n) (hst : st0 = (is.map qi).reverse ++ qa bx :: st) (hl8 : st.length ≤ 8) (hcs : cs ≤ R.cells) (hsl : sl ≤ R.slots) (d : decode cc pc = .ok (.invokevirtual index, 3)) (k : QJ p l e_ R s m args below meth c (qB s.heap.size) 0 nL cs sl Q (qWL D dA bx bm M1 Mm) M (pc + 3) L (st)) : QJ p l e_ R s m args below meth c (qB s.heap.size) 0 nL cs sl Q (qWL D dA bx bm Mx Mm) M pc L st0 := fun H locs ls P S hl => by
  have S1 : va_S (qA 367 bx) s.heap H [] := ⟨S.1, fun q h1 _ => S.2.1 q h1 (fun h3 => by have h4 : s.heap.size ≤ q := h3; omega), fun _ h => by cases h⟩
  refine va_callv (va_runV (Ts := lw_g) (C := "PlainPage") (As := (is.map qi).map (qv bx)) (rest := st.map (qv 0)) (b := bx + 0) ⟨hx, hb, hml, hown, hts⟩ hM cw ⟨q_blind (qX_ok _ _ _ _), q_recv (o := 0) hK P.1.2 (by decide) (en_0 (rfl : tcX 0 = 0)) rfl, q_pre (av := qr (some 0) :: is.map qi) (qX_ok _ _ _ _) hs hK P.1.1 P.1.2 S1⟩ rfl (by simp [hn]) hl.1 (by rw [hst]; simp [F0, qv, Function.comp_def]) (lv_room (by rw [q_sum]; exact hl8)) d ⟨hcs, hsl⟩) S (fun q _ h => ?_) (fun q h => ?_) (fun u t H1 locs1 ht _ hp hB _ hk hS => ?_)
  · have := h.1
    show s.heap.size ≤ q
    omega
  · have := h.1
    show s.heap.size ≤ q
    omega
  · cases hp
    exact k H1 locs1 ls ⟨⟨hB.1, by rw [← ht]; exact hB.2⟩, qWd_kept P.2 fun q h1 h2 h3 => hk q h1 (fun h => by have := h.2; omega)⟩ hS hl
theorem ql_Mi (hx : p.tables.exec = Jvm.exec) (hb : c.code = cc) {r : Int32} (hml : c.maxLocals = nL) (hown : s.vm.findClass own = some m.cls) (hts : ∀ w ∈ lw_g, w.before args s = true) (hK : va_K D vwCl (tysX dA) s) (hbx : s.heap.size ≤ bx) (hbm : bx + 367 ≤ bm) (hM : CTi l y ws rm D (tysX dA) (enM dA bm) 38 bm ((fun _ => True)) (qr (some 0) :: is.map qi) Mm (r, M1)) (cw : CallW R s args own "PlainPageModel" index y bytes maxL ret ws rm 0 0 n) (hn : is.length = n) (hst : st0 = (is.map qi).reverse ++ qa bm :: st) (hl8 : st.length ≤ 8) (hcs : cs ≤ R.cells) (hsl : sl ≤ R.slots) (d : decode cc pc = .ok (.invokevirtual index, 3)) (k : QJ p l e_ R s m args below meth c (qB s.heap.size) 0 nL cs sl Q (qWL D dA bx bm Mx M1) M (pc + 3) L (qi r :: st)) : QJ p l e_ R s m args below meth c (qB s.heap.size) 0 nL cs sl Q (qWL D dA bx bm Mx Mm) M pc L st0 := fun H locs ls P S hl => by
  have S1 : va_S (qA 38 bm) s.heap H [] := ⟨S.1, fun q h1 _ => S.2.1 q h1 (fun h3 => by have h4 : s.heap.size ≤ q := h3; omega), fun _ h => by cases h⟩
  refine va_calli (va_runV (Ts := lw_g) (C := "PlainPageModel") (As := (is.map qi).map (qv bm)) (rest := st.map (qv 0)) (b := bm + 0) ⟨hx, hb, hml, hown, hts⟩ hM cw ⟨q_blind qT_ok, q_recv (o := 0) hK P.2.2 (by decide) rfl rfl, q_pre (av := qr (some 0) :: is.map qi) qT_ok trivial hK P.2.1 P.2.2 S1⟩ rfl (by simp [hn]) hl.1 (by rw [hst]; simp [F0, qv, Function.comp_def]) (lv_room (by rw [q_sum]; exact hl8)) d ⟨hcs, hsl⟩) S (fun q _ h => ?_) (fun q h => ?_) (fun r0 u t H1 locs1 ht _ hp hB _ hk hS => ?_)
  · have := h.1
    show s.heap.size ≤ q
    omega
  · have := h.1
    show s.heap.size ≤ q
    omega
  · cases hp
    exact k H1 locs1 ls ⟨qWd_kept P.1 fun q h1 h2 h3 => hk q h1 (fun h => by have := h.1; omega), ⟨hB.1, by rw [← ht]; exact hB.2⟩⟩ hS hl
theorem ql_Mv (hx : p.tables.exec = Jvm.exec) (hb : c.code = cc) (hml : c.maxLocals = nL) (hown : s.vm.findClass own = some m.cls) (hts : ∀ w ∈ lw_g, w.before args s = true) (hK : va_K D vwCl (tysX dA) s) (hbx : s.heap.size ≤ bx) (hbm : bx + 367 ≤ bm) (hM : CTv l y ws rm D (tysX dA) (enM dA bm) 38 bm ((fun _ => True)) (qr (some 0) :: is.map qi) Mm M1) (cw : CallW R s args own "PlainPageModel" index y bytes maxL ret ws rm 0 0 n) (hn : is.length = n) (hst : st0 = (is.map qi).reverse ++ qa bm :: st) (hl8 : st.length ≤ 8) (hcs : cs ≤ R.cells) (hsl : sl ≤ R.slots) (d : decode cc pc = .ok (.invokevirtual index, 3)) (k : QJ p l e_ R s m args below meth c (qB s.heap.size) 0 nL cs sl Q (qWL D dA bx bm Mx M1) M (pc + 3) L (st)) : QJ p l e_ R s m args below meth c (qB s.heap.size) 0 nL cs sl Q (qWL D dA bx bm Mx Mm) M pc L st0 := fun H locs ls P S hl => by
  have S1 : va_S (qA 38 bm) s.heap H [] := ⟨S.1, fun q h1 _ => S.2.1 q h1 (fun h3 => by have h4 : s.heap.size ≤ q := h3; omega), fun _ h => by cases h⟩
  refine va_callv (va_runV (Ts := lw_g) (C := "PlainPageModel") (As := (is.map qi).map (qv bm)) (rest := st.map (qv 0)) (b := bm + 0) ⟨hx, hb, hml, hown, hts⟩ hM cw ⟨q_blind qT_ok, q_recv (o := 0) hK P.2.2 (by decide) rfl rfl, q_pre (av := qr (some 0) :: is.map qi) qT_ok trivial hK P.2.1 P.2.2 S1⟩ rfl (by simp [hn]) hl.1 (by rw [hst]; simp [F0, qv, Function.comp_def]) (lv_room (by rw [q_sum]; exact hl8)) d ⟨hcs, hsl⟩) S (fun q _ h => ?_) (fun q h => ?_) (fun u t H1 locs1 ht _ hp hB _ hk hS => ?_)
  · have := h.1
    show s.heap.size ≤ q
    omega
  · have := h.1
    show s.heap.size ≤ q
    omega
  · cases hp
    exact k H1 locs1 ls ⟨qWd_kept P.1 fun q h1 h2 h3 => hk q h1 (fun h => by have := h.1; omega), ⟨hB.1, by rw [← ht]; exact hB.2⟩⟩ hS hl
end QLW
set_option maxRecDepth 10000 in
theorem tn_0 : Cond.code y_Pg_html prog_1_method_2_code 2 (some .boolean) ∈ lw_g := q_g (q_t3 (List.mem_of_getElem? (i := 6) rfl)) rfl
set_option maxRecDepth 10000 in
theorem tn_1 : Cond.methodLink "PlainPageLaw" 13 y_Pg_html ∈ lw_g := q_g (q_t3 (List.mem_of_getElem? (i := 3) rfl)) rfl
set_option maxRecDepth 10000 in
theorem tn_2 : Cond.instanceMethod y_Pg_html ∈ lw_g := q_g (q_t3 (List.mem_of_getElem? (i := 4) rfl)) rfl
set_option maxRecDepth 10000 in
theorem tn_3 : Cond.selects "PlainPage" y_Pg_html y_Pg_html ∈ lw_g := q_g (q_t3 (List.mem_of_getElem? (i := 5) rfl)) rfl
set_option maxRecDepth 10000 in
theorem tn_4 : Cond.code y_Md_html prog_14_method_2_code 2 (some .boolean) ∈ lw_g := q_g (q_t5 (List.mem_of_getElem? (i := 218) rfl)) rfl
set_option maxRecDepth 10000 in
theorem tn_5 : Cond.methodLink "PlainPageLaw" 17 y_Md_html ∈ lw_g := q_g (q_t5 (List.mem_of_getElem? (i := 215) rfl)) rfl
set_option maxRecDepth 10000 in
theorem tn_6 : Cond.instanceMethod y_Md_html ∈ lw_g := q_g (q_t5 (List.mem_of_getElem? (i := 216) rfl)) rfl
set_option maxRecDepth 10000 in
theorem tn_7 : Cond.selects "PlainPageModel" y_Md_html y_Md_html ∈ lw_g := q_g (q_t5 (List.mem_of_getElem? (i := 217) rfl)) rfl
set_option maxRecDepth 10000 in
theorem tn_8 : Cond.code y_Pg_css prog_1_method_3_code 2 (some .boolean) ∈ lw_g := q_g (q_t4 (List.mem_of_getElem? (i := 48) rfl)) rfl
set_option maxRecDepth 10000 in
theorem tn_9 : Cond.methodLink "PlainPageLaw" 18 y_Pg_css ∈ lw_g := q_g (q_t4 (List.mem_of_getElem? (i := 45) rfl)) rfl
set_option maxRecDepth 10000 in
theorem tn_10 : Cond.instanceMethod y_Pg_css ∈ lw_g := q_g (q_t4 (List.mem_of_getElem? (i := 46) rfl)) rfl
set_option maxRecDepth 10000 in
theorem tn_11 : Cond.selects "PlainPage" y_Pg_css y_Pg_css ∈ lw_g := q_g (q_t4 (List.mem_of_getElem? (i := 47) rfl)) rfl
set_option maxRecDepth 10000 in
theorem tn_12 : Cond.code y_Md_css prog_14_method_3_code 2 (some .boolean) ∈ lw_g := q_g (q_t6 (List.mem_of_getElem? (i := 101) rfl)) rfl
set_option maxRecDepth 10000 in
theorem tn_13 : Cond.methodLink "PlainPageLaw" 21 y_Md_css ∈ lw_g := q_g (q_t6 (List.mem_of_getElem? (i := 98) rfl)) rfl
set_option maxRecDepth 10000 in
theorem tn_14 : Cond.instanceMethod y_Md_css ∈ lw_g := q_g (q_t6 (List.mem_of_getElem? (i := 99) rfl)) rfl
set_option maxRecDepth 10000 in
theorem tn_15 : Cond.selects "PlainPageModel" y_Md_css y_Md_css ∈ lw_g := q_g (q_t6 (List.mem_of_getElem? (i := 100) rfl)) rfl
set_option maxRecDepth 10000 in
theorem tn_16 : Cond.code y_Pg_clear prog_1_method_4_code 1 none ∈ lw_g := q_g (q_t4 (List.mem_of_getElem? (i := 98) rfl)) rfl
set_option maxRecDepth 10000 in
theorem tn_17 : Cond.methodLink "PlainPageLaw" 22 y_Pg_clear ∈ lw_g := q_g (q_t4 (List.mem_of_getElem? (i := 95) rfl)) rfl
set_option maxRecDepth 10000 in
theorem tn_18 : Cond.instanceMethod y_Pg_clear ∈ lw_g := q_g (q_t4 (List.mem_of_getElem? (i := 96) rfl)) rfl
set_option maxRecDepth 10000 in
theorem tn_19 : Cond.selects "PlainPage" y_Pg_clear y_Pg_clear ∈ lw_g := q_g (q_t4 (List.mem_of_getElem? (i := 97) rfl)) rfl
set_option maxRecDepth 10000 in
theorem tn_20 : Cond.code y_Md_clear prog_14_method_4_code 1 none ∈ lw_g := q_g (q_t6 (List.mem_of_getElem? (i := 105) rfl)) rfl
set_option maxRecDepth 10000 in
theorem tn_21 : Cond.methodLink "PlainPageLaw" 25 y_Md_clear ∈ lw_g := q_g (q_t6 (List.mem_of_getElem? (i := 102) rfl)) rfl
set_option maxRecDepth 10000 in
theorem tn_22 : Cond.instanceMethod y_Md_clear ∈ lw_g := q_g (q_t6 (List.mem_of_getElem? (i := 103) rfl)) rfl
set_option maxRecDepth 10000 in
theorem tn_23 : Cond.selects "PlainPageModel" y_Md_clear y_Md_clear ∈ lw_g := q_g (q_t6 (List.mem_of_getElem? (i := 104) rfl)) rfl
set_option maxRecDepth 10000 in
theorem tn_24 : Cond.code y_Pg_nodes prog_1_method_5_code 1 (some .int) ∈ lw_g := q_g (q_t4 (List.mem_of_getElem? (i := 102) rfl)) rfl
set_option maxRecDepth 10000 in
theorem tn_25 : Cond.methodLink "PlainPageLaw" 26 y_Pg_nodes ∈ lw_g := q_g (q_t4 (List.mem_of_getElem? (i := 99) rfl)) rfl
set_option maxRecDepth 10000 in
theorem tn_26 : Cond.instanceMethod y_Pg_nodes ∈ lw_g := q_g (q_t4 (List.mem_of_getElem? (i := 100) rfl)) rfl
set_option maxRecDepth 10000 in
theorem tn_27 : Cond.selects "PlainPage" y_Pg_nodes y_Pg_nodes ∈ lw_g := q_g (q_t4 (List.mem_of_getElem? (i := 101) rfl)) rfl
set_option maxRecDepth 10000 in
theorem tn_28 : Cond.code y_Md_nodes prog_14_method_36_code 1 (some .int) ∈ lw_g := q_g (q_t6 (List.mem_of_getElem? (i := 109) rfl)) rfl
set_option maxRecDepth 10000 in
theorem tn_29 : Cond.methodLink "PlainPageLaw" 30 y_Md_nodes ∈ lw_g := q_g (q_t6 (List.mem_of_getElem? (i := 106) rfl)) rfl
set_option maxRecDepth 10000 in
theorem tn_30 : Cond.instanceMethod y_Md_nodes ∈ lw_g := q_g (q_t6 (List.mem_of_getElem? (i := 107) rfl)) rfl
set_option maxRecDepth 10000 in
theorem tn_31 : Cond.selects "PlainPageModel" y_Md_nodes y_Md_nodes ∈ lw_g := q_g (q_t6 (List.mem_of_getElem? (i := 108) rfl)) rfl
set_option maxRecDepth 10000 in
theorem tn_32 : Cond.code y_Pg_name prog_1_method_6_code 3 (some .int) ∈ lw_g := q_g (q_t4 (List.mem_of_getElem? (i := 106) rfl)) rfl
set_option maxRecDepth 10000 in
theorem tn_33 : Cond.methodLink "PlainPageLaw" 31 y_Pg_name ∈ lw_g := q_g (q_t4 (List.mem_of_getElem? (i := 103) rfl)) rfl
set_option maxRecDepth 10000 in
theorem tn_34 : Cond.instanceMethod y_Pg_name ∈ lw_g := q_g (q_t4 (List.mem_of_getElem? (i := 104) rfl)) rfl
set_option maxRecDepth 10000 in
theorem tn_35 : Cond.selects "PlainPage" y_Pg_name y_Pg_name ∈ lw_g := q_g (q_t4 (List.mem_of_getElem? (i := 105) rfl)) rfl
set_option maxRecDepth 10000 in
theorem tn_36 : Cond.code y_Md_name prog_14_method_37_code 2 (some .int) ∈ lw_g := q_g (q_t6 (List.mem_of_getElem? (i := 113) rfl)) rfl
set_option maxRecDepth 10000 in
theorem tn_37 : Cond.methodLink "PlainPageLaw" 35 y_Md_name ∈ lw_g := q_g (q_t6 (List.mem_of_getElem? (i := 110) rfl)) rfl
set_option maxRecDepth 10000 in
theorem tn_38 : Cond.instanceMethod y_Md_name ∈ lw_g := q_g (q_t6 (List.mem_of_getElem? (i := 111) rfl)) rfl
set_option maxRecDepth 10000 in
theorem tn_39 : Cond.selects "PlainPageModel" y_Md_name y_Md_name ∈ lw_g := q_g (q_t6 (List.mem_of_getElem? (i := 112) rfl)) rfl
set_option maxRecDepth 10000 in
theorem tn_40 : Cond.code y_Pg_parent prog_1_method_7_code 3 (some .int) ∈ lw_g := q_g (q_t4 (List.mem_of_getElem? (i := 114) rfl)) rfl
set_option maxRecDepth 10000 in
theorem tn_41 : Cond.methodLink "PlainPageLaw" 36 y_Pg_parent ∈ lw_g := q_g (q_t4 (List.mem_of_getElem? (i := 111) rfl)) rfl
set_option maxRecDepth 10000 in
theorem tn_42 : Cond.instanceMethod y_Pg_parent ∈ lw_g := q_g (q_t4 (List.mem_of_getElem? (i := 112) rfl)) rfl
set_option maxRecDepth 10000 in
theorem tn_43 : Cond.selects "PlainPage" y_Pg_parent y_Pg_parent ∈ lw_g := q_g (q_t4 (List.mem_of_getElem? (i := 113) rfl)) rfl
set_option maxRecDepth 10000 in
theorem tn_44 : Cond.code y_Md_parent prog_14_method_39_code 2 (some .int) ∈ lw_g := q_g (q_t6 (List.mem_of_getElem? (i := 121) rfl)) rfl
set_option maxRecDepth 10000 in
theorem tn_45 : Cond.methodLink "PlainPageLaw" 39 y_Md_parent ∈ lw_g := q_g (q_t6 (List.mem_of_getElem? (i := 118) rfl)) rfl
set_option maxRecDepth 10000 in
theorem tn_46 : Cond.instanceMethod y_Md_parent ∈ lw_g := q_g (q_t6 (List.mem_of_getElem? (i := 119) rfl)) rfl
set_option maxRecDepth 10000 in
theorem tn_47 : Cond.selects "PlainPageModel" y_Md_parent y_Md_parent ∈ lw_g := q_g (q_t6 (List.mem_of_getElem? (i := 120) rfl)) rfl
set_option maxRecDepth 10000 in
theorem tn_48 : Cond.code y_Pg_classes prog_1_method_8_code 3 (some .int) ∈ lw_g := q_g (q_t4 (List.mem_of_getElem? (i := 118) rfl)) rfl
set_option maxRecDepth 10000 in
theorem tn_49 : Cond.methodLink "PlainPageLaw" 40 y_Pg_classes ∈ lw_g := q_g (q_t4 (List.mem_of_getElem? (i := 115) rfl)) rfl
set_option maxRecDepth 10000 in
theorem tn_50 : Cond.instanceMethod y_Pg_classes ∈ lw_g := q_g (q_t4 (List.mem_of_getElem? (i := 116) rfl)) rfl
set_option maxRecDepth 10000 in
theorem tn_51 : Cond.selects "PlainPage" y_Pg_classes y_Pg_classes ∈ lw_g := q_g (q_t4 (List.mem_of_getElem? (i := 117) rfl)) rfl
set_option maxRecDepth 10000 in
theorem tn_52 : Cond.code y_Md_classes prog_14_method_40_code 2 (some .int) ∈ lw_g := q_g (q_t6 (List.mem_of_getElem? (i := 129) rfl)) rfl
set_option maxRecDepth 10000 in
theorem tn_53 : Cond.methodLink "PlainPageLaw" 43 y_Md_classes ∈ lw_g := q_g (q_t6 (List.mem_of_getElem? (i := 126) rfl)) rfl
set_option maxRecDepth 10000 in
theorem tn_54 : Cond.instanceMethod y_Md_classes ∈ lw_g := q_g (q_t6 (List.mem_of_getElem? (i := 127) rfl)) rfl
set_option maxRecDepth 10000 in
theorem tn_55 : Cond.selects "PlainPageModel" y_Md_classes y_Md_classes ∈ lw_g := q_g (q_t6 (List.mem_of_getElem? (i := 128) rfl)) rfl
set_option maxRecDepth 10000 in
theorem tn_56 : Cond.code y_Pg_letter prog_1_method_9_code 4 (some .int) ∈ lw_g := q_g (q_t4 (List.mem_of_getElem? (i := 122) rfl)) rfl
set_option maxRecDepth 10000 in
theorem tn_57 : Cond.methodLink "PlainPageLaw" 44 y_Pg_letter ∈ lw_g := q_g (q_t4 (List.mem_of_getElem? (i := 119) rfl)) rfl
set_option maxRecDepth 10000 in
theorem tn_58 : Cond.instanceMethod y_Pg_letter ∈ lw_g := q_g (q_t4 (List.mem_of_getElem? (i := 120) rfl)) rfl
set_option maxRecDepth 10000 in
theorem tn_59 : Cond.selects "PlainPage" y_Pg_letter y_Pg_letter ∈ lw_g := q_g (q_t4 (List.mem_of_getElem? (i := 121) rfl)) rfl
set_option maxRecDepth 10000 in
theorem tn_60 : Cond.code y_Md_letter prog_14_method_42_code 4 (some .int) ∈ lw_g := q_g (q_t6 (List.mem_of_getElem? (i := 133) rfl)) rfl
set_option maxRecDepth 10000 in
theorem tn_61 : Cond.methodLink "PlainPageLaw" 48 y_Md_letter ∈ lw_g := q_g (q_t6 (List.mem_of_getElem? (i := 130) rfl)) rfl
set_option maxRecDepth 10000 in
theorem tn_62 : Cond.instanceMethod y_Md_letter ∈ lw_g := q_g (q_t6 (List.mem_of_getElem? (i := 131) rfl)) rfl
set_option maxRecDepth 10000 in
theorem tn_63 : Cond.selects "PlainPageModel" y_Md_letter y_Md_letter ∈ lw_g := q_g (q_t6 (List.mem_of_getElem? (i := 132) rfl)) rfl
set_option maxRecDepth 10000 in
theorem tn_64 : Cond.code y_Pg_open prog_1_method_10_code 1 (some .int) ∈ lw_g := q_g (q_t4 (List.mem_of_getElem? (i := 131) rfl)) rfl
set_option maxRecDepth 10000 in
theorem tn_65 : Cond.methodLink "PlainPageLaw" 49 y_Pg_open ∈ lw_g := q_g (q_t4 (List.mem_of_getElem? (i := 128) rfl)) rfl
set_option maxRecDepth 10000 in
theorem tn_66 : Cond.instanceMethod y_Pg_open ∈ lw_g := q_g (q_t4 (List.mem_of_getElem? (i := 129) rfl)) rfl
set_option maxRecDepth 10000 in
theorem tn_67 : Cond.selects "PlainPage" y_Pg_open y_Pg_open ∈ lw_g := q_g (q_t4 (List.mem_of_getElem? (i := 130) rfl)) rfl
set_option maxRecDepth 10000 in
theorem tn_68 : Cond.code y_Md_open prog_14_method_43_code 1 (some .int) ∈ lw_g := q_g (q_t6 (List.mem_of_getElem? (i := 141) rfl)) rfl
set_option maxRecDepth 10000 in
theorem tn_69 : Cond.methodLink "PlainPageLaw" 52 y_Md_open ∈ lw_g := q_g (q_t6 (List.mem_of_getElem? (i := 138) rfl)) rfl
set_option maxRecDepth 10000 in
theorem tn_70 : Cond.instanceMethod y_Md_open ∈ lw_g := q_g (q_t6 (List.mem_of_getElem? (i := 139) rfl)) rfl
set_option maxRecDepth 10000 in
theorem tn_71 : Cond.selects "PlainPageModel" y_Md_open y_Md_open ∈ lw_g := q_g (q_t6 (List.mem_of_getElem? (i := 140) rfl)) rfl
set_option maxRecDepth 10000 in
theorem tn_72 : Cond.code y_Pg_rules prog_1_method_11_code 1 (some .int) ∈ lw_g := q_g (q_t4 (List.mem_of_getElem? (i := 135) rfl)) rfl
set_option maxRecDepth 10000 in
theorem tn_73 : Cond.methodLink "PlainPageLaw" 53 y_Pg_rules ∈ lw_g := q_g (q_t4 (List.mem_of_getElem? (i := 132) rfl)) rfl
set_option maxRecDepth 10000 in
theorem tn_74 : Cond.instanceMethod y_Pg_rules ∈ lw_g := q_g (q_t4 (List.mem_of_getElem? (i := 133) rfl)) rfl
set_option maxRecDepth 10000 in
theorem tn_75 : Cond.selects "PlainPage" y_Pg_rules y_Pg_rules ∈ lw_g := q_g (q_t4 (List.mem_of_getElem? (i := 134) rfl)) rfl
set_option maxRecDepth 10000 in
theorem tn_76 : Cond.code y_Md_rules prog_14_method_44_code 1 (some .int) ∈ lw_g := q_g (q_t6 (List.mem_of_getElem? (i := 145) rfl)) rfl
set_option maxRecDepth 10000 in
theorem tn_77 : Cond.methodLink "PlainPageLaw" 56 y_Md_rules ∈ lw_g := q_g (q_t6 (List.mem_of_getElem? (i := 142) rfl)) rfl
set_option maxRecDepth 10000 in
theorem tn_78 : Cond.instanceMethod y_Md_rules ∈ lw_g := q_g (q_t6 (List.mem_of_getElem? (i := 143) rfl)) rfl
set_option maxRecDepth 10000 in
theorem tn_79 : Cond.selects "PlainPageModel" y_Md_rules y_Md_rules ∈ lw_g := q_g (q_t6 (List.mem_of_getElem? (i := 144) rfl)) rfl
set_option maxRecDepth 10000 in
theorem tn_80 : Cond.code y_Pg_value prog_1_method_12_code 5 (some .int) ∈ lw_g := q_g (q_t4 (List.mem_of_getElem? (i := 139) rfl)) rfl
set_option maxRecDepth 10000 in
theorem tn_81 : Cond.methodLink "PlainPageLaw" 57 y_Pg_value ∈ lw_g := q_g (q_t4 (List.mem_of_getElem? (i := 136) rfl)) rfl
set_option maxRecDepth 10000 in
theorem tn_82 : Cond.instanceMethod y_Pg_value ∈ lw_g := q_g (q_t4 (List.mem_of_getElem? (i := 137) rfl)) rfl
set_option maxRecDepth 10000 in
theorem tn_83 : Cond.selects "PlainPage" y_Pg_value y_Pg_value ∈ lw_g := q_g (q_t4 (List.mem_of_getElem? (i := 138) rfl)) rfl
set_option maxRecDepth 10000 in
theorem tn_84 : Cond.code y_Md_value prog_14_method_56_code 4 (some .int) ∈ lw_g := q_g (q_t6 (List.mem_of_getElem? (i := 165) rfl)) rfl
set_option maxRecDepth 10000 in
theorem tn_85 : Cond.methodLink "PlainPageLaw" 61 y_Md_value ∈ lw_g := q_g (q_t6 (List.mem_of_getElem? (i := 162) rfl)) rfl
set_option maxRecDepth 10000 in
theorem tn_86 : Cond.instanceMethod y_Md_value ∈ lw_g := q_g (q_t6 (List.mem_of_getElem? (i := 163) rfl)) rfl
set_option maxRecDepth 10000 in
theorem tn_87 : Cond.selects "PlainPageModel" y_Md_value y_Md_value ∈ lw_g := q_g (q_t6 (List.mem_of_getElem? (i := 164) rfl)) rfl
set_option maxRecDepth 10000 in
theorem tn_88 : Cond.code y_Pg_layout prog_1_method_13_code 2 (some .int) ∈ lw_g := q_g (q_t4 (List.mem_of_getElem? (i := 192) rfl)) rfl
set_option maxRecDepth 10000 in
theorem tn_89 : Cond.methodLink "PlainPageLaw" 62 y_Pg_layout ∈ lw_g := q_g (q_t4 (List.mem_of_getElem? (i := 189) rfl)) rfl
set_option maxRecDepth 10000 in
theorem tn_90 : Cond.instanceMethod y_Pg_layout ∈ lw_g := q_g (q_t4 (List.mem_of_getElem? (i := 190) rfl)) rfl
set_option maxRecDepth 10000 in
theorem tn_91 : Cond.selects "PlainPage" y_Pg_layout y_Pg_layout ∈ lw_g := q_g (q_t4 (List.mem_of_getElem? (i := 191) rfl)) rfl
set_option maxRecDepth 10000 in
theorem tn_92 : Cond.code y_Md_layout prog_14_method_57_code 3 (some .int) ∈ lw_g := q_g (q_t6 (List.mem_of_getElem? (i := 197) rfl)) rfl
set_option maxRecDepth 10000 in
theorem tn_93 : Cond.methodLink "PlainPageLaw" 65 y_Md_layout ∈ lw_g := q_g (q_t6 (List.mem_of_getElem? (i := 194) rfl)) rfl
set_option maxRecDepth 10000 in
theorem tn_94 : Cond.instanceMethod y_Md_layout ∈ lw_g := q_g (q_t6 (List.mem_of_getElem? (i := 195) rfl)) rfl
set_option maxRecDepth 10000 in
theorem tn_95 : Cond.selects "PlainPageModel" y_Md_layout y_Md_layout ∈ lw_g := q_g (q_t6 (List.mem_of_getElem? (i := 196) rfl)) rfl
set_option maxRecDepth 10000 in
theorem tn_96 : Cond.code y_Pg_box prog_1_method_14_code 4 (some .int) ∈ lw_g := q_g (q_t5 (List.mem_of_getElem? (i := 6) rfl)) rfl
set_option maxRecDepth 10000 in
theorem tn_97 : Cond.methodLink "PlainPageLaw" 66 y_Pg_box ∈ lw_g := q_g (q_t5 (List.mem_of_getElem? (i := 3) rfl)) rfl
set_option maxRecDepth 10000 in
theorem tn_98 : Cond.instanceMethod y_Pg_box ∈ lw_g := q_g (q_t5 (List.mem_of_getElem? (i := 4) rfl)) rfl
set_option maxRecDepth 10000 in
theorem tn_99 : Cond.selects "PlainPage" y_Pg_box y_Pg_box ∈ lw_g := q_g (q_t5 (List.mem_of_getElem? (i := 5) rfl)) rfl
set_option maxRecDepth 10000 in
theorem tn_100 : Cond.code y_Md_box prog_14_method_70_code 3 (some .int) ∈ lw_g := q_g (q_t7 (List.mem_of_getElem? (i := 9) rfl)) rfl
set_option maxRecDepth 10000 in
theorem tn_101 : Cond.methodLink "PlainPageLaw" 69 y_Md_box ∈ lw_g := q_g (q_t7 (List.mem_of_getElem? (i := 6) rfl)) rfl
set_option maxRecDepth 10000 in
theorem tn_102 : Cond.instanceMethod y_Md_box ∈ lw_g := q_g (q_t7 (List.mem_of_getElem? (i := 7) rfl)) rfl
set_option maxRecDepth 10000 in
theorem tn_103 : Cond.selects "PlainPageModel" y_Md_box y_Md_box ∈ lw_g := q_g (q_t7 (List.mem_of_getElem? (i := 8) rfl)) rfl
set_option maxRecDepth 10000 in
theorem tn_104 : Cond.code y_Pg_place prog_1_method_15_code 4 (some .int) ∈ lw_g := q_g (q_t5 (List.mem_of_getElem? (i := 10) rfl)) rfl
set_option maxRecDepth 10000 in
theorem tn_105 : Cond.methodLink "PlainPageLaw" 70 y_Pg_place ∈ lw_g := q_g (q_t5 (List.mem_of_getElem? (i := 7) rfl)) rfl
set_option maxRecDepth 10000 in
theorem tn_106 : Cond.instanceMethod y_Pg_place ∈ lw_g := q_g (q_t5 (List.mem_of_getElem? (i := 8) rfl)) rfl
set_option maxRecDepth 10000 in
theorem tn_107 : Cond.selects "PlainPage" y_Pg_place y_Pg_place ∈ lw_g := q_g (q_t5 (List.mem_of_getElem? (i := 9) rfl)) rfl
set_option maxRecDepth 10000 in
theorem tn_108 : Cond.code y_Md_place prog_14_method_71_code 4 (some .int) ∈ lw_g := q_g (q_t7 (List.mem_of_getElem? (i := 13) rfl)) rfl
set_option maxRecDepth 10000 in
theorem tn_109 : Cond.methodLink "PlainPageLaw" 73 y_Md_place ∈ lw_g := q_g (q_t7 (List.mem_of_getElem? (i := 10) rfl)) rfl
set_option maxRecDepth 10000 in
theorem tn_110 : Cond.instanceMethod y_Md_place ∈ lw_g := q_g (q_t7 (List.mem_of_getElem? (i := 11) rfl)) rfl
set_option maxRecDepth 10000 in
theorem tn_111 : Cond.selects "PlainPageModel" y_Md_place y_Md_place ∈ lw_g := q_g (q_t7 (List.mem_of_getElem? (i := 12) rfl)) rfl
set_option maxRecDepth 10000 in
theorem tn_112 : Cond.code y_Pg_lines prog_1_method_16_code 1 (some .int) ∈ lw_g := q_g (q_t5 (List.mem_of_getElem? (i := 15) rfl)) rfl
set_option maxRecDepth 10000 in
theorem tn_113 : Cond.methodLink "PlainPageLaw" 74 y_Pg_lines ∈ lw_g := q_g (q_t5 (List.mem_of_getElem? (i := 12) rfl)) rfl
set_option maxRecDepth 10000 in
theorem tn_114 : Cond.instanceMethod y_Pg_lines ∈ lw_g := q_g (q_t5 (List.mem_of_getElem? (i := 13) rfl)) rfl
set_option maxRecDepth 10000 in
theorem tn_115 : Cond.selects "PlainPage" y_Pg_lines y_Pg_lines ∈ lw_g := q_g (q_t5 (List.mem_of_getElem? (i := 14) rfl)) rfl
set_option maxRecDepth 10000 in
theorem tn_116 : Cond.code y_Md_lines prog_14_method_72_code 1 (some .int) ∈ lw_g := q_g (q_t7 (List.mem_of_getElem? (i := 18) rfl)) rfl
set_option maxRecDepth 10000 in
theorem tn_117 : Cond.methodLink "PlainPageLaw" 77 y_Md_lines ∈ lw_g := q_g (q_t7 (List.mem_of_getElem? (i := 15) rfl)) rfl
set_option maxRecDepth 10000 in
theorem tn_118 : Cond.instanceMethod y_Md_lines ∈ lw_g := q_g (q_t7 (List.mem_of_getElem? (i := 16) rfl)) rfl
set_option maxRecDepth 10000 in
theorem tn_119 : Cond.selects "PlainPageModel" y_Md_lines y_Md_lines ∈ lw_g := q_g (q_t7 (List.mem_of_getElem? (i := 17) rfl)) rfl
set_option maxRecDepth 10000 in
theorem tn_120 : Cond.code y_Pg_pixel prog_1_method_17_code 3 (some .int) ∈ lw_g := q_g (q_t5 (List.mem_of_getElem? (i := 19) rfl)) rfl
set_option maxRecDepth 10000 in
theorem tn_121 : Cond.methodLink "PlainPageLaw" 78 y_Pg_pixel ∈ lw_g := q_g (q_t5 (List.mem_of_getElem? (i := 16) rfl)) rfl
set_option maxRecDepth 10000 in
theorem tn_122 : Cond.instanceMethod y_Pg_pixel ∈ lw_g := q_g (q_t5 (List.mem_of_getElem? (i := 17) rfl)) rfl
set_option maxRecDepth 10000 in
theorem tn_123 : Cond.selects "PlainPage" y_Pg_pixel y_Pg_pixel ∈ lw_g := q_g (q_t5 (List.mem_of_getElem? (i := 18) rfl)) rfl
set_option maxRecDepth 10000 in
theorem tn_124 : Cond.code y_Md_pixel prog_14_method_73_code 6 (some .int) ∈ lw_g := q_g (q_t7 (List.mem_of_getElem? (i := 22) rfl)) rfl
set_option maxRecDepth 10000 in
theorem tn_125 : Cond.methodLink "PlainPageLaw" 81 y_Md_pixel ∈ lw_g := q_g (q_t7 (List.mem_of_getElem? (i := 19) rfl)) rfl
set_option maxRecDepth 10000 in
theorem tn_126 : Cond.instanceMethod y_Md_pixel ∈ lw_g := q_g (q_t7 (List.mem_of_getElem? (i := 20) rfl)) rfl
set_option maxRecDepth 10000 in
theorem tn_127 : Cond.selects "PlainPageModel" y_Md_pixel y_Md_pixel ∈ lw_g := q_g (q_t7 (List.mem_of_getElem? (i := 21) rfl)) rfl
def qOp (j : Nat) (a1 a2 : Int32) (Mx Mm : qM) (I : qM → qM → Prop) : Prop := match j with
  | 0 => ∃ (r : Int32) (Mx1 : qM) (Mm1 : qM), f_Pg_html (a1.toUInt32 % 65536).toInt32 Mx = some (r, Mx1) ∧ f_Md_html (a1.toUInt32 % 65536).toInt32 Mm = some (r, Mm1) ∧ I Mx1 Mm1
  | 1 => ∃ (r : Int32) (Mx1 : qM) (Mm1 : qM), f_Pg_css (a1.toUInt32 % 65536).toInt32 Mx = some (r, Mx1) ∧ f_Md_css (a1.toUInt32 % 65536).toInt32 Mm = some (r, Mm1) ∧ I Mx1 Mm1
  | 2 => ∃ Mx1 Mm1, f_Pg_clear Mx = some Mx1 ∧ f_Md_clear Mm = some Mm1 ∧ I Mx1 Mm1
  | 3 => ∃ (r : Int32), f_Pg_nodes  Mx = some r ∧ f_Md_nodes  Mm = some r ∧ I Mx Mm
  | 4 => ∃ (r : Int32), f_Pg_name a1 Mx = some r ∧ f_Md_name a1 Mm = some r ∧ I Mx Mm
  | 5 => ∃ (r : Int32), f_Pg_parent a1 Mx = some r ∧ f_Md_parent a1 Mm = some r ∧ I Mx Mm
  | 6 => ∃ (r : Int32), f_Pg_classes a1 Mx = some r ∧ f_Md_classes a1 Mm = some r ∧ I Mx Mm
  | 7 => ∃ (r : Int32), f_Pg_letter a1 a2 Mx = some r ∧ f_Md_letter a1 a2 Mm = some r ∧ I Mx Mm
  | 8 => ∃ (r : Int32), f_Pg_open  Mx = some r ∧ f_Md_open  Mm = some r ∧ I Mx Mm
  | 9 => ∃ (r : Int32) (Mm1 : qM), f_Pg_rules  Mx = some r ∧ f_Md_rules  Mm = some (r, Mm1) ∧ I Mx Mm1
  | 10 => ∃ (r : Int32) (Mx1 : qM) (Mm1 : qM), f_Pg_value a1 (a2.toUInt32 % 65536).toInt32 Mx = some (r, Mx1) ∧ f_Md_value a1 (a2.toUInt32 % 65536).toInt32 Mm = some (r, Mm1) ∧ I Mx1 Mm1
  | 11 => ∃ (r : Int32) (Mx1 : qM) (Mm1 : qM), f_Pg_layout a1 Mx = some (r, Mx1) ∧ f_Md_layout a1 Mm = some (r, Mm1) ∧ I Mx1 Mm1
  | 12 => ∃ (r : Int32), f_Pg_box a1 a2 Mx = some r ∧ f_Md_box a1 a2 Mm = some r ∧ I Mx Mm
  | 13 => ∃ (r : Int32), f_Pg_place a1 a2 Mx = some r ∧ f_Md_place a1 a2 Mm = some r ∧ I Mx Mm
  | 14 => ∃ (r : Int32), f_Pg_lines  Mx = some r ∧ f_Md_lines  Mm = some r ∧ I Mx Mm
  | 15 => ∃ (r : Int32), f_Pg_pixel a1 a2 Mx = some r ∧ f_Md_pixel a1 a2 Mm = some r ∧ I Mx Mm
  | _ => I Mx Mm
