def f_ixF (c : Int32) : List Int32 → Nat → Int32
  | [], _ => -1
  | x :: l, k => if x = c then nI k else f_ixF c l (k + 1)
def f_indexOf (n : Nat) (c : Int32) : Option Int32 := if n < 12 then some (f_ixF c (bytS.getD n []) 0) else none
abbrev rm_ix : Room := { frames := 9, cells := 0, slots := 0, locals := 400 }
abbrev rm_fill : Room := { frames := 0, cells := 0, slots := 0, locals := 0 }
def f_fillL (len : Int32) (n o : Nat) (x : Int32) : Nat → Int32 → qM → Option qM
  | 0, _, _ => none
  | d + 1, i, M => if len ≤ i then some M else q_ix i n <| q_lt (qsI M o i.toNatClampNeg x) fun M1 => f_fillL len n o x d (i + 1) M1
def f_fill (n o : Nat) (x : Int32) (M : qM) : Option qM := f_fillL (nI n) n o x 1000 0 M
def y_String_isLatin1 : MethodName := ⟨"java/lang/String", "isLatin1", "()Z"⟩
def w_String_isLatin1 : List Cond := .code y_String_isLatin1 prog_17_method_154_code 1 (some .boolean) :: lw_g
def y_String_coder : MethodName := ⟨"java/lang/String", "coder", "()B"⟩
def w_String_coder : List Cond := .code y_String_coder prog_17_method_152_code 1 (some .byte) :: lw_g
def y_String_length : MethodName := ⟨"java/lang/String", "length", "()I"⟩
def w_String_length : List Cond := .code y_String_length prog_17_method_54_code 1 (some .int) :: lw_g
def y_SL1_canEncode : MethodName := ⟨"java/lang/StringLatin1", "canEncode", "(I)Z"⟩
def w_SL1_canEncode : List Cond := .code y_SL1_canEncode prog_18_method_4_code 1 (some .boolean) :: lw_g
def y_SL1_indexOfChar : MethodName := ⟨"java/lang/StringLatin1", "indexOfChar", "([BIII)I"⟩
def w_SL1_indexOfChar : List Cond := .code y_SL1_indexOfChar prog_18_method_23_code 6 (some .int) :: lw_g
def y_SL1_indexOf : MethodName := ⟨"java/lang/StringLatin1", "indexOf", "([BIII)I"⟩
def w_SL1_indexOf : List Cond := .code y_SL1_indexOf prog_18_method_22_code 4 (some .int) :: lw_g
def y_String_indexOf2 : MethodName := ⟨"java/lang/String", "indexOf", "(II)I"⟩
def w_String_indexOf2 : List Cond := .code y_String_indexOf2 prog_17_method_80_code 3 (some .int) :: lw_g
set_option maxRecDepth 10000 in
theorem tj_0 : Cond.fieldLink "java/lang/String" 38 "java/lang/String" "COMPACT_STRINGS" "Z" ∈ lw_g := q_g (q_t3 (List.mem_of_getElem? (i := 34) rfl)) rfl
set_option maxRecDepth 10000 in
theorem tj_1 : Cond.fieldLink "java/lang/String" 15 "java/lang/String" "coder" "B" ∈ lw_g := q_g (q_t7 (List.mem_of_getElem? (i := 27) rfl)) rfl
set_option maxRecDepth 10000 in
theorem tj_2 : Cond.fieldLink "java/lang/String" 9 "java/lang/String" "value" "[B" ∈ lw_g := q_g (q_t7 (List.mem_of_getElem? (i := 28) rfl)) rfl
set_option maxRecDepth 10000 in
theorem tj_3 : Cond.code y_String_coder prog_17_method_152_code 1 (some .byte) ∈ lw_g := q_g (q_t3 (List.mem_of_getElem? (i := 43) rfl)) rfl
set_option maxRecDepth 10000 in
theorem tj_4 : Cond.methodLink "java/lang/String" 335 y_String_coder ∈ lw_g := q_g (q_t3 (List.mem_of_getElem? (i := 40) rfl)) rfl
set_option maxRecDepth 10000 in
theorem tj_5 : Cond.instanceMethod y_String_coder ∈ lw_g := q_g (q_t3 (List.mem_of_getElem? (i := 41) rfl)) rfl
set_option maxRecDepth 10000 in
theorem tj_6 : Cond.selects "java/lang/String" y_String_coder y_String_coder ∈ lw_g := q_g (q_t3 (List.mem_of_getElem? (i := 42) rfl)) rfl
set_option maxRecDepth 10000 in
theorem tj_7 : Cond.code y_SL1_canEncode prog_18_method_4_code 1 (some .boolean) ∈ lw_g := q_g (q_t3 (List.mem_of_getElem? (i := 49) rfl)) rfl
set_option maxRecDepth 10000 in
theorem tj_8 : Cond.initialized "java/lang/StringLatin1" ∈ lw_g := q_g (q_t1 (List.mem_of_getElem? (i := 15) rfl)) rfl
set_option maxRecDepth 10000 in
theorem tj_9 : Cond.methodLink "java/lang/StringLatin1" 88 y_SL1_canEncode ∈ lw_g := q_g (q_t3 (List.mem_of_getElem? (i := 47) rfl)) rfl
set_option maxRecDepth 10000 in
theorem tj_10 : Cond.static y_SL1_canEncode ∈ lw_g := q_g (q_t3 (List.mem_of_getElem? (i := 48) rfl)) rfl
set_option maxRecDepth 10000 in
theorem tj_11 : Cond.methodLink "java/lang/StringLatin1" 92 Lib.Math.max.name ∈ lw_g := q_g (q_t3 (List.mem_of_getElem? (i := 50) rfl)) rfl
set_option maxRecDepth 10000 in
theorem tj_12 : Cond.methodLink "java/lang/StringLatin1" 38 Lib.Math.min.name ∈ lw_g := q_g (q_t3 (List.mem_of_getElem? (i := 53) rfl)) rfl
set_option maxRecDepth 10000 in
theorem tj_13 : Cond.static Lib.Math.min.name ∈ lw_g := q_g (q_t3 (List.mem_of_getElem? (i := 54) rfl)) rfl
set_option maxRecDepth 10000 in
theorem tj_14 : Cond.code Lib.Math.min.name Lib.Math.min.code 2 (some .int) ∈ lw_g := q_g (q_t3 (List.mem_of_getElem? (i := 55) rfl)) rfl
set_option maxRecDepth 10000 in
theorem tj_15 : Cond.code y_SL1_indexOfChar prog_18_method_23_code 6 (some .int) ∈ lw_g := q_g (q_t3 (List.mem_of_getElem? (i := 58) rfl)) rfl
set_option maxRecDepth 10000 in
theorem tj_16 : Cond.methodLink "java/lang/StringLatin1" 95 y_SL1_indexOfChar ∈ lw_g := q_g (q_t3 (List.mem_of_getElem? (i := 56) rfl)) rfl
set_option maxRecDepth 10000 in
theorem tj_17 : Cond.static y_SL1_indexOfChar ∈ lw_g := q_g (q_t3 (List.mem_of_getElem? (i := 57) rfl)) rfl
set_option maxRecDepth 10000 in
theorem tj_18 : Cond.code y_String_isLatin1 prog_17_method_154_code 1 (some .boolean) ∈ lw_g := q_g (q_t3 (List.mem_of_getElem? (i := 33) rfl)) rfl
set_option maxRecDepth 10000 in
theorem tj_19 : Cond.methodLink "java/lang/String" 492 y_String_isLatin1 ∈ lw_g := q_g (q_t3 (List.mem_of_getElem? (i := 30) rfl)) rfl
set_option maxRecDepth 10000 in
theorem tj_20 : Cond.instanceMethod y_String_isLatin1 ∈ lw_g := q_g (q_t3 (List.mem_of_getElem? (i := 31) rfl)) rfl
set_option maxRecDepth 10000 in
theorem tj_21 : Cond.selects "java/lang/String" y_String_isLatin1 y_String_isLatin1 ∈ lw_g := q_g (q_t3 (List.mem_of_getElem? (i := 32) rfl)) rfl
set_option maxRecDepth 10000 in
theorem tj_22 : Cond.code y_String_length prog_17_method_54_code 1 (some .int) ∈ lw_g := q_g (q_t3 (List.mem_of_getElem? (i := 39) rfl)) rfl
set_option maxRecDepth 10000 in
theorem tj_23 : Cond.methodLink "java/lang/String" 505 y_String_length ∈ lw_g := q_g (q_t3 (List.mem_of_getElem? (i := 36) rfl)) rfl
set_option maxRecDepth 10000 in
theorem tj_24 : Cond.instanceMethod y_String_length ∈ lw_g := q_g (q_t3 (List.mem_of_getElem? (i := 37) rfl)) rfl
set_option maxRecDepth 10000 in
theorem tj_25 : Cond.selects "java/lang/String" y_String_length y_String_length ∈ lw_g := q_g (q_t3 (List.mem_of_getElem? (i := 38) rfl)) rfl
set_option maxRecDepth 10000 in
theorem tj_26 : Cond.code y_SL1_indexOf prog_18_method_22_code 4 (some .int) ∈ lw_g := q_g (q_t3 (List.mem_of_getElem? (i := 46) rfl)) rfl
set_option maxRecDepth 10000 in
theorem tj_27 : Cond.methodLink "java/lang/String" 637 y_SL1_indexOf ∈ lw_g := q_g (q_t3 (List.mem_of_getElem? (i := 44) rfl)) rfl
set_option maxRecDepth 10000 in
theorem tj_28 : Cond.static y_SL1_indexOf ∈ lw_g := q_g (q_t3 (List.mem_of_getElem? (i := 45) rfl)) rfl
set_option maxRecDepth 10000 in
theorem tj_29 : Cond.code y_String_indexOf2 prog_17_method_80_code 3 (some .int) ∈ lw_g := q_g (q_t3 (List.mem_of_getElem? (i := 29) rfl)) rfl
set_option maxRecDepth 10000 in
theorem tj_30 : Cond.methodLink "java/lang/String" 633 y_String_indexOf2 ∈ lw_g := q_g (q_t3 (List.mem_of_getElem? (i := 26) rfl)) rfl
set_option maxRecDepth 10000 in
theorem tj_31 : Cond.instanceMethod y_String_indexOf2 ∈ lw_g := q_g (q_t3 (List.mem_of_getElem? (i := 27) rfl)) rfl
set_option maxRecDepth 10000 in
theorem tj_32 : Cond.selects "java/lang/String" y_String_indexOf2 y_String_indexOf2 ∈ lw_g := q_g (q_t3 (List.mem_of_getElem? (i := 28) rfl)) rfl
def q_st {β : Type} (n : Nat) (k : Option β) : Option β := if n < 12 then k else none
theorem q_st_s {β : Type} {n : Nat} {k : Option β} {out : β} (h : q_st n k = some out) : n < 12 ∧ k = some out := by
  unfold q_st at h
  by_cases hc : n < 12
  · rw [if_pos hc] at h; exact ⟨hc, h⟩
  · rw [if_neg hc] at h; cases h
section QJD
variable {p : Program} {l : Launch} {e : Env} {R : Room} {s : State} {m : MethodId} {args : Array Value} {below : List Frame} {meth : Method} {c : Code} {D : va_G} {tys : List (ClassId × FieldType)} {en : qE} {K b nL : Nat} {Q : State → Prop} {X : State → Prop} {M M1 : qM} {pc : Nat} {L : List (Nat × qV)} {st st0 as : List qV} {cc bytes : ByteArray} {own C : String} {index maxL n0 : Nat} {adK adV : Nat → Nat} {y : MethodName} {ws : List Cond} {rm : Room} {ret : Option FieldType}
theorem qj_gcs (hx : p.tables.exec = Jvm.exec) (hb : c.code = cc) (hs : qX adK adV K b s) (hown : s.vm.findClass own = some m.cls) (hlink : (Cond.fieldLink own index "java/lang/String" "COMPACT_STRINGS" "Z").before args s = true) (d : decode cc pc = .ok (.getstatic index, 3)) (k : QJ p l e R s m args below meth c (qA K b) b nL 0 0 Q (qWd D en K b) M (pc + 3) L (qi 1 :: st)) : QJ p l e R s m args below meth c (qA K b) b nL 0 0 Q (qWd D en K b) M pc L st := fun H locs ls P S hl => va_gets hx hb hs.2.2.2 S hown hlink (fun _ h => h) d (k H locs ls P S hl)
theorem qj_scod (hx : p.tables.exec = Jvm.exec) (hb : c.code = cc) {n : Nat} (hs : qX adK adV K b s) (hn : n < 12) (hown : s.vm.findClass own = some m.cls) (hlink : (Cond.fieldLink own index "java/lang/String" "coder" "B").before args s = true) (d : decode cc pc = .ok (.getfield index, 3)) (k : QJ p l e R s m args below meth c (qA K b) b nL 0 0 Q (qWd D en K b) M (pc + 3) L (qi 0 :: st)) : QJ p l e R s m args below meth c (qA K b) b nL 0 0 Q (qWd D en K b) M pc L (qa (adK n) :: st) := fun H locs ls P S hl => vk_getf hx hb (hs.1.1 n hn).2.1 S hown hlink (fun _ h => h) d (k H locs ls P S hl)
theorem qj_sval (hx : p.tables.exec = Jvm.exec) (hb : c.code = cc) {n : Nat} (hs : qX adK adV K b s) (hn : n < 12) (hown : s.vm.findClass own = some m.cls) (hlink : (Cond.fieldLink own index "java/lang/String" "value" "[B").before args s = true) (d : decode cc pc = .ok (.getfield index, 3)) (k : QJ p l e R s m args below meth c (qA K b) b nL 0 0 Q (qWd D en K b) M (pc + 3) L (qa (adV n) :: st)) : QJ p l e R s m args below meth c (qA K b) b nL 0 0 Q (qWd D en K b) M pc L (qa (adK n) :: st) := fun H locs ls P S hl => vk_getf hx hb (hs.1.1 n hn).2.2.1 S hown hlink (fun _ h => h) d (k H locs ls P S hl)
theorem qj_slen (hx : p.tables.exec = Jvm.exec) (hb : c.code = cc) {n : Nat} (hs : qX adK adV K b s) (hn : n < 12) (d : decode cc pc = .ok (.arraylength, 1)) (k : QJ p l e R s m args below meth c (qA K b) b nL 0 0 Q (qWd D en K b) M (pc + 1) L (qi (Int32.ofNat (lenS.getD n 0)) :: st)) : QJ p l e R s m args below meth c (qA K b) b nL 0 0 Q (qWd D en K b) M pc L (qa (adV n) :: st) := fun H locs ls P S hl => va_tlen hx hb (hs.1.1 n hn).2.2.2 S rfl d (k H locs ls P S hl)
theorem qj_sbyt (hx : p.tables.exec = Jvm.exec) (hb : c.code = cc) {n : Nat} {i : Int32} (hs : qX adK adV K b s) (hn : n < 12) (hi : vp_in i (lenS.getD n 0)) (d : decode cc pc = .ok (.baload, 1)) (k : QJ p l e R s m args below meth c (qA K b) b nL 0 0 Q (qWd D en K b) M (pc + 1) L (qi ((bytS.getD n []).getD i.toNatClampNeg 0) :: st)) : QJ p l e R s m args below meth c (qA K b) b nL 0 0 Q (qWd D en K b) M pc L (qi i :: qa (adV n) :: st) := fun H locs ls P S hl => va_tb hx hb (hs.1.1 n hn).2.2.2 S hi rfl d (k H locs ls P S hl)
theorem qj_min (hx : p.tables.exec = Jvm.exec) (hb : c.code = cc) (hml : c.maxLocals = nL) (hown : s.vm.findClass own = some m.cls) (hlink : (Cond.methodLink own index Lib.Math.min.name).before args s = true) (hstat : (Cond.static Lib.Math.min.name).before args s = true) (hini : (Cond.initialized "java/lang/Math").before args s = true) (hcode : (Cond.code Lib.Math.min.name Lib.Math.min.code 2 (some .int)).before args s = true) (hframes : 1 ≤ R.frames) (hlocals : st.length + 13 ≤ R.locals) (hcs : 0 ≤ R.cells) (hsl : 0 ≤ R.slots) {x y : Int32} (d : decode cc pc = .ok (.invokestatic index, 3)) (k : QJ p l e R s m args below meth c (qA K b) b nL 0 0 Q (qWd D en K b) M (pc + 3) L (qi (if y < x then y else x) :: st)) : QJ p l e R s m args below meth c (qA K b) b nL 0 0 Q (qWd D en K b) M pc L (qi y :: qi x :: st) := fun H locs ls P S hl =>
  va_mmin hx hb (hml.trans hl.1.symm) hown hlink hstat hini hcode hframes (by rw [q_sum]; exact hlocals) hcs hsl d (k H locs ls P S hl)
theorem qc_VS (hx : p.tables.exec = Jvm.exec) (hb : c.code = cc) {n k0 : Nat} {x : Int32} (hml : c.maxLocals = nL) (hown : s.vm.findClass own = some m.cls) (hts : ∀ w ∈ lw_g, w.before args s = true) (hK : va_K D vwCl tys s) (hs : qX adK adV K b s) (hn : n < 12) (hM : CTi l y ws rm D tys en K b (qX adK adV K b) (qa (adK n) :: as) M (x, M1)) (cw : CallW R s args own "java/lang/String" index y bytes maxL ret ws rm 0 0 k0) (hk : as.length = k0) (hst : st0 = as.reverse ++ qa (adK n) :: st) (hl8 : st.length ≤ 8) (d : decode cc pc = .ok (.invokevirtual index, 3)) (k : QJ p l e R s m args below meth c (qA K b) b nL 0 0 Q (qWd D en K b) M1 (pc + 3) L (qi x :: st)) : QJ p l e R s m args below meth c (qA K b) b nL 0 0 Q (qWd D en K b) M pc L st0 := fun H locs ls P S hl =>
  va_calli (va_runV (Ts := lw_g) (C := "java/lang/String") (As := as.map (qv b)) (rest := st.map (qv b)) (b := adK n) ⟨hx, hb, hml, hown, hts⟩ hM cw ⟨q_blind (qX_ok _ _ _ _), vk_recv hs.1 hn S, q_pre (av := qa (adK n) :: as) (qX_ok _ _ _ _) hs hK P.1 P.2 S⟩ rfl (by simp [hk]) hl.1 (by rw [hst]; simp [F0, qv]) (lv_room (by rw [q_sum]; exact hl8)) d ⟨Nat.zero_le _, Nat.zero_le _⟩) S (fun q _ h => h) (fun q h => h) (fun r u t H1 locs1 ht _ hp hB _ _ hS => by
    cases hp
    exact k H1 locs1 ls ⟨hB.1, by rw [← ht]; exact hB.2⟩ hS hl)
theorem qj_alen (hx : p.tables.exec = Jvm.exec) (hb : c.code = cc) {o t0 n : Nat} {cA : ClassId} {ty : FieldType} (hK : va_K D vwCl tys s) (ho : o < K) (he : ∀ f g, en o f g = .inl (cA, n, .inl f)) (ht : tys[t0]? = some (cA, ty)) (d : decode cc pc = .ok (.arraylength, 1)) (k : QJ p l e R s m args below meth c (qA K b) b nL 0 0 Q (qWd D en K b) M (pc + 1) L (qi (nI n) :: st)) : QJ p l e R s m args below meth c (qA K b) b nL 0 0 Q (qWd D en K b) M pc L (qr (some o) :: st) := fun H locs ls P S hl => va_alen (x := (n, .inl (M.1 o))) hx hb hK P.2 o t0 (a := b + o) (by rw [wl_get ho, he]) ht rfl d (k H locs ls P S hl)
end QJD
theorem qm_b {l : Launch} {D : va_G} {tys : List (ClassId × FieldType)} {en : qE} {K b nL : Nat} {X : State → Prop} {M : qM} {av : List qV} {cc : ByteArray} {y : MethodName} {ws ws' : List Cond} {rm : Room} {out : Int32 × qM} (hy : plainName y.cls = true) (hw : ws = Cond.code y cc nL (some .byte) :: ws') (hlen : av.length ≤ nL)
    (body : ∀ (p : Program) (e : Env) (s : State) (m : MethodId) (args : Array Value) (below : List Frame) (meth : Method) (c : Code) (Q : State → Prop), p.tables.exec = Jvm.exec → c.code = cc → (∀ w ∈ ws, w.before args s = true) → s.vm.findClass y.cls = some m.cls → c.maxLocals = nL → va_K D vwCl tys s → X s →
      (∀ (M : qM) (pc : Nat) (L : List (Nat × qV)) (x : Int32), (x = 0 ∨ x = 1) → decode cc pc = .ok (.ireturn, 1) → (x, M) = out → QJ p l e rm s m args below meth c (qA K b) b nL 0 0 Q (qWd D en K b) M pc L [qi x]) → QJ p l e rm s m args below meth c (qA K b) b nL 0 0 Q (qWd D en K b) M 0 (qZ 0 av) []) : CTi l y ws rm D tys en K b X av M out := by
  refine Met.ofW (cc := cc) (maxL := nL) (ret := some .byte) hy hw ?_
  intro p e s m args below meth c s₁ B hml hv
  obtain ⟨rfl, w, P, hK, hX⟩ := hv
  refine q_entry hlen w P (body p e s m _ below meth c _ B.exec B.bytes (atoms_spec (ws := ws) B.pre) (findClass_of_methodNamed B.named) hml hK hX ?_)
  intro M pc L x hz d ho H locs ls P S hl
  exact W.zret B.exec B.bytes B.returns (by rcases hz with rfl | rfl <;> rfl) (fun t ht _ => ⟨⟨x, M, rfl, ho, P.1, by rw [ht]; exact P.2⟩, S.F ht⟩) S.2.2 d B.notSynchronized
theorem d_String_isLatin1_0 : decode prog_17_method_154_code 0 = .ok (.getstatic 38, 3) := by decide +kernel
theorem d_String_isLatin1_3 : decode prog_17_method_154_code 3 = .ok (.ifCond .eq 14, 3) := by decide +kernel
theorem d_String_isLatin1_6 : decode prog_17_method_154_code 6 = .ok (.aload_n 0, 1) := by decide +kernel
theorem d_String_isLatin1_7 : decode prog_17_method_154_code 7 = .ok (.getfield 15, 3) := by decide +kernel
theorem d_String_isLatin1_10 : decode prog_17_method_154_code 10 = .ok (.ifCond .ne 7, 3) := by decide +kernel
theorem d_String_isLatin1_13 : decode prog_17_method_154_code 13 = .ok (.iconst 1, 1) := by decide +kernel
theorem d_String_isLatin1_14 : decode prog_17_method_154_code 14 = .ok (.goto 4, 3) := by decide +kernel
theorem d_String_isLatin1_17 : decode prog_17_method_154_code 17 = .ok (.iconst 0, 1) := by decide +kernel
theorem d_String_isLatin1_18 : decode prog_17_method_154_code 18 = .ok (.ireturn, 1) := by decide +kernel
def f_String_isLatin1 (n0 : Nat) : Option Int32 := if (1 : Int32) = 0 then (some 0) else (q_st n0 <| if (0 : Int32) = 0 then (some 1) else (some 0))
abbrev rm_String_isLatin1 : Room := { frames := 0, cells := 0, slots := 0, locals := 0 }
set_option maxRecDepth 100000 in
set_option maxHeartbeats 4000000 in
theorem c_String_isLatin1 {l : Launch} {D : va_G} {tys : List (ClassId × FieldType)} {en : qE} {K b : Nat} {adK adV : Nat → Nat} {M : qM} (n0 : Nat) (out : Int32) (hf : f_String_isLatin1 n0 = some out) : CTi l y_String_isLatin1 w_String_isLatin1 rm_String_isLatin1 D tys en K b (qX adK adV K b) [qa (adK n0)] M (out, M) := by
  refine qm_z (cc := prog_17_method_154_code) (nL := 1) (by decide) rfl (Nat.le_of_ble_eq_true rfl) ?_
  intro p e s m args below meth c Q hx hb hts0 hown hml hK hs hret
  have hts : ∀ w ∈ lw_g, w.before args s = true := fun w h => hts0 w (List.mem_cons_of_mem _ h)
  show QJ p l e rm_String_isLatin1 s m args below meth c (qA K b) b 1 0 0 Q (qWd D en K b) M 0 [(0, qa (adK n0))] []
  unfold f_String_isLatin1 at hf
  refine qj_gcs hx hb hs hown (hts _ tj_0) d_String_isLatin1_0 ?_
  refine qj_if_eq (tgt := 17) hx hb d_String_isLatin1_3 (by decide) (fun hc1 => ?_) (fun hc1 => ?_)
  · replace hf := q_if_t hc1 hf
    refine qj_iconst (v := 0) hx hb d_String_isLatin1_17 (by decide) ?_
    exact hret _ _ _ _ (Or.inl rfl) d_String_isLatin1_18 (congrArg (fun z => (z, M)) (Option.some.inj hf))
  · replace hf := q_if_f hc1 hf
    refine qj_aloadA_n hx hb d_String_isLatin1_6 rfl 0 rfl ?_
    have hf9 := q_st_s hf; clear hf; obtain ⟨hn2, hf⟩ := hf9
    refine qj_scod hx hb hs hn2 hown (hts _ tj_1) d_String_isLatin1_7 ?_
    refine qj_if_ne (tgt := 17) hx hb d_String_isLatin1_10 (by decide) (fun hc3 => ?_) (fun hc3 => ?_)
    · replace hf := q_if_f hc3 hf
      refine qj_iconst (v := 0) hx hb d_String_isLatin1_17 (by decide) ?_
      exact hret _ _ _ _ (Or.inl rfl) d_String_isLatin1_18 (congrArg (fun z => (z, M)) (Option.some.inj hf))
    · replace hf := q_if_t hc3 hf
      refine qj_iconst (v := 1) hx hb d_String_isLatin1_13 (by decide) ?_
      refine qj_goto (tgt := 18) hx hb d_String_isLatin1_14 (by decide) ?_
      exact hret _ _ _ _ (Or.inr rfl) d_String_isLatin1_18 (congrArg (fun z => (z, M)) (Option.some.inj hf))
theorem d_String_coder_0 : decode prog_17_method_152_code 0 = .ok (.getstatic 38, 3) := by decide +kernel
theorem d_String_coder_3 : decode prog_17_method_152_code 3 = .ok (.ifCond .eq 10, 3) := by decide +kernel
theorem d_String_coder_6 : decode prog_17_method_152_code 6 = .ok (.aload_n 0, 1) := by decide +kernel
theorem d_String_coder_7 : decode prog_17_method_152_code 7 = .ok (.getfield 15, 3) := by decide +kernel
theorem d_String_coder_10 : decode prog_17_method_152_code 10 = .ok (.goto 4, 3) := by decide +kernel
theorem d_String_coder_13 : decode prog_17_method_152_code 13 = .ok (.iconst 1, 1) := by decide +kernel
theorem d_String_coder_14 : decode prog_17_method_152_code 14 = .ok (.ireturn, 1) := by decide +kernel
def f_String_coder (n0 : Nat) : Option Int32 := if (1 : Int32) = 0 then (some 1) else (q_st n0 <| some (0 : Int32))
abbrev rm_String_coder : Room := { frames := 0, cells := 0, slots := 0, locals := 0 }
set_option maxRecDepth 100000 in
set_option maxHeartbeats 4000000 in
theorem c_String_coder {l : Launch} {D : va_G} {tys : List (ClassId × FieldType)} {en : qE} {K b : Nat} {adK adV : Nat → Nat} {M : qM} (n0 : Nat) (out : Int32) (hf : f_String_coder n0 = some out) : CTi l y_String_coder w_String_coder rm_String_coder D tys en K b (qX adK adV K b) [qa (adK n0)] M (out, M) := by
  refine qm_b (cc := prog_17_method_152_code) (nL := 1) (by decide) rfl (Nat.le_of_ble_eq_true rfl) ?_
  intro p e s m args below meth c Q hx hb hts0 hown hml hK hs hret
  have hts : ∀ w ∈ lw_g, w.before args s = true := fun w h => hts0 w (List.mem_cons_of_mem _ h)
  show QJ p l e rm_String_coder s m args below meth c (qA K b) b 1 0 0 Q (qWd D en K b) M 0 [(0, qa (adK n0))] []
  unfold f_String_coder at hf
  refine qj_gcs hx hb hs hown (hts _ tj_0) d_String_coder_0 ?_
  refine qj_if_eq (tgt := 13) hx hb d_String_coder_3 (by decide) (fun hc1 => ?_) (fun hc1 => ?_)
  · replace hf := q_if_t hc1 hf
    refine qj_iconst (v := 1) hx hb d_String_coder_13 (by decide) ?_
    exact hret _ _ _ _ (Or.inr rfl) d_String_coder_14 (congrArg (fun z => (z, M)) (Option.some.inj hf))
  · replace hf := q_if_f hc1 hf
    refine qj_aloadA_n hx hb d_String_coder_6 rfl 0 rfl ?_
    have hf9 := q_st_s hf; clear hf; obtain ⟨hn2, hf⟩ := hf9
    refine qj_scod hx hb hs hn2 hown (hts _ tj_1) d_String_coder_7 ?_
    refine qj_goto (tgt := 14) hx hb d_String_coder_10 (by decide) ?_
    exact hret _ _ _ _ (Or.inl rfl) d_String_coder_14 (congrArg (fun z => (z, M)) (Option.some.inj hf))
theorem d_String_length_0 : decode prog_17_method_54_code 0 = .ok (.aload_n 0, 1) := by decide +kernel
theorem d_String_length_1 : decode prog_17_method_54_code 1 = .ok (.getfield 9, 3) := by decide +kernel
theorem d_String_length_4 : decode prog_17_method_54_code 4 = .ok (.arraylength, 1) := by decide +kernel
theorem d_String_length_5 : decode prog_17_method_54_code 5 = .ok (.aload_n 0, 1) := by decide +kernel
theorem d_String_length_6 : decode prog_17_method_54_code 6 = .ok (.invokevirtual 335, 3) := by decide +kernel
theorem d_String_length_9 : decode prog_17_method_54_code 9 = .ok (.ishr, 1) := by decide +kernel
theorem d_String_length_10 : decode prog_17_method_54_code 10 = .ok (.ireturn, 1) := by decide +kernel
def f_String_length (n0 : Nat) : Option Int32 := q_st n0 <| q_st n0 <| q_st n0 <| q_bp (f_String_coder n0) fun x3 => some ((Int32.ofNat (lenS.getD n0 0)) >>> (x3 &&& 31))
abbrev rm_String_length : Room := { frames := 1, cells := 0, slots := 0, locals := 20 }
set_option maxRecDepth 100000 in
set_option maxHeartbeats 4000000 in
theorem c_String_length {l : Launch} {D : va_G} {tys : List (ClassId × FieldType)} {en : qE} {K b : Nat} {adK adV : Nat → Nat} {M : qM} (n0 : Nat) (out : Int32) (hf : f_String_length n0 = some out) : CTi l y_String_length w_String_length rm_String_length D tys en K b (qX adK adV K b) [qa (adK n0)] M (out, M) := by
  refine qm_i (cc := prog_17_method_54_code) (nL := 1) (by decide) rfl (Nat.le_of_ble_eq_true rfl) ?_
  intro p e s m args below meth c Q hx hb hts0 hown hml hK hs hret
  have hts : ∀ w ∈ lw_g, w.before args s = true := fun w h => hts0 w (List.mem_cons_of_mem _ h)
  show QJ p l e rm_String_length s m args below meth c (qA K b) b 1 0 0 Q (qWd D en K b) M 0 [(0, qa (adK n0))] []
  unfold f_String_length at hf
  refine qj_aloadA_n hx hb d_String_length_0 rfl 0 rfl ?_
  have hf9 := q_st_s hf; clear hf; obtain ⟨hn1, hf⟩ := hf9
  refine qj_sval hx hb hs hn1 hown (hts _ tj_2) d_String_length_1 ?_
  have hf9 := q_st_s hf; clear hf; obtain ⟨hn2, hf⟩ := hf9
  refine qj_slen hx hb hs hn2 d_String_length_4 ?_
  refine qj_aloadA_n hx hb d_String_length_5 rfl 0 rfl ?_
  have hf9 := q_st_s hf; clear hf; obtain ⟨hn4, hf⟩ := hf9
  have hf9 := q_bp_s hf; clear hf; obtain ⟨x3, hx3, hf⟩ := hf9
  refine qc_VS (st := [qi (Int32.ofNat (lenS.getD n0 0))]) hx hb hml hown hts hK hs hn4 (c_String_coder n0 _ hx3) ⟨(callB_of 0 hts (q_good tj_3) rfl rfl rfl (hts _ tw_738) (hts _ tj_4) (by decide +kernel) ⟨by decide, by decide⟩), (hts _ tj_5), (hts _ tj_6)⟩ rfl rfl (Nat.le_of_ble_eq_true rfl) d_String_length_6 ?_
  refine qj_ishr hx hb d_String_length_9 ?_
  exact hret _ _ _ _ d_String_length_10 (congrArg (fun z => (z, M)) (Option.some.inj hf))
theorem d_SL1_canEncode_0 : decode prog_18_method_4_code 0 = .ok (.iload_n 0, 1) := by decide +kernel
theorem d_SL1_canEncode_1 : decode prog_18_method_4_code 1 = .ok (.ifCond .lt 14, 3) := by decide +kernel
theorem d_SL1_canEncode_4 : decode prog_18_method_4_code 4 = .ok (.iload_n 0, 1) := by decide +kernel
theorem d_SL1_canEncode_5 : decode prog_18_method_4_code 5 = .ok (.sipush 255, 3) := by decide +kernel
theorem d_SL1_canEncode_8 : decode prog_18_method_4_code 8 = .ok (.if_icmp .gt 7, 3) := by decide +kernel
theorem d_SL1_canEncode_11 : decode prog_18_method_4_code 11 = .ok (.iconst 1, 1) := by decide +kernel
theorem d_SL1_canEncode_12 : decode prog_18_method_4_code 12 = .ok (.goto 4, 3) := by decide +kernel
theorem d_SL1_canEncode_15 : decode prog_18_method_4_code 15 = .ok (.iconst 0, 1) := by decide +kernel
theorem d_SL1_canEncode_16 : decode prog_18_method_4_code 16 = .ok (.ireturn, 1) := by decide +kernel
def f_SL1_canEncode (a0 : Int32) : Option Int32 := if a0 < 0 then (some 0) else (if 255 < a0 then (some 0) else (some 1))
abbrev rm_SL1_canEncode : Room := { frames := 0, cells := 0, slots := 0, locals := 0 }
set_option maxRecDepth 100000 in
set_option maxHeartbeats 4000000 in
theorem c_SL1_canEncode {l : Launch} {D : va_G} {tys : List (ClassId × FieldType)} {en : qE} {K b : Nat} {adK adV : Nat → Nat} {M : qM} (a0 : Int32) (out : Int32) (hf : f_SL1_canEncode a0 = some out) : CTi l y_SL1_canEncode w_SL1_canEncode rm_SL1_canEncode D tys en K b (qX adK adV K b) [qi a0] M (out, M) := by
  refine qm_z (cc := prog_18_method_4_code) (nL := 1) (by decide) rfl (Nat.le_of_ble_eq_true rfl) ?_
  intro p e s m args below meth c Q hx hb hts0 hown hml hK hs hret
  have hts : ∀ w ∈ lw_g, w.before args s = true := fun w h => hts0 w (List.mem_cons_of_mem _ h)
  show QJ p l e rm_SL1_canEncode s m args below meth c (qA K b) b 1 0 0 Q (qWd D en K b) M 0 [(0, qi a0)] []
  unfold f_SL1_canEncode at hf
  refine qj_iload_n hx hb d_SL1_canEncode_0 rfl 0 rfl ?_
  refine qj_if_lt (tgt := 15) hx hb d_SL1_canEncode_1 (by decide) (fun hc1 => ?_) (fun hc1 => ?_)
  · replace hf := q_if_t hc1 hf
    refine qj_iconst (v := 0) hx hb d_SL1_canEncode_15 (by decide) ?_
    exact hret _ _ _ _ (Or.inl rfl) d_SL1_canEncode_16 (congrArg (fun z => (z, M)) (Option.some.inj hf))
  · replace hf := q_if_f hc1 hf
    refine qj_iload_n hx hb d_SL1_canEncode_4 rfl 0 rfl ?_
    refine qj_sipush (v := 255) hx hb d_SL1_canEncode_5 (by decide) ?_
    refine qj_icmp_gt (tgt := 15) hx hb d_SL1_canEncode_8 (by decide) (fun hc2 => ?_) (fun hc2 => ?_)
    · replace hf := q_if_t hc2 hf
      refine qj_iconst (v := 0) hx hb d_SL1_canEncode_15 (by decide) ?_
      exact hret _ _ _ _ (Or.inl rfl) d_SL1_canEncode_16 (congrArg (fun z => (z, M)) (Option.some.inj hf))
    · replace hf := q_if_f hc2 hf
      refine qj_iconst (v := 1) hx hb d_SL1_canEncode_11 (by decide) ?_
      refine qj_goto (tgt := 16) hx hb d_SL1_canEncode_12 (by decide) ?_
      exact hret _ _ _ _ (Or.inr rfl) d_SL1_canEncode_16 (congrArg (fun z => (z, M)) (Option.some.inj hf))
theorem d_SL1_indexOfChar_0 : decode prog_18_method_23_code 0 = .ok (.iload_n 1, 1) := by decide +kernel
theorem d_SL1_indexOfChar_1 : decode prog_18_method_23_code 1 = .ok (.i2b, 1) := by decide +kernel
theorem d_SL1_indexOfChar_2 : decode prog_18_method_23_code 2 = .ok (.istore 4, 2) := by decide +kernel
theorem d_SL1_indexOfChar_4 : decode prog_18_method_23_code 4 = .ok (.iload_n 2, 1) := by decide +kernel
theorem d_SL1_indexOfChar_5 : decode prog_18_method_23_code 5 = .ok (.istore 5, 2) := by decide +kernel
theorem d_SL1_indexOfChar_7 : decode prog_18_method_23_code 7 = .ok (.iload 5, 2) := by decide +kernel
theorem d_SL1_indexOfChar_9 : decode prog_18_method_23_code 9 = .ok (.iload_n 3, 1) := by decide +kernel
theorem d_SL1_indexOfChar_10 : decode prog_18_method_23_code 10 = .ok (.if_icmp .ge 21, 3) := by decide +kernel
theorem d_SL1_indexOfChar_13 : decode prog_18_method_23_code 13 = .ok (.aload_n 0, 1) := by decide +kernel
theorem d_SL1_indexOfChar_14 : decode prog_18_method_23_code 14 = .ok (.iload 5, 2) := by decide +kernel
theorem d_SL1_indexOfChar_16 : decode prog_18_method_23_code 16 = .ok (.baload, 1) := by decide +kernel
theorem d_SL1_indexOfChar_17 : decode prog_18_method_23_code 17 = .ok (.iload 4, 2) := by decide +kernel
theorem d_SL1_indexOfChar_19 : decode prog_18_method_23_code 19 = .ok (.if_icmp .ne 6, 3) := by decide +kernel
theorem d_SL1_indexOfChar_22 : decode prog_18_method_23_code 22 = .ok (.iload 5, 2) := by decide +kernel
theorem d_SL1_indexOfChar_24 : decode prog_18_method_23_code 24 = .ok (.ireturn, 1) := by decide +kernel
theorem d_SL1_indexOfChar_25 : decode prog_18_method_23_code 25 = .ok (.iinc 5 1, 3) := by decide +kernel
theorem d_SL1_indexOfChar_28 : decode prog_18_method_23_code 28 = .ok (.goto (-21), 3) := by decide +kernel
theorem d_SL1_indexOfChar_31 : decode prog_18_method_23_code 31 = .ok (.iconst (-1), 1) := by decide +kernel
theorem d_SL1_indexOfChar_32 : decode prog_18_method_23_code 32 = .ok (.ireturn, 1) := by decide +kernel
def f_SL1_indexOfChar_7 (a3 : Int32) (n0 : Nat) (a1 : Int32) : Nat → (Option Int32) → Int32 → Option Int32
  | 0, _, _ => none
  | n + 1, K2, x1 => if a3 ≤ x1 then (K2) else (q_st n0 <| q_ix x1 (lenS.getD n0 0) <| if ((bytS.getD n0 []).getD x1.toNatClampNeg 0) = a1.toInt8.toInt32 then (some x1) else (f_SL1_indexOfChar_7 a3 n0 a1 n K2 (x1 + 1)))
def f_SL1_indexOfChar (n0 : Nat) (a1 : Int32) (a2 : Int32) (a3 : Int32) : Option Int32 := f_SL1_indexOfChar_7 a3 n0 a1 1000 (some (-1)) a2
abbrev rm_SL1_indexOfChar : Room := { frames := 0, cells := 0, slots := 0, locals := 0 }
set_option maxRecDepth 100000 in
set_option maxHeartbeats 4000000 in
theorem c_SL1_indexOfChar {l : Launch} {D : va_G} {tys : List (ClassId × FieldType)} {en : qE} {K b : Nat} {adK adV : Nat → Nat} {M : qM} (n0 : Nat) (a1 : Int32) (a2 : Int32) (a3 : Int32) (out : Int32) (hf : f_SL1_indexOfChar n0 a1 a2 a3 = some out) : CTi l y_SL1_indexOfChar w_SL1_indexOfChar rm_SL1_indexOfChar D tys en K b (qX adK adV K b) [qa (adV n0), qi a1, qi a2, qi a3] M (out, M) := by
  refine qm_i (cc := prog_18_method_23_code) (nL := 6) (by decide) rfl (Nat.le_of_ble_eq_true rfl) ?_
  intro p e s m args below meth c Q hx hb hts0 hown hml hK hs hret
  have hts : ∀ w ∈ lw_g, w.before args s = true := fun w h => hts0 w (List.mem_cons_of_mem _ h)
  show QJ p l e rm_SL1_indexOfChar s m args below meth c (qA K b) b 6 0 0 Q (qWd D en K b) M 0 [(0, qa (adV n0)), (1, qi a1), (2, qi a2), (3, qi a3)] []
  unfold f_SL1_indexOfChar at hf
  refine qj_iload_n hx hb d_SL1_indexOfChar_0 rfl 1 rfl ?_
  refine qj_i2b hx hb d_SL1_indexOfChar_1 ?_
  refine qj_istore hx hb d_SL1_indexOfChar_2 (by decide) rfl ?_
  refine qj_iload_n hx hb d_SL1_indexOfChar_4 rfl 3 rfl ?_
  refine qj_istore hx hb d_SL1_indexOfChar_5 (by decide) rfl ?_
  have hL7 : ∀ (n : Nat) (K2 : Option Int32), (K2 = some out → QJ p l e rm_SL1_indexOfChar s m args below meth c (qA K b) b 6 0 0 Q (qWd D en K b) M 31 [] []) → ∀ (x1 : Int32), f_SL1_indexOfChar_7 a3 n0 a1 n K2 x1 = some out → QJ p l e rm_SL1_indexOfChar s m args below meth c (qA K b) b 6 0 0 Q (qWd D en K b) M 7 [(0, qa (adV n0)), (3, qi a3), (4, qi a1.toInt8.toInt32), (5, qi x1)] [] := by
    clear hf
    intro n
    induction n with
    | zero =>
      intro K2 hK2 x1 hf
      exact absurd hf (by simp [f_SL1_indexOfChar_7])
    | succ n ih7 =>
      intro K2 hK2 x1 hf
      rw [f_SL1_indexOfChar_7] at hf
      have ih7 := ih7 K2 hK2
      refine qj_iload hx hb d_SL1_indexOfChar_7 3 rfl ?_
      refine qj_iload_n hx hb d_SL1_indexOfChar_9 rfl 1 rfl ?_
      refine qj_icmp_ge (tgt := 31) hx hb d_SL1_indexOfChar_10 (by decide) (fun hc3 => ?_) (fun hc3 => ?_)
      · replace hf := q_if_t hc3 hf
        refine qj_sub [] rfl ?_
        exact hK2  hf
      · replace hf := q_if_f hc3 hf
        refine qj_aloadA_n hx hb d_SL1_indexOfChar_13 rfl 0 rfl ?_
        refine qj_iload hx hb d_SL1_indexOfChar_14 3 rfl ?_
        have hf9 := q_st_s hf; clear hf; obtain ⟨hn5, hf⟩ := hf9
        have hf9 := q_ix_s hf; clear hf; obtain ⟨hi4, hf⟩ := hf9
        refine qj_sbyt hx hb hs hn5 hi4 d_SL1_indexOfChar_16 ?_
        refine qj_iload hx hb d_SL1_indexOfChar_17 2 rfl ?_
        refine qj_icmp_ne (tgt := 25) hx hb d_SL1_indexOfChar_19 (by decide) (fun hc6 => ?_) (fun hc6 => ?_)
        · replace hf := q_if_f hc6 hf
          refine qj_iinc (j := 3) (v := x1 + 1) hx hb d_SL1_indexOfChar_25 rfl rfl (by decide) rfl ?_
          refine qj_goto (tgt := 7) hx hb d_SL1_indexOfChar_28 (by decide) ?_
          refine qj_sub [1, 2, 3, 0] rfl ?_
          exact ih7 (x1 + 1) hf
        · replace hf := q_if_t hc6 hf
          refine qj_iload hx hb d_SL1_indexOfChar_22 3 rfl ?_
          exact hret _ _ _ _ d_SL1_indexOfChar_24 (congrArg (fun z => (z, M)) (Option.some.inj hf))
  refine qj_sub [2, 5, 1, 0] rfl ?_
  refine hL7 _ _ (fun hf9 => ?_) a2 hf
  clear hf; have hf := hf9; clear hf9
  refine qj_iconst (v := (-1)) hx hb d_SL1_indexOfChar_31 (by decide) ?_
  exact hret _ _ _ _ d_SL1_indexOfChar_32 (congrArg (fun z => (z, M)) (Option.some.inj hf))
theorem d_SL1_indexOf_0 : decode prog_18_method_22_code 0 = .ok (.iload_n 1, 1) := by decide +kernel
theorem d_SL1_indexOf_1 : decode prog_18_method_22_code 1 = .ok (.invokestatic 88, 3) := by decide +kernel
theorem d_SL1_indexOf_4 : decode prog_18_method_22_code 4 = .ok (.ifCond .ne 5, 3) := by decide +kernel
theorem d_SL1_indexOf_7 : decode prog_18_method_22_code 7 = .ok (.iconst (-1), 1) := by decide +kernel
theorem d_SL1_indexOf_8 : decode prog_18_method_22_code 8 = .ok (.ireturn, 1) := by decide +kernel
theorem d_SL1_indexOf_9 : decode prog_18_method_22_code 9 = .ok (.iload_n 2, 1) := by decide +kernel
theorem d_SL1_indexOf_10 : decode prog_18_method_22_code 10 = .ok (.iconst 0, 1) := by decide +kernel
theorem d_SL1_indexOf_11 : decode prog_18_method_22_code 11 = .ok (.invokestatic 92, 3) := by decide +kernel
theorem d_SL1_indexOf_14 : decode prog_18_method_22_code 14 = .ok (.istore_n 2, 1) := by decide +kernel
theorem d_SL1_indexOf_15 : decode prog_18_method_22_code 15 = .ok (.iload_n 3, 1) := by decide +kernel
theorem d_SL1_indexOf_16 : decode prog_18_method_22_code 16 = .ok (.aload_n 0, 1) := by decide +kernel
theorem d_SL1_indexOf_17 : decode prog_18_method_22_code 17 = .ok (.arraylength, 1) := by decide +kernel
theorem d_SL1_indexOf_18 : decode prog_18_method_22_code 18 = .ok (.invokestatic 38, 3) := by decide +kernel
theorem d_SL1_indexOf_21 : decode prog_18_method_22_code 21 = .ok (.istore_n 3, 1) := by decide +kernel
theorem d_SL1_indexOf_22 : decode prog_18_method_22_code 22 = .ok (.iload_n 2, 1) := by decide +kernel
theorem d_SL1_indexOf_23 : decode prog_18_method_22_code 23 = .ok (.iload_n 3, 1) := by decide +kernel
theorem d_SL1_indexOf_24 : decode prog_18_method_22_code 24 = .ok (.if_icmp .lt 5, 3) := by decide +kernel
theorem d_SL1_indexOf_27 : decode prog_18_method_22_code 27 = .ok (.iconst (-1), 1) := by decide +kernel
theorem d_SL1_indexOf_28 : decode prog_18_method_22_code 28 = .ok (.ireturn, 1) := by decide +kernel
theorem d_SL1_indexOf_29 : decode prog_18_method_22_code 29 = .ok (.aload_n 0, 1) := by decide +kernel
theorem d_SL1_indexOf_30 : decode prog_18_method_22_code 30 = .ok (.iload_n 1, 1) := by decide +kernel
theorem d_SL1_indexOf_31 : decode prog_18_method_22_code 31 = .ok (.iload_n 2, 1) := by decide +kernel
theorem d_SL1_indexOf_32 : decode prog_18_method_22_code 32 = .ok (.iload_n 3, 1) := by decide +kernel
theorem d_SL1_indexOf_33 : decode prog_18_method_22_code 33 = .ok (.invokestatic 95, 3) := by decide +kernel
theorem d_SL1_indexOf_36 : decode prog_18_method_22_code 36 = .ok (.ireturn, 1) := by decide +kernel
def f_SL1_indexOf (n0 : Nat) (a1 : Int32) (a2 : Int32) (a3 : Int32) : Option Int32 := q_bp (f_SL1_canEncode a1) fun x1 => if x1 = 0 then (some (-1)) else (q_st n0 <| q_lt (if (Int32.ofNat (lenS.getD n0 0)) < a3 then Int32.ofNat (lenS.getD n0 0) else a3) fun x4 => if (if a2 < 0 then 0 else a2) < x4 then (q_bp (f_SL1_indexOfChar n0 a1 (if a2 < 0 then 0 else a2) x4) fun x6 => some x6) else (some (-1)))
abbrev rm_SL1_indexOf : Room := { frames := 1, cells := 0, slots := 0, locals := 30 }
set_option maxRecDepth 100000 in
set_option maxHeartbeats 4000000 in
theorem c_SL1_indexOf {l : Launch} {D : va_G} {tys : List (ClassId × FieldType)} {en : qE} {K b : Nat} {adK adV : Nat → Nat} {M : qM} (n0 : Nat) (a1 : Int32) (a2 : Int32) (a3 : Int32) (out : Int32) (hf : f_SL1_indexOf n0 a1 a2 a3 = some out) : CTi l y_SL1_indexOf w_SL1_indexOf rm_SL1_indexOf D tys en K b (qX adK adV K b) [qa (adV n0), qi a1, qi a2, qi a3] M (out, M) := by
  refine qm_i (cc := prog_18_method_22_code) (nL := 4) (by decide) rfl (Nat.le_of_ble_eq_true rfl) ?_
  intro p e s m args below meth c Q hx hb hts0 hown hml hK hs hret
  have hts : ∀ w ∈ lw_g, w.before args s = true := fun w h => hts0 w (List.mem_cons_of_mem _ h)
  show QJ p l e rm_SL1_indexOf s m args below meth c (qA K b) b 4 0 0 Q (qWd D en K b) M 0 [(0, qa (adV n0)), (1, qi a1), (2, qi a2), (3, qi a3)] []
  unfold f_SL1_indexOf at hf
  refine qj_iload_n hx hb d_SL1_indexOf_0 rfl 1 rfl ?_
  have hf9 := q_bp_s hf; clear hf; obtain ⟨x1, hx1, hf⟩ := hf9
  refine qc_Si (st := []) hx hb hml hown hts hK (qX_ok _ _ _ _) hs (c_SL1_canEncode a1 _ hx1) ⟨(callB_of 1 hts (q_good tj_7) rfl rfl rfl (hts _ tj_8) (hts _ tj_9) (by decide +kernel) ⟨by decide, by decide⟩), (hts _ tj_10)⟩ rfl rfl (Nat.le_of_ble_eq_true rfl) d_SL1_indexOf_1 ?_
  refine qj_if_ne (tgt := 9) hx hb d_SL1_indexOf_4 (by decide) (fun hc2 => ?_) (fun hc2 => ?_)
  · replace hf := q_if_f hc2 hf
    refine qj_iload_n hx hb d_SL1_indexOf_9 rfl 2 rfl ?_
    refine qj_iconst (v := 0) hx hb d_SL1_indexOf_10 (by decide) ?_
    refine qj_max hx hb hml hown (hts _ tj_11) (hts _ tw_390) (hts _ tw_391) (hts _ tw_392) (by decide) (Nat.le_of_ble_eq_true rfl) (Nat.zero_le _) (Nat.zero_le _) d_SL1_indexOf_11 ?_
    refine qj_istore_n hx hb d_SL1_indexOf_14 rfl (by decide) rfl ?_
    refine qj_iload_n hx hb d_SL1_indexOf_15 rfl 3 rfl ?_
    refine qj_aloadA_n hx hb d_SL1_indexOf_16 rfl 1 rfl ?_
    have hf9 := q_st_s hf; clear hf; obtain ⟨hn3, hf⟩ := hf9
    refine qj_slen hx hb hs hn3 d_SL1_indexOf_17 ?_
    refine qj_min hx hb hml hown (hts _ tj_12) (hts _ tj_13) (hts _ tw_391) (hts _ tj_14) (by decide) (Nat.le_of_ble_eq_true rfl) (Nat.zero_le _) (Nat.zero_le _) d_SL1_indexOf_18 ?_
    have hf9 := q_lt_s hf; clear hf; obtain ⟨x4, ex4, hf⟩ := hf9
    rw [← ex4]
    refine qj_istore_n hx hb d_SL1_indexOf_21 rfl (by decide) rfl ?_
    refine qj_iload_n hx hb d_SL1_indexOf_22 rfl 1 rfl ?_
    refine qj_iload_n hx hb d_SL1_indexOf_23 rfl 0 rfl ?_
    refine qj_icmp_lt (tgt := 29) hx hb d_SL1_indexOf_24 (by decide) (fun hc5 => ?_) (fun hc5 => ?_)
    · replace hf := q_if_t hc5 hf
      refine qj_aloadA_n hx hb d_SL1_indexOf_29 rfl 2 rfl ?_
      refine qj_iload_n hx hb d_SL1_indexOf_30 rfl 3 rfl ?_
      refine qj_iload_n hx hb d_SL1_indexOf_31 rfl 1 rfl ?_
      refine qj_iload_n hx hb d_SL1_indexOf_32 rfl 0 rfl ?_
      have hf9 := q_bp_s hf; clear hf; obtain ⟨x6, hx6, hf⟩ := hf9
      refine qc_Si (st := []) hx hb hml hown hts hK (qX_ok _ _ _ _) hs (c_SL1_indexOfChar n0 a1 (if a2 < 0 then 0 else a2) x4 _ hx6) ⟨(callB_of 4 hts (q_good tj_15) rfl rfl rfl (hts _ tj_8) (hts _ tj_16) (by decide +kernel) ⟨by decide, by decide⟩), (hts _ tj_17)⟩ rfl rfl (Nat.le_of_ble_eq_true rfl) d_SL1_indexOf_33 ?_
      exact hret _ _ _ _ d_SL1_indexOf_36 (congrArg (fun z => (z, M)) (Option.some.inj hf))
    · replace hf := q_if_f hc5 hf
      refine qj_iconst (v := (-1)) hx hb d_SL1_indexOf_27 (by decide) ?_
      exact hret _ _ _ _ d_SL1_indexOf_28 (congrArg (fun z => (z, M)) (Option.some.inj hf))
  · replace hf := q_if_t hc2 hf
    refine qj_iconst (v := (-1)) hx hb d_SL1_indexOf_7 (by decide) ?_
    exact hret _ _ _ _ d_SL1_indexOf_8 (congrArg (fun z => (z, M)) (Option.some.inj hf))
theorem d_String_indexOf2_0 : decode prog_17_method_80_code 0 = .ok (.aload_n 0, 1) := by decide +kernel
theorem d_String_indexOf2_1 : decode prog_17_method_80_code 1 = .ok (.invokevirtual 492, 3) := by decide +kernel
theorem d_String_indexOf2_4 : decode prog_17_method_80_code 4 = .ok (.ifCond .eq 19, 3) := by decide +kernel
theorem d_String_indexOf2_7 : decode prog_17_method_80_code 7 = .ok (.aload_n 0, 1) := by decide +kernel
theorem d_String_indexOf2_8 : decode prog_17_method_80_code 8 = .ok (.getfield 9, 3) := by decide +kernel
theorem d_String_indexOf2_11 : decode prog_17_method_80_code 11 = .ok (.iload_n 1, 1) := by decide +kernel
theorem d_String_indexOf2_12 : decode prog_17_method_80_code 12 = .ok (.iload_n 2, 1) := by decide +kernel
theorem d_String_indexOf2_13 : decode prog_17_method_80_code 13 = .ok (.aload_n 0, 1) := by decide +kernel
theorem d_String_indexOf2_14 : decode prog_17_method_80_code 14 = .ok (.invokevirtual 505, 3) := by decide +kernel
theorem d_String_indexOf2_17 : decode prog_17_method_80_code 17 = .ok (.invokestatic 637, 3) := by decide +kernel
theorem d_String_indexOf2_20 : decode prog_17_method_80_code 20 = .ok (.goto 16, 3) := by decide +kernel
theorem d_String_indexOf2_23 : decode prog_17_method_80_code 23 = .ok (.aload_n 0, 1) := by decide +kernel
theorem d_String_indexOf2_24 : decode prog_17_method_80_code 24 = .ok (.getfield 9, 3) := by decide +kernel
theorem d_String_indexOf2_27 : decode prog_17_method_80_code 27 = .ok (.iload_n 1, 1) := by decide +kernel
theorem d_String_indexOf2_28 : decode prog_17_method_80_code 28 = .ok (.iload_n 2, 1) := by decide +kernel
theorem d_String_indexOf2_29 : decode prog_17_method_80_code 29 = .ok (.aload_n 0, 1) := by decide +kernel
theorem d_String_indexOf2_30 : decode prog_17_method_80_code 30 = .ok (.invokevirtual 505, 3) := by decide +kernel
theorem d_String_indexOf2_33 : decode prog_17_method_80_code 33 = .ok (.invokestatic 640, 3) := by decide +kernel
theorem d_String_indexOf2_36 : decode prog_17_method_80_code 36 = .ok (.ireturn, 1) := by decide +kernel
def f_String_indexOf2 (n0 : Nat) (a1 : Int32) (a2 : Int32) : Option Int32 := q_st n0 <| q_bp (f_String_isLatin1 n0) fun x1 => if x1 = 0 then (none) else (q_st n0 <| q_st n0 <| q_bp (f_String_length n0) fun x5 => q_bp (f_SL1_indexOf n0 a1 a2 x5) fun x7 => some x7)
abbrev rm_String_indexOf2 : Room := { frames := 2, cells := 0, slots := 0, locals := 53 }
set_option maxRecDepth 100000 in
set_option maxHeartbeats 4000000 in
theorem c_String_indexOf2 {l : Launch} {D : va_G} {tys : List (ClassId × FieldType)} {en : qE} {K b : Nat} {adK adV : Nat → Nat} {M : qM} (n0 : Nat) (a1 : Int32) (a2 : Int32) (out : Int32) (hf : f_String_indexOf2 n0 a1 a2 = some out) : CTi l y_String_indexOf2 w_String_indexOf2 rm_String_indexOf2 D tys en K b (qX adK adV K b) [qa (adK n0), qi a1, qi a2] M (out, M) := by
  refine qm_i (cc := prog_17_method_80_code) (nL := 3) (by decide) rfl (Nat.le_of_ble_eq_true rfl) ?_
  intro p e s m args below meth c Q hx hb hts0 hown hml hK hs hret
  have hts : ∀ w ∈ lw_g, w.before args s = true := fun w h => hts0 w (List.mem_cons_of_mem _ h)
  show QJ p l e rm_String_indexOf2 s m args below meth c (qA K b) b 3 0 0 Q (qWd D en K b) M 0 [(0, qa (adK n0)), (1, qi a1), (2, qi a2)] []
  unfold f_String_indexOf2 at hf
  refine qj_aloadA_n hx hb d_String_indexOf2_0 rfl 0 rfl ?_
  have hf9 := q_st_s hf; clear hf; obtain ⟨hn2, hf⟩ := hf9
  have hf9 := q_bp_s hf; clear hf; obtain ⟨x1, hx1, hf⟩ := hf9
  refine qc_VS (st := []) hx hb hml hown hts hK hs hn2 (c_String_isLatin1 n0 _ hx1) ⟨(callB_of 0 hts (q_good tj_18) rfl rfl rfl (hts _ tw_738) (hts _ tj_19) (by decide +kernel) ⟨by decide, by decide⟩), (hts _ tj_20), (hts _ tj_21)⟩ rfl rfl (Nat.le_of_ble_eq_true rfl) d_String_indexOf2_1 ?_
  refine qj_if_eq (tgt := 23) hx hb d_String_indexOf2_4 (by decide) (fun hc3 => ?_) (fun hc3 => ?_)
  · replace hf := q_if_t hc3 hf
    cases hf
  · replace hf := q_if_f hc3 hf
    refine qj_aloadA_n hx hb d_String_indexOf2_7 rfl 0 rfl ?_
    have hf9 := q_st_s hf; clear hf; obtain ⟨hn4, hf⟩ := hf9
    refine qj_sval hx hb hs hn4 hown (hts _ tj_2) d_String_indexOf2_8 ?_
    refine qj_iload_n hx hb d_String_indexOf2_11 rfl 1 rfl ?_
    refine qj_iload_n hx hb d_String_indexOf2_12 rfl 2 rfl ?_
    refine qj_aloadA_n hx hb d_String_indexOf2_13 rfl 0 rfl ?_
    have hf9 := q_st_s hf; clear hf; obtain ⟨hn6, hf⟩ := hf9
    have hf9 := q_bp_s hf; clear hf; obtain ⟨x5, hx5, hf⟩ := hf9
    refine qc_VS (st := [qi a2, qi a1, qa (adV n0)]) hx hb hml hown hts hK hs hn6 (c_String_length n0 _ hx5) ⟨(callB_of 0 hts (q_good tj_22) rfl rfl rfl (hts _ tw_738) (hts _ tj_23) (by decide +kernel) ⟨by decide, by decide⟩), (hts _ tj_24), (hts _ tj_25)⟩ rfl rfl (Nat.le_of_ble_eq_true rfl) d_String_indexOf2_14 ?_
    have hf9 := q_bp_s hf; clear hf; obtain ⟨x7, hx7, hf⟩ := hf9
    refine qc_Si (st := []) hx hb hml hown hts hK (qX_ok _ _ _ _) hs (c_SL1_indexOf n0 a1 a2 x5 _ hx7) ⟨(callB_of 4 hts (q_good tj_26) rfl rfl rfl (hts _ tj_8) (hts _ tj_27) (by decide +kernel) ⟨by decide, by decide⟩), (hts _ tj_28)⟩ rfl rfl (Nat.le_of_ble_eq_true rfl) d_String_indexOf2_17 ?_
    refine qj_goto (tgt := 36) hx hb d_String_indexOf2_20 (by decide) ?_
    exact hret _ _ _ _ d_String_indexOf2_36 (congrArg (fun z => (z, M)) (Option.some.inj hf))
theorem d_String_indexOf1_0 : decode prog_17_method_79_code 0 = .ok (.aload_n 0, 1) := by decide +kernel
theorem d_String_indexOf1_1 : decode prog_17_method_79_code 1 = .ok (.iload_n 1, 1) := by decide +kernel
theorem d_String_indexOf1_2 : decode prog_17_method_79_code 2 = .ok (.iconst 0, 1) := by decide +kernel
theorem d_String_indexOf1_3 : decode prog_17_method_79_code 3 = .ok (.invokevirtual 633, 3) := by decide +kernel
theorem d_String_indexOf1_6 : decode prog_17_method_79_code 6 = .ok (.ireturn, 1) := by decide +kernel
def f_String_indexOf1 (n0 : Nat) (a1 : Int32) : Option Int32 := q_st n0 <| q_bp (f_String_indexOf2 n0 a1 0) fun x1 => some x1
set_option maxRecDepth 100000 in
set_option maxHeartbeats 4000000 in
theorem c_String_indexOf0 {l : Launch} {D : va_G} {tys : List (ClassId × FieldType)} {en : qE} {K b : Nat} {adK adV : Nat → Nat} {M : qM} (n0 : Nat) (a1 : Int32) (out : Int32) (hf : f_String_indexOf1 n0 a1 = some out) : CTi l y_String_indexOf w_String_indexOf rm_ix D tys en K b (qX adK adV K b) [qa (adK n0), qi a1] M (out, M) := by
  refine qm_i (cc := prog_17_method_79_code) (nL := 2) (by decide) rfl (Nat.le_of_ble_eq_true rfl) ?_
  intro p e s m args below meth c Q hx hb hts0 hown hml hK hs hret
  have hts : ∀ w ∈ lw_g, w.before args s = true := fun w h => hts0 w (List.mem_cons_of_mem _ h)
  show QJ p l e rm_ix s m args below meth c (qA K b) b 2 0 0 Q (qWd D en K b) M 0 [(0, qa (adK n0)), (1, qi a1)] []
  unfold f_String_indexOf1 at hf
  refine qj_aloadA_n hx hb d_String_indexOf1_0 rfl 0 rfl ?_
  refine qj_iload_n hx hb d_String_indexOf1_1 rfl 1 rfl ?_
  refine qj_iconst (v := 0) hx hb d_String_indexOf1_2 (by decide) ?_
  have hf9 := q_st_s hf; clear hf; obtain ⟨hn2, hf⟩ := hf9
  have hf9 := q_bp_s hf; clear hf; obtain ⟨x1, hx1, hf⟩ := hf9
  refine qc_VS (st := []) hx hb hml hown hts hK hs hn2 (c_String_indexOf2 n0 a1 0 _ hx1) ⟨(callB_of 2 hts (q_good tj_29) rfl rfl rfl (hts _ tw_738) (hts _ tj_30) (by decide +kernel) ⟨by decide, by decide⟩), (hts _ tj_31), (hts _ tj_32)⟩ rfl rfl (Nat.le_of_ble_eq_true rfl) d_String_indexOf1_3 ?_
  exact hret _ _ _ _ d_String_indexOf1_6 (congrArg (fun z => (z, M)) (Option.some.inj hf))

theorem f_ix_dec : ∀ n, n < 12 → ∀ k, k < 256 → f_String_indexOf1 n (nI k) = some (f_ixF (nI k) (bytS.getD n []) 0) := by decide +kernel
theorem f_ix_byt : ∀ n, n < 12 → ∀ x ∈ bytS.getD n [], 0 ≤ x ∧ x ≤ 255 := by decide +kernel
theorem f_ixF_out {c : Int32} : ∀ (l : List Int32) (k : Nat), (∀ x ∈ l, ¬ x = c) → f_ixF c l k = -1 := by
  intro l
  induction l with
  | nil => intro k _; rfl
  | cons a l ih =>
    intro k h
    rw [f_ixF, if_neg (h a List.mem_cons_self)]
    exact ih (k + 1) fun x hx => h x (List.mem_cons_of_mem _ hx)
theorem f_lat : ∀ n, n < 12 → f_String_isLatin1 n = some 1 ∧ f_String_length n = some (nI (lenS.getD n 0)) := by decide +kernel
theorem f_ix_all {n : Nat} {x out : Int32} (hf : f_indexOf n x = some out) : f_String_indexOf1 n x = some out := by
  unfold f_indexOf at hf
  by_cases hn : n < 12
  · rw [if_pos hn] at hf
    cases hf
    by_cases h0 : x < 0
    · rw [f_ixF_out _ _ fun a ha e => by
        have h1 := (f_ix_byt n hn a ha).1
        rw [e] at h1
        exact absurd h0 (by rw [Int32.not_lt]; exact h1)]
      simp [f_String_indexOf1, f_String_indexOf2, q_st, hn, q_bp, (f_lat n hn).1, (f_lat n hn).2, f_SL1_indexOf, f_SL1_canEncode, h0]
    · by_cases h2 : 255 < x
      · rw [f_ixF_out _ _ fun a ha e => by
          have h1 := (f_ix_byt n hn a ha).2
          rw [e] at h1
          exact absurd h2 (by rw [Int32.not_lt]; exact h1)]
        simp [f_String_indexOf1, f_String_indexOf2, q_st, hn, q_bp, (f_lat n hn).1, (f_lat n hn).2, f_SL1_indexOf, f_SL1_canEncode, h0, h2]
      · obtain ⟨k, hk, rfl⟩ := nI_of2 (n := 255) (M := 255) (by decide) h0 (by rw [← Int32.not_lt]; exact h2)
        exact f_ix_dec n hn k (by omega)
  · rw [if_neg hn] at hf; cases hf
theorem c_String_indexOf {l : Launch} {D : va_G} {tys : List (ClassId × FieldType)} {en : qE} {K b : Nat} {adK adV : Nat → Nat} {M : qM} (n : Nat) (x out : Int32) (hf : f_indexOf n x = some out) : CTi l y_String_indexOf w_String_indexOf rm_ix D tys en K b (qX adK adV K b) [qa (adK n), qi x] M (out, M) := c_String_indexOf0 n x out (f_ix_all hf)
theorem d_fill_0 : decode prog_20_method_103_code 0 = .ok (.iconst 0, 1) := by decide +kernel
theorem d_fill_1 : decode prog_20_method_103_code 1 = .ok (.istore_n 2, 1) := by decide +kernel
theorem d_fill_2 : decode prog_20_method_103_code 2 = .ok (.aload_n 0, 1) := by decide +kernel
theorem d_fill_3 : decode prog_20_method_103_code 3 = .ok (.arraylength, 1) := by decide +kernel
theorem d_fill_4 : decode prog_20_method_103_code 4 = .ok (.istore_n 3, 1) := by decide +kernel
theorem d_fill_5 : decode prog_20_method_103_code 5 = .ok (.iload_n 2, 1) := by decide +kernel
theorem d_fill_6 : decode prog_20_method_103_code 6 = .ok (.iload_n 3, 1) := by decide +kernel
theorem d_fill_7 : decode prog_20_method_103_code 7 = .ok (.if_icmp .ge 13, 3) := by decide +kernel
theorem d_fill_10 : decode prog_20_method_103_code 10 = .ok (.aload_n 0, 1) := by decide +kernel
theorem d_fill_11 : decode prog_20_method_103_code 11 = .ok (.iload_n 2, 1) := by decide +kernel
theorem d_fill_12 : decode prog_20_method_103_code 12 = .ok (.iload_n 1, 1) := by decide +kernel
theorem d_fill_13 : decode prog_20_method_103_code 13 = .ok (.iastore, 1) := by decide +kernel
theorem d_fill_14 : decode prog_20_method_103_code 14 = .ok (.iinc 2 1, 3) := by decide +kernel
theorem d_fill_17 : decode prog_20_method_103_code 17 = .ok (.goto (-12), 3) := by decide +kernel
theorem d_fill_20 : decode prog_20_method_103_code 20 = .ok (.return_, 1) := by decide +kernel
set_option maxRecDepth 100000 in
set_option maxHeartbeats 4000000 in
theorem c_Arrays_fill {l : Launch} {D : va_G} {dA : Nat → ClassId} {en : qE} {K b : Nat} {X : State → Prop} {M out : qM} {n o : Nat} {x : Int32} (ho : o < K) (he : ∀ f g, en o f g = .inl (dA 0, n, .inl f)) (hf : f_fill n o x M = some out) : CTv l y_Arrays_fill w_Arrays_fill rm_fill D (tysX dA) en K b X [qr (some o), qi x] M out := by
  refine qm_v (cc := prog_20_method_103_code) (nL := 4) (by decide) rfl (Nat.le_of_ble_eq_true rfl) ?_
  intro p e s m args below meth c Q hx hb hts0 hown hml hK hs hret
  show QJ p l e rm_fill s m args below meth c (qA K b) b 4 0 0 Q (qWd D en K b) M 0 [(0, qr (some o)), (1, qi x)] []
  unfold f_fill at hf
  refine qj_iconst (v := 0) hx hb d_fill_0 (by decide) ?_
  refine qj_istore_n hx hb d_fill_1 rfl (by decide) rfl ?_
  refine qj_aload_n hx hb d_fill_2 rfl 1 rfl ?_
  refine qj_alen (t0 := 0) hx hb hK ho he rfl d_fill_3 ?_
  refine qj_istore_n hx hb d_fill_4 rfl (by decide) rfl ?_
  have hL : ∀ (d : Nat) (i : Int32) (M : qM), f_fillL (nI n) n o x d i M = some out → QJ p l e rm_fill s m args below meth c (qA K b) b 4 0 0 Q (qWd D en K b) M 5 [(0, qr (some o)), (1, qi x), (2, qi i), (3, qi (nI n))] [] := by
    clear hf
    intro d
    induction d with
    | zero =>
      intro i M hf
      exact absurd hf (by simp [f_fillL])
    | succ d ih =>
      intro i M hf
      rw [f_fillL] at hf
      refine qj_iload_n hx hb d_fill_5 rfl 2 rfl ?_
      refine qj_iload_n hx hb d_fill_6 rfl 3 rfl ?_
      refine qj_icmp_ge (tgt := 20) hx hb d_fill_7 (by decide) (fun hc => ?_) (fun hc => ?_)
      · replace hf := q_if_t hc hf
        exact hret _ _ _ d_fill_20 (Option.some.inj hf)
      · replace hf := q_if_f hc hf
        refine qj_aload_n hx hb d_fill_10 rfl 0 rfl ?_
        refine qj_iload_n hx hb d_fill_11 rfl 2 rfl ?_
        refine qj_iload_n hx hb d_fill_12 rfl 1 rfl ?_
        obtain ⟨hi, hf⟩ := q_ix_s hf
        obtain ⟨M1, e1, hf⟩ := q_lt_s hf
        refine qj_iast (t0 := 0) hx hb hK ho he rfl hi e1 d_fill_13 ?_
        refine qj_iinc (j := 2) (v := i + 1) hx hb d_fill_14 rfl rfl (by decide) rfl ?_
        refine qj_goto (tgt := 5) hx hb d_fill_17 (by decide) ?_
        refine qj_sub [1, 2, 0, 3] rfl ?_
        exact ih (i + 1) M1 hf
  refine qj_sub [2, 3, 1, 0] rfl ?_
  exact hL _ 0 M hf
section QCJ
variable {p : Program} {l : Launch} {e : Env} {R : Room} {s : State} {m : MethodId} {args : Array Value} {below : List Frame} {meth : Method} {c : Code} {D : va_G} {tys : List (ClassId × FieldType)} {en : qE} {K b nL : Nat} {Q : State → Prop} {X : State → Prop} {M M1 : qM} {pc : Nat} {L : List (Nat × qV)} {st st0 : List qV} {cc : ByteArray} {own : String} {index : Nat} {adK adV : Nat → Nat}
theorem qc_ix (hx : p.tables.exec = Jvm.exec) (hb : c.code = cc) {n : Nat} {x out : Int32} (hml : c.maxLocals = nL) (hown : s.vm.findClass own = some m.cls) (hts : ∀ w ∈ lw_g, w.before args s = true) (hK : va_K D vwCl tys s) (hs : qX adK adV K b s) (hl0 : (Cond.methodLink own index y_String_indexOf).before args s = true) (hf : f_indexOf n x = some out) (hst : st0 = qi x :: qa (adK n) :: st) (hl8 : st.length ≤ 8) (hR : rm_ix.frames + 1 ≤ R.frames ∧ 8 + (2 + 11) + rm_ix.locals ≤ R.locals) (d : decode cc pc = .ok (.invokevirtual index, 3)) (k : QJ p l e R s m args below meth c (qA K b) b nL 0 0 Q (qWd D en K b) M (pc + 3) L (qi out :: st)) : QJ p l e R s m args below meth c (qA K b) b nL 0 0 Q (qWd D en K b) M pc L st0 := fun H locs ls P S hl => by
  have hn : n < 12 := by
    unfold f_indexOf at hf
    by_cases h : n < 12
    · exact h
    · rw [if_neg h] at hf; cases hf
  refine va_calli (va_runV (Ts := lw_g) (C := "java/lang/String") (As := [.int x]) (rest := st.map (qv b)) (b := adK n) ⟨hx, hb, hml, hown, hts⟩ (c_String_indexOf n x out hf) ⟨callB_of 1 hts (q_good tw_737) rfl rfl rfl (hts _ tw_738) hl0 (by decide +kernel) hR, hts _ tw_739, hts _ tw_740⟩ ⟨q_blind (qX_ok _ _ _ _), vk_recv hs.1 hn S, q_pre (av := [qa (adK n), qi x]) (qX_ok _ _ _ _) hs hK P.1 P.2 S⟩ rfl rfl hl.1 (by rw [hst]; rfl) (lv_room (by rw [q_sum]; exact hl8)) d ⟨Nat.zero_le _, Nat.zero_le _⟩) S (fun q _ h => h) (fun q h => h) (fun r u t H1 locs1 ht _ hp hB _ _ hS => ?_)
  cases hp
  exact k H1 locs1 ls ⟨hB.1, by rw [← ht]; exact hB.2⟩ hS hl
theorem qc_fill {dA : Nat → ClassId} (hx : p.tables.exec = Jvm.exec) (hb : c.code = cc) {n o : Nat} {x : Int32} (hml : c.maxLocals = nL) (hown : s.vm.findClass own = some m.cls) (hts : ∀ w ∈ lw_g, w.before args s = true) (hK : va_K D vwCl (tysX dA) s) (hX : qXok K b X) (hs : X s) (ho : o < K) (he : ∀ f g, en o f g = .inl (dA 0, n, .inl f)) (hl0 : (Cond.methodLink own index y_Arrays_fill).before args s = true) (hf : f_fill n o x M = some M1) (hst : st0 = qi x :: qr (some o) :: st) (hl8 : st.length ≤ 8) (hR : rm_fill.frames + 1 ≤ R.frames ∧ 8 + (4 + 11) + rm_fill.locals ≤ R.locals) (d : decode cc pc = .ok (.invokestatic index, 3)) (k : QJ p l e R s m args below meth c (qA K b) b nL 0 0 Q (qWd D en K b) M1 (pc + 3) L st) : QJ p l e R s m args below meth c (qA K b) b nL 0 0 Q (qWd D en K b) M pc L st0 :=
  qc_Sv (y := y_Arrays_fill) (ws := w_Arrays_fill) (rm := rm_fill) (bytes := prog_20_method_103_code) (maxL := 4) (ret := none) (n := 2) hx hb hml hown hts hK hX hs (c_Arrays_fill ho he hf) ⟨callB_of 2 hts (q_good tw_741) rfl rfl rfl (hts _ tw_742) hl0 (by decide +kernel) hR, hts _ tw_743⟩ rfl hst hl8 d k
end QCJ
