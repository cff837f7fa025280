/-! constructors by fragments: the cells from lo on are as new (memory of zeros), but for those under construction -/
abbrev qM0 : qM := (fun _ _ => 0, fun _ _ => none)
def qWk (D : va_G) (en : qE) (b lo n : Nat) (ex : List (Nat × va_E)) (_ : qM) (H : Heap) : Prop := H.size = b + n ∧ (∀ q ∈ ex, va_at D vwCl (b + q.1, q.2) H) ∧ ∀ o, lo ≤ o → o < n → (∀ q ∈ ex, q.1 ≠ o) → va_at D vwCl (b + o, en o (fun _ => 0) (fun _ => none)) H
theorem qk_upd {D : va_G} {en : qE} {b lo n j o : Nat} {ex : List (Nat × va_E)} {e0 e' : va_E} {M : qM} {H H1 : Heap} (h : qWk D en b lo n ex M H) (hj : ex[j]? = some (o, e0)) (hn : ∀ i q, ex[i]? = some q → i ≠ j → q.1 ≠ o) (z : H1.size = H.size) (e1 : va_at D vwCl (b + o, e') H1) (oq : ∀ q : Nat, q ≠ b + o → H1[q]? = H[q]?) : qWk D en b lo n (ex.set j (o, e')) M H1 := by
  have hl := (List.getElem?_eq_some_iff.mp hj).1
  refine ⟨z.trans h.1, fun q hq => ?_, fun p h1 h2 h3 => ?_⟩
  · obtain ⟨i, hi⟩ := List.getElem?_of_mem hq
    by_cases hij : i = j
    · subst hij
      rw [List.getElem?_set_self hl] at hi
      cases hi
      exact e1
    · rw [List.getElem?_set_ne (Ne.symm hij)] at hi
      have h5 := hn i q hi hij
      exact (h.2.1 q (List.mem_of_getElem? hi)).kept (oq _ (by omega))
  · have hp : o ≠ p := h3 (o, e') (List.mem_of_getElem? (i := j) (by rw [List.getElem?_set_self hl]))
    refine (h.2.2 p h1 h2 fun q hq => ?_).kept (oq _ (by omega))
    obtain ⟨i, hi⟩ := List.getElem?_of_mem hq
    by_cases hij : i = j
    · subst hij
      cases hj.symm.trans hi
      exact hp
    · exact h3 q (List.mem_of_getElem? (i := i) (by rw [List.getElem?_set_ne (Ne.symm hij)]; exact hi))
theorem qk_grow {D : va_G} {en : qE} {b lo n n1 : Nat} {ex : List (Nat × va_E)} {M : qM} {H H1 : Heap} (h : qWk D en b lo n ex M H) (hx : ∀ q ∈ ex, q.1 < n) (z : H1.size = b + n1) (o1 : ∀ q : Nat, q < b + n → H1[q]? = H[q]?) (hf : ∀ o, n ≤ o → o < n1 → va_at D vwCl (b + o, en o (fun _ => 0) (fun _ => none)) H1) : qWk D en b lo n1 ex M H1 := by
  refine ⟨z, fun q hq => (h.2.1 q hq).kept (o1 _ (by have := hx q hq; omega)), fun o h1 h2 h3 => ?_⟩
  by_cases ho : o < n
  · exact (h.2.2 o h1 ho h3).kept (o1 _ (by omega))
  · exact hf o (by omega) h2
theorem qk_growX {D : va_G} {en : qE} {b lo n : Nat} {ex : List (Nat × va_E)} {M : qM} {H H1 : Heap} {e' : va_E} (h : qWk D en b lo n ex M H) (hx : ∀ q ∈ ex, q.1 < n) (z : H1.size = b + (n + 1)) (o1 : ∀ q : Nat, q < b + n → H1[q]? = H[q]?) (hf : va_at D vwCl (b + n, e') H1) : qWk D en b lo (n + 1) (ex ++ [(n, e')]) M H1 := by
  refine ⟨z, fun q hq => ?_, fun o h1 h2 h3 => ?_⟩
  · rcases List.mem_append.mp hq with hq | hq
    · exact (h.2.1 q hq).kept (o1 _ (by have := hx q hq; omega))
    · rw [List.mem_singleton.mp hq]; exact hf
  · have hne : n ≠ o := h3 (n, e') (List.mem_append_right _ (List.mem_singleton.mpr rfl))
    exact (h.2.2 o h1 (by omega) fun q hq => h3 q (List.mem_append_left _ hq)).kept (o1 _ (by omega))
def qKk (D : va_G) (tys : List (ClassId × FieldType)) (en : qE) (b lo n : Nat) (ex : List (Nat × va_E)) (X : State → Prop) (U : State) : Prop := qWk D en b lo n ex qM0 U.heap ∧ va_K D vwCl tys U ∧ X U
def qXk (X : State → Prop) : Prop := (∀ (U : State) (g : JFrame) (mk : MethodId) (a : Array Value), X U → X (U.calling g mk a)) ∧ ∀ (s U : State), X s → s.WarmedH U.vm → X U
abbrev CTk (l : Launch) (y : MethodName) (ws : List Cond) (rm : Room) (D : va_G) (tys : List (ClassId × FieldType)) (en : qE) (b : Nat) (X : State → Prop) (o n1 mc ms : Nat) (e0 : va_E) : Prop := Met l y ws rm (va_Pc [.ref (b + o)] (qKk D tys en b o (o + 1) [(o, e0)] X)) (va_Qv (fun _ : Unit => True) (fun _ t => qWk D en b o n1 [] qM0 t.heap) (qB (b + o))) mc ms (qB (b + o))
section QKS
variable {p : Program} {l : Launch} {e : Env} {R : Room} {s : State} {m : MethodId} {args : Array Value} {below : List Frame} {meth : Method} {c : Code} {b nL cs sl lo n : Nat} {Q : State → Prop} {D : va_G} {tys : List (ClassId × FieldType)} {en : qE} {X : State → Prop} {M : qM} {pc : Nat} {L : List (Nat × qV)} {st : List qV} {cc bytes : ByteArray} {ex : List (Nat × va_E)}
theorem qk_obj (hx : p.tables.exec = Jvm.exec) (hb : c.code = cc) {A : Nat → Prop} {Wd : qM → Heap → Prop} {own : String} {idx o : Nat} (hml : c.maxLocals = nL) (hown : s.vm.findClass own = some m.cls) (hlink : (Cond.methodLink own idx Lib.objectInit).before args s = true) (hinst : (Cond.instanceMethod Lib.objectInit).before args s = true) (hcode : (Cond.code Lib.objectInit ⟨#[0xb1]⟩ 1 none).before args s = true) (d : decode cc pc = .ok (.invokespecial idx, 3)) (hframes : 1 ≤ R.frames) (hlocals : st.length + 12 ≤ R.locals) (k : QJ p l e R s m args below meth c A b nL cs sl Q Wd M (pc + 3) L st) : QJ p l e R s m args below meth c A b nL cs sl Q Wd M pc L (qr (some o) :: st) := fun H locs ls P S hl => by
  refine W.objInit hx hb hown hlink hinst hcode rfl (by rw [hml]; exact hl.1) rfl d hframes ?_ (k H locs ls P S hl)
  show 2 * 0 + ((st.map (qv b)).map fun v => v.category).sum + 12 ≤ R.locals
  rw [q_sum]
  omega
theorem qk_newa (hx : p.tables.exec = Jvm.exec) (hb : c.code = cc) {atype : ArrayType} {ty : FieldType} {N' : Nat} {x : Int32} {cA : ClassId} (hxn : ∀ q ∈ ex, q.1 < n) (harr : (Cond.arrayClass (newarray.typeOf atype)).before args s = true) (hty : newarray.typeOf atype = ty) (hnm : s.vm.findClass ("[" ++ ty.toString) = some cA) (he : en n (fun _ => 0) (fun _ => none) = .inl (cA, N', .inl fun _ => 0)) (hdef : defaultValue ty = .int 0) (hn : ¬ x < 0) (hN : x.toNatClampNeg = N') (hbytes : N' * componentBytes ty ≤ 536870912) (hcells : cs + 1 ≤ R.cells) (hslots : sl + N' ≤ R.slots) (hlo : lo ≤ n) (d : decode cc pc = .ok (.newarray atype, 2)) (k : QJ p l e R s m args below meth c (qB (b + lo)) b nL (cs + 1) (sl + N') Q (qWk D en b lo (n + 1) ex) M (pc + 2) L (qr (some n) :: st)) : QJ p l e R s m args below meth c (qB (b + lo)) b nL cs sl Q (qWk D en b lo n ex) M pc L (qi x :: st) := fun H locs ls P S hl => by
  subst hty
  refine va_newaK hx hb harr rfl d rfl hn hN hbytes hcells hslots P.1 fun H1 cA1 e1 z1 o1 hAr hNm => ?_
  cases hnm.symm.trans hNm
  refine k H1 locs ls (qk_grow P hxn z1 o1 fun o h1 h2 => ?_) ⟨by have := S.1; have := P.1; omega, fun x h1 h2 => (o1 x (by have := S.1; have := P.1; omega)).trans (S.2.1 x h1 h2), S.2.2⟩ hl
  have : o = n := by omega
  subst this
  rw [he]
  show H1[b + o]? = some (vp_cell _ _)
  rw [vp_cell_i, e1, hdef]
theorem qk_anew (hx : p.tables.exec = Jvm.exec) (hb : c.code = cc) {own C : String} {index N' : Nat} {ex1 : List (Nat × va_E)} {x : Int32} {cA : ClassId} (hown : s.vm.findClass own = some m.cls) (hclink : (Cond.classLink own index C).before args s = true) (hover : va_AO C s) (hnm : s.vm.findClass ("[" ++ (FieldType.object C).toString) = some cA) (hn : ¬ x < 0) (hN : x.toNatClampNeg = N') (hbytes : N' * 4 ≤ 536870912) (hcells : cs + 1 ≤ R.cells) (hslots : sl + N' ≤ R.slots) (hg : ∀ H H1 : Heap, qWk D en b lo n ex M H → H1.size = b + (n + 1) → (∀ q : Nat, q < b + n → H1[q]? = H[q]?) → va_at D vwCl (b + n, .inl (cA, N', .inr (.inr (.inr (.inr fun _ => none))))) H1 → qWk D en b lo (n + 1) ex1 M H1) (d : decode cc pc = .ok (.anewarray index, 3)) (k : QJ p l e R s m args below meth c (qB (b + lo)) b nL (cs + 1) (sl + N') Q (qWk D en b lo (n + 1) ex1) M (pc + 3) L (qr (some n) :: st)) : QJ p l e R s m args below meth c (qB (b + lo)) b nL cs sl Q (qWk D en b lo n ex) M pc L (qi x :: st) := fun H locs ls P S hl => by
  have hz := P.1
  subst hN
  refine W.anew hx hb hown hclink (va_AO.use hover) rfl d rfl hn hbytes hcells hslots fun cA1 kA comp f1 f2 f3 f4 => ?_
  cases hnm.symm.trans f1
  generalize hH1 : H.push ({ cls := cA, slots := Array.replicate x.toNatClampNeg .null, vm := .none } : Cell) = H1
  have z1 : H1.size = b + (n + 1) := by rw [← hH1, Array.size_push, hz]; rfl
  have e1 : H1[b + n]? = some (arrV cA x.toNatClampNeg (fun _ => .null)) := by rw [← hH1, ← hz, Array.getElem?_push_size, ← arrV_new]
  have o1 : ∀ q : Nat, q < b + n → H1[q]? = H[q]? := fun q hq => by rw [← hH1, Array.getElem?_push, if_neg (by omega)]
  have hk := k H1 locs ls (hg H H1 P z1 o1 (by show H1[b + n]? = some (vp_cell _ _); rw [vp_cell_q]; exact e1)) ⟨by have := S.1; omega, fun x h1 h2 => (o1 x (by have := S.1; omega)).trans (S.2.1 x h1 h2), S.2.2⟩ hl
  rw [hz]
  exact hk
theorem qk_put (hx : p.tables.exec = Jvm.exec) (hb : c.code = cc) {own ref C : String} {T : u_T} {N ci index o j : Nat} {Ts : List Cond} {fs : List Value} (hts : ∀ w ∈ Ts, w.before args s = true) (hin : ∀ w ∈ u_ws C T N, w ∈ Ts) (ty0 : Nat → FieldType) (hty : ∀ k, k < N → parseFieldDescriptor (T k).2.2.1 = some (ty0 k)) (hnm : ∀ a, a < N → ∀ b, b < N → a ≠ b → (T a).2.1 ≠ (T b).2.1) (hown : s.vm.findClass own = some m.cls) (hK : va_K D vwCl tys s) (hlo : lo ≤ o) (hj : ex[j]? = some (o, .inr (ci, fs))) (hd0 : ∀ i q, ex[i]? = some q → i ≠ j → q.1 ≠ o) (hc : vwCl[ci]? = some (C, T, N)) (k0 : Nat) (hk : k0 < N) (hlink : (Cond.fieldLink own index ref (T k0).2.1 (T k0).2.2.1).before args s = true) (hsame : ∀ x, s.fieldFound? (T k0).1 (T k0).2.1 (T k0).2.2.1 = some x → s.fieldFound? ref (T k0).2.1 (T k0).2.2.1 = some x) (hin2 : meth.name = "<init>") (hdecl : (T k0).1 = own) {ty : FieldType} {v : qV} (hd : parseFieldDescriptor (T k0).2.2.1 = some ty) (hn : narrow ty (qv b v) = qv b v) (hfit : fits ty (qv b v) = true) (hl0 : k0 < fs.length) (d : decode cc pc = .ok (.putfield index, 3)) (k : QJ p l e R s m args below meth c (qB (b + lo)) b nL cs sl Q (qWk D en b lo n (ex.set j (o, .inr (ci, fs.set k0 (qv b v))))) M (pc + 3) L st) : QJ p l e R s m args below meth c (qB (b + lo)) b nL cs sl Q (qWk D en b lo n ex) M pc L (v :: qr (some o) :: st) := fun H locs ls P S hl => by
  have hap := va_apart (own := own) hts hin ty0 hty hnm hK hc
  obtain ⟨r, h1, cell, q1, q2, q3, q4⟩ := P.2.1 (o, .inr (ci, fs)) (List.mem_of_getElem? hj)
  have hr : r = (C, T, N) := Option.some.inj (h1.symm.trans hc)
  subst hr
  obtain ⟨hS, hfc, kC, hkC, hkind⟩ := hK.1 ci _ hc
  obtain ⟨cf, kf, fi, f, hi, hsl⟩ := hS k0 hk
  have hst := (u_facts hfc hkC (u_lays hts hin hk) hi).1
  have fin : ∀ H1 : Heap, H1[b + o]? = some (cell.setSlot f.slot (qv b v)) → H1.size = H.size → (∀ q, q ≠ b + o → H1[q]? = H[q]?) → W p l e R s m args below meth c H1 (locs ++ [⟨b + o, f.slot⟩]) cs sl Q (F0 m (pc + 3) ls (st.map (qv b))) := by
    intro H1 e1 e2 e3
    exact k H1 _ ls (qk_upd P hj hd0 e2 ⟨_, hc, t_OB.to (V := updV (vp_V fs) k0 (qv b v)) ⟨_, e1, q2, q3, by rw [hsl]; exact t_set q4 hap hk (qv b v)⟩ (fun j _ => vp_updV_set hl0 (qv b v) j)⟩ e3) (S.put e2 e3 (by show b + lo ≤ b + o; omega)) hl
  cases hfin : (T k0).2.2.2 with
  | false =>
    have hlay := hts _ (hin _ (u_in_lay hk))
    unfold u_lay at hlay
    rw [if_neg (by rw [hfin]; decide)] at hlay
    have h6 := u_store hfc hkC hkind hlay hi hd hn hfit
    exact W.putK hx hb (f := f) ⟨hown, hlink, ⟨_, _, _, hsame _ hi⟩, hst⟩ (by rw [q2]; exact h6) q1 q3 (by rw [hsl]; exact k2_hasslot (q4 k0 hk)) rfl rfl d fin
  | true =>
    have hlay := hts _ (hin _ (u_in_lay hk))
    unfold u_lay at hlay
    rw [if_pos hfin] at hlay
    have hcf : m.cls = cf := by
      obtain ⟨_, _, c', _, _, _, -, -, hf', -, -, -, hown2, -⟩ := Cond.laysFinal_spec hlay
      have e1 : c' = cf := by have := hi.symm.trans hf'; simp at this; exact this.1.symm
      rw [hdecl] at hown2
      rw [← e1]; exact Option.some.inj (hown.symm.trans hown2)
    have h6 := u_fits hfc hkC hkind (Or.inr hlay) hi hd hn hfit
    exact W.putFinK hx hb hown hlink (hsame _ hi) hst hcf hin2 (by rw [q2]; exact h6) q1 q3 (by rw [hsl]; exact k2_hasslot (q4 k0 hk)) rfl rfl d fin
theorem qk_get (hx : p.tables.exec = Jvm.exec) (hb : c.code = cc) {own ref C : String} {T : u_T} {N ci index o j : Nat} {Ts : List Cond} {fs : List Value} (hts : ∀ w ∈ Ts, w.before args s = true) (hin : ∀ w ∈ u_ws C T N, w ∈ Ts) (hown : s.vm.findClass own = some m.cls) (hK : va_K D vwCl tys s) (hj : ex[j]? = some (o, .inr (ci, fs))) (hc : vwCl[ci]? = some (C, T, N)) (k0 : Nat) (hk : k0 < N) (hlink : (Cond.fieldLink own index ref (T k0).2.1 (T k0).2.2.1).before args s = true) (hsame : ∀ x, s.fieldFound? (T k0).1 (T k0).2.1 (T k0).2.2.1 = some x → s.fieldFound? ref (T k0).2.1 (T k0).2.2.1 = some x) (v : qV) (hv : fs[k0]? = some (qv b v)) (d : decode cc pc = .ok (.getfield index, 3)) (k : QJ p l e R s m args below meth c (qB (b + lo)) b nL cs sl Q (qWk D en b lo n ex) M (pc + 3) L (v :: st)) : QJ p l e R s m args below meth c (qB (b + lo)) b nL cs sl Q (qWk D en b lo n ex) M pc L (qr (some o) :: st) := fun H locs ls P S hl => by
  have hP : va_P D vwCl [(b + o, .inr (ci, fs))] H := fun i q hi => by
    have hz : i < 1 := (List.getElem?_eq_some_iff.mp hi).1
    rw [show i = 0 by omega] at hi
    cases hi
    exact P.2.1 (o, .inr (ci, fs)) (List.mem_of_getElem? hj)
  exact va_get hx hb hts hin hown hK hP 0 (a := b + o) (fs := fs) rfl hc k0 hk hlink hsame hv d (k H locs ls P S hl)
theorem qk_sub (hx : p.tables.exec = Jvm.exec) (hb : c.code = cc) {own C : String} {T : u_T} {N ci index index2 n1 mc ms maxL : Nat} {Ts ws : List Cond} {fs0 : List Value} {y : MethodName} {rm : Room} (hxn : ∀ q ∈ ex, q.1 < n) (hml : c.maxLocals = nL) (hts : ∀ w ∈ Ts, w.before args s = true) (hin : ∀ w ∈ u_ws C T N, w ∈ Ts) (ty : Nat → FieldType) (hty : ∀ k, k < N → parseFieldDescriptor (T k).2.2.1 = some (ty k)) (hown : s.vm.findClass own = some m.cls) (hcl : (Cond.classLink own index C).before args s = true) (hinst : (Cond.instantiable C N).before args s = true) (hini : (Cond.initialized C).before args s = true) (hK : va_K D vwCl tys s) (hX : qXk X) (hs : X s) (hc : vwCl[ci]? = some (C, T, N)) (hfs : ∀ j, j < N → defaultValue (ty j) = vp_V fs0 j) (hM : CTk l y ws rm D tys en b X n n1 mc ms (.inr (ci, fs0))) (cw : CallB R s args own index2 y bytes maxL none ws rm mc ms 0 ∧ y.name = "<init>" ∧ (Cond.instanceMethod y).before args s = true) (hlo : lo ≤ n) (hl7 : st.length ≤ 7) (hcells : cs + 1 + mc ≤ R.cells) (hslots : sl + N + ms ≤ R.slots) (d1 : decode cc pc = .ok (.new index, 3)) (d2 : decode cc (pc + 3) = .ok (.dup, 1)) (d3 : decode cc (pc + 3 + 1) = .ok (.invokespecial index2, 3)) (k : QJ p l e R s m args below meth c (qB (b + lo)) b nL (cs + 1 + mc) (sl + N + ms) Q (qWk D en b lo n1 ex) M (pc + 3 + 1 + 3) L (qr (some n) :: st)) : QJ p l e R s m args below meth c (qB (b + lo)) b nL cs sl Q (qWk D en b lo n ex) M pc L st := fun H locs ls P S hl => by
  have hKn := hK.1 ci _ hc
  refine W.newcK hx hb hown hcl hinst hini rfl d1 (by omega) (by omega) hKn.2.1 P.1 fun H1 kC hkC e1 z1 o1 => ?_
  have hb1 : va_at D vwCl (b + n, .inr (ci, fs0)) H1 := ⟨_, hc, (u_born ty hts hin hKn hkC e1 hty).to hfs⟩
  have S1 : va_S (qB (b + lo)) s.heap H1 locs := ⟨by have := S.1; have := P.1; omega, fun x h1 h2 => (o1 x (by have := S.1; have := P.1; omega)).trans (S.2.1 x h1 h2), S.2.2⟩
  show W p l e R s m args below meth c H1 locs (cs + 1) (sl + N) Q (F0 m (pc + 3) ls (.ref (b + n) :: st.map (qv b)))
  refine lv_dup hx hb d2 rfl ?_
  refine va_callv (va_runI (Ts := Ts) (As := []) (rest := .ref (b + n) :: st.map (qv b)) (b := b + n) ⟨hx, hb, hml, hown, hts⟩ hM cw ⟨fun a U g mk q => ?_, fun U hU hW => ?_⟩ rfl rfl hl.1 rfl (lv_room ?_) d3 ⟨by omega, by omega⟩) S1 (fun q _ h => ?_) (fun q h => ?_) (fun u t H2 locs2 ht _ _ hB hz hk hS => ?_)
  · obtain ⟨q0, q1, q2, q3⟩ := q
    exact ⟨q0, q1, va_K.moved (u := U) (U := U.calling g mk a) (Vm.Alike.refl U.vm) q2, hX.1 U g mk a q3⟩
  · subst hU
    exact ⟨rfl, ⟨z1, fun q hq => by rw [List.mem_singleton.mp hq]; exact hb1, fun o h1 h2 h3 => absurd (show n = o by omega) (h3 (n, .inr (ci, fs0)) (List.mem_singleton.mpr rfl))⟩, va_K.moved hW.alike hK, hX.2 s U hs hW⟩
  · show 1 + ((st.map (qv b)).map fun v => v.category).sum ≤ 8
    rw [q_sum]; omega
  · have h5 : b + n ≤ q := h
    show b + lo ≤ q
    omega
  · have h5 : b + n ≤ q := h
    show b + lo ≤ q
    omega
  · subst ht
    exact k _ locs2 ls (qk_grow P hxn hB.1 (fun q hq => (hk q (by omega) (by show ¬ b + n ≤ q; omega)).trans (o1 q hq)) (fun o h1 h2 => hB.2.2 o h1 h2 (fun q hq => by cases hq))) hS hl
theorem qk_subN (hx : p.tables.exec = Jvm.exec) (hb : c.code = cc) {own C : String} {host : String} {T : u_T} {N ci index index2 n1 mc ms maxL : Nat} {Ts ws : List Cond} {fs0 : List Value} {y : MethodName} {rm : Room} (hxn : ∀ q ∈ ex, q.1 < n) (hml : c.maxLocals = nL) (hts : ∀ w ∈ Ts, w.before args s = true) (hin : ∀ w ∈ u_ws C T N, w ∈ Ts) (ty : Nat → FieldType) (hty : ∀ k, k < N → parseFieldDescriptor (T k).2.2.1 = some (ty k)) (hown : s.vm.findClass own = some m.cls) (hcl : (Cond.classLink own index C).before args s = true) (hinst : (Cond.instantiable C N).before args s = true) (hini : (Cond.initialized C).before args s = true) (hK : va_K D vwCl tys s) (hX : qXk X) (hs : X s) (hc : vwCl[ci]? = some (C, T, N)) (hfs : ∀ j, j < N → defaultValue (ty j) = vp_V fs0 j) (hM : CTk l y ws rm D tys en b X n n1 mc ms (.inr (ci, fs0))) (cw : va_CN R s args own index2 y host bytes maxL none ws rm mc ms 0 ∧ y.name = "<init>" ∧ (Cond.instanceMethod y).before args s = true) (hlo : lo ≤ n) (hl7 : st.length ≤ 7) (hcells : cs + 1 + mc ≤ R.cells) (hslots : sl + N + ms ≤ R.slots) (d1 : decode cc pc = .ok (.new index, 3)) (d2 : decode cc (pc + 3) = .ok (.dup, 1)) (d3 : decode cc (pc + 3 + 1) = .ok (.invokespecial index2, 3)) (k : QJ p l e R s m args below meth c (qB (b + lo)) b nL (cs + 1 + mc) (sl + N + ms) Q (qWk D en b lo n1 ex) M (pc + 3 + 1 + 3) L (qr (some n) :: st)) : QJ p l e R s m args below meth c (qB (b + lo)) b nL cs sl Q (qWk D en b lo n ex) M pc L st := fun H locs ls P S hl => by
  have hKn := hK.1 ci _ hc
  refine W.newcK hx hb hown hcl hinst hini rfl d1 (by omega) (by omega) hKn.2.1 P.1 fun H1 kC hkC e1 z1 o1 => ?_
  have hb1 : va_at D vwCl (b + n, .inr (ci, fs0)) H1 := ⟨_, hc, (u_born ty hts hin hKn hkC e1 hty).to hfs⟩
  have S1 : va_S (qB (b + lo)) s.heap H1 locs := ⟨by have := S.1; have := P.1; omega, fun x h1 h2 => (o1 x (by have := S.1; have := P.1; omega)).trans (S.2.1 x h1 h2), S.2.2⟩
  show W p l e R s m args below meth c H1 locs (cs + 1) (sl + N) Q (F0 m (pc + 3) ls (.ref (b + n) :: st.map (qv b)))
  refine lv_dup hx hb d2 rfl ?_
  refine va_callv (va_runIN (Ts := Ts) (As := []) (rest := .ref (b + n) :: st.map (qv b)) (b := b + n) ⟨hx, hb, hml, hown, hts⟩ hM cw ⟨fun a U g mk q => ?_, fun U hU hW => ?_⟩ rfl rfl hl.1 rfl (lv_room ?_) d3 ⟨by omega, by omega⟩) S1 (fun q _ h => ?_) (fun q h => ?_) (fun u t H2 locs2 ht _ _ hB hz hk hS => ?_)
  · obtain ⟨q0, q1, q2, q3⟩ := q
    exact ⟨q0, q1, va_K.moved (u := U) (U := U.calling g mk a) (Vm.Alike.refl U.vm) q2, hX.1 U g mk a q3⟩
  · subst hU
    exact ⟨rfl, ⟨z1, fun q hq => by rw [List.mem_singleton.mp hq]; exact hb1, fun o h1 h2 h3 => absurd (show n = o by omega) (h3 (n, .inr (ci, fs0)) (List.mem_singleton.mpr rfl))⟩, va_K.moved hW.alike hK, hX.2 s U hs hW⟩
  · show 1 + ((st.map (qv b)).map fun v => v.category).sum ≤ 8
    rw [q_sum]; omega
  · have h5 : b + n ≤ q := h
    show b + lo ≤ q
    omega
  · have h5 : b + n ≤ q := h
    show b + lo ≤ q
    omega
  · subst ht
    exact k _ locs2 ls (qk_grow P hxn hB.1 (fun q hq => (hk q (by omega) (by show ¬ b + n ≤ q; omega)).trans (o1 q hq)) (fun o h1 h2 => hB.2.2 o h1 h2 (fun q hq => by cases hq))) hS hl
theorem qm_k {l : Launch} {n1 mc ms o : Nat} {e0 : va_E} {y : MethodName} {ws ws' : List Cond} {rm : Room} (hy : plainName y.cls = true) (hi : y.name = "<init>") (hw : ws = Cond.code y cc nL none :: ws') (hlen : 1 ≤ nL)
    (body : ∀ (p : Program) (e : Env) (s : State) (m : MethodId) (args : Array Value) (below : List Frame) (meth : Method) (c : Code) (Q : State → Prop), p.tables.exec = Jvm.exec → c.code = cc → (∀ w ∈ ws, w.before args s = true) → s.vm.findClass y.cls = some m.cls → c.maxLocals = nL → meth.name = "<init>" → va_K D vwCl tys s → X s →
      (∀ (M : qM) (pc : Nat) (L : List (Nat × qV)) (Wd : qM → Heap → Prop), decode cc pc = .ok (.return_, 1) → (∀ H, Wd M H → qWk D en b o n1 [] qM0 H) → QJ p l e rm s m args below meth c (qB (b + o)) b nL mc ms Q Wd M pc L []) → QJ p l e rm s m args below meth c (qB (b + o)) b nL 0 0 Q (qWk D en b o (o + 1) [(o, e0)]) qM0 0 [(0, qr (some o))] []) : CTk l y ws rm D tys en b X o n1 mc ms e0 := by
  refine Met.ofW (cc := cc) (maxL := nL) (ret := none) hy hw ?_
  intro p e s m args below meth c s₁ B hml hv
  obtain ⟨rfl, P, hK, hX⟩ := hv
  rw [lg_entry_eq]
  refine body p e s m _ below meth c _ B.exec B.bytes (atoms_spec (ws := ws) B.pre) (findClass_of_methodNamed B.named) hml ((name_of_methodNamed B.named B.method).1.trans hi) hK hX ?_ s.heap [] _ P va_S.rf (lv_entry [.ref (b + o)] hlen)
  intro M pc L Wd d ho H locs ls P S hl
  exact W.vret B.exec B.bytes B.returns (fun t ht _ => ⟨⟨(), rfl, trivial, by show qWk D en b o n1 [] qM0 t.heap; rw [ht]; exact ho H P⟩, S.F ht⟩) S.2.2 d B.notSynchronized
end QKS
theorem q_s1 {α : Type} {x : α} {P : α → Prop} : ∀ (i : Nat) (q : α), [x][i]? = some q → i ≠ 0 → P q := by
  intro i q h hi
  have hz : i < 1 := (List.getElem?_eq_some_iff.mp h).1
  omega
theorem qk_done {D : va_G} {en : qE} {b o n : Nat} {e : va_E} {M : qM} {H : Heap} (h : qWk D en b o n [(o, e)] M H) (he : e = en o (fun _ => 0) (fun _ => none)) : qWk D en b o n [] qM0 H := by
  refine ⟨h.1, fun q hq => (by cases hq), fun p h1 h2 _ => ?_⟩
  by_cases hp : p = o
  · subst hp
    have := h.2.1 (p, e) (List.mem_singleton.mpr rfl)
    rw [he] at this
    exact this
  · exact h.2.2 p h1 h2 fun q hq => by rw [List.mem_singleton.mp hq]; exact fun z => hp z.symm
theorem qk_one {D : va_G} {en : qE} {b lo n : Nat} {ex : List (Nat × va_E)} {M : qM} {e' : va_E} (hx : ∀ q ∈ ex, q.1 < n) (he : e' = en n (fun _ => 0) (fun _ => none)) : ∀ H H1 : Heap, qWk D en b lo n ex M H → H1.size = b + (n + 1) → (∀ q : Nat, q < b + n → H1[q]? = H[q]?) → va_at D vwCl (b + n, e') H1 → qWk D en b lo (n + 1) ex M H1 := fun H H1 h z o1 ha => qk_grow h hx z o1 fun o h1 h2 => by
  have : o = n := by omega
  subst this
  rw [← he]
  exact ha
def qXc (U : State) : Prop := (va_AO "PlainPage$Node" U ∧ va_AO "PlainPage$Letter" U ∧ va_AO "PlainPage$Rule" U) ∧ ∀ q ∈ nestTab, va_Nw (.methodLinkNest q.1 q.2.1 q.2.2.1 q.2.2.2) U
theorem qXc_ok : qXk qXc := ⟨fun U g mk a h => ⟨⟨va_AO.moved (u := U) (U := U.calling g mk a) (Vm.Alike.refl U.vm) h.1.1, va_AO.moved (u := U) (U := U.calling g mk a) (Vm.Alike.refl U.vm) h.1.2.1, va_AO.moved (u := U) (U := U.calling g mk a) (Vm.Alike.refl U.vm) h.1.2.2⟩, fun q hq => va_Nw.same (u := U) (U := U.calling g mk a) rfl rfl (h.2 q hq)⟩, fun s U h hW => ⟨⟨h.1.1.moved hW.alike, h.1.2.1.moved hW.alike, h.1.2.2.moved hW.alike⟩, fun q hq => va_Nw.warmM hW (h.2 q hq)⟩⟩
