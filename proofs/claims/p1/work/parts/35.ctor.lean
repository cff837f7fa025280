theorem q_arrc {cA : ClassId} {N : Nat} {f g : Nat → Value} (h : ∀ j, j < N → f j = g j) : arrV cA N f = arrV cA N g := by
  unfold arrV
  congr
  funext j
  exact h j.1 j.2
theorem q_atq {D : va_G} {cA : ClassId} {N a : Nat} {f g : Nat → Option Nat} {H : Heap} (h : ∀ j, j < N → f j = g j) (e : va_at D vwCl (a, .inl (cA, N, .inr (.inr (.inr (.inr f))))) H) : va_at D vwCl (a, .inl (cA, N, .inr (.inr (.inr (.inr g))))) H := by
  have e1 : H[a]? = some (vp_cell cA (N, .inr (.inr (.inr (.inr f))))) := e
  show H[a]? = some (vp_cell cA (N, .inr (.inr (.inr (.inr g)))))
  rw [e1, vp_cell_q, vp_cell_q, q_arrc (fun j hj => by rw [h j hj])]
section QKA
variable {p : Program} {l : Launch} {e : Env} {R : Room} {s : State} {m : MethodId} {args : Array Value} {below : List Frame} {meth : Method} {c : Code} {b nL cs sl lo n : Nat} {Q : State → Prop} {D : va_G} {tys : List (ClassId × FieldType)} {en : qE} {M : qM} {pc : Nat} {L : List (Nat × qV)} {st : List qV} {cc : ByteArray} {ex : List (Nat × va_E)}
theorem qk_aast (hx : p.tables.exec = Jvm.exec) (hb : c.code = cc) {o j t0 N' ci q : Nat} {i : Int32} {cA : ClassId} {r : vw_C} {fs : List Value} {f : Nat → Option Nat} {ex1 : List (Nat × va_E)} (hK : va_K D vwCl tys s) (hlo : lo ≤ o) (hj : ex[j]? = some (o, .inl (cA, N', .inr (.inr (.inr (.inr f)))))) (hd0 : ∀ i q, ex[i]? = some q → i ≠ j → q.1 ≠ o) (ht : tys[t0]? = some (cA, .object r.1)) (hc : vwCl[ci]? = some r) (hv : ∀ H, qWk D en b lo n ex M H → va_at D vwCl (b + q, .inr (ci, fs)) H) (hin : vp_in i N') (he : ex.set j (o, .inl (cA, N', .inr (.inr (.inr (.inr (va_up f i.toNatClampNeg (some (b + q)))))))) = ex1) (d : decode cc pc = .ok (.aastore, 1)) (k : QJ p l e R s m args below meth c (qB (b + lo)) b nL cs sl Q (qWk D en b lo n ex1) M (pc + 1) L st) : QJ p l e R s m args below meth c (qB (b + lo)) b nL cs sl Q (qWk D en b lo n ex) M pc L (qr (some q) :: qi i :: qr (some o) :: st) := fun H locs ls P S hl => by
  subst he
  have hlt : i.toNatClampNeg < N' := Nat.not_le.mp fun q => hin (Or.inr q)
  have h0 : ¬ i < 0 := fun q => hin (Or.inl q)
  obtain ⟨r', hr', cellV, g1, g2, g3, -⟩ := hv H P
  have hcls := (hK.1 ci r hc).2
  obtain ⟨kA, comp, k1, k2, k3, -⟩ := (hK.2 t0 _ ht).2
  have hcomp : comp = D.1 ci := Option.some.inj (k3.symm.trans hcls.1)
  subst hcomp
  obtain ⟨kC, hkC, -⟩ := hcls.2
  have ha : H[b + o]? = some (vp_cell cA (N', .inr (.inr (.inr (.inr f))))) := P.2.1 _ (List.mem_of_getElem? hj)
  refine W.aast hx hb ha (fun q h => by cases h) (fun h => by cases h) k1 k2 rfl hkC ⟨h0, by show _ < (arrV _ _ _).slots.size; rw [arrV_size]; exact hlt⟩ g1 (fun q h => by rw [g3] at h; cases h) (by rw [g2]; exact hkC) (by rw [g2]; exact va_assign hcls) rfl rfl d fun H1 e z oq => ?_
  refine k H1 _ ls (qk_upd P hj hd0 z ?_ oq) (S.put z oq (by show b + lo ≤ b + o; omega)) hl
  show H1[b + o]? = some (vp_cell _ _)
  rw [e]
  rw [vp_cell_q, vp_cell_q, arrV_store]
  congr 2
  funext q
  by_cases hq : q = i.toNatClampNeg
  · subst hq
    simp [updV, va_up, va_rf]
  · simp [updV, va_up, hq]
theorem qk_aald (hx : p.tables.exec = Jvm.exec) (hb : c.code = cc) {o j t0 N' q : Nat} {i : Int32} {cA : ClassId} {C : String} {f : Nat → Option Nat} (hK : va_K D vwCl tys s) (hj : ex[j]? = some (o, .inl (cA, N', .inr (.inr (.inr (.inr f)))))) (ht : tys[t0]? = some (cA, .object C)) (hin : vp_in i N') (hv : f i.toNatClampNeg = some (b + q)) (d : decode cc pc = .ok (.aaload, 1)) (k : QJ p l e R s m args below meth c (qB (b + lo)) b nL cs sl Q (qWk D en b lo n ex) M (pc + 1) L (qr (some q) :: st)) : QJ p l e R s m args below meth c (qB (b + lo)) b nL cs sl Q (qWk D en b lo n ex) M pc L (qi i :: qr (some o) :: st) := fun H locs ls P S hl => by
  have hP : va_P D vwCl [(b + o, .inl (cA, N', .inr (.inr (.inr (.inr f)))))] H := fun i q hi => by
    have hz : i < 1 := (List.getElem?_eq_some_iff.mp hi).1
    rw [show i = 0 by omega] at hi
    cases hi
    exact P.2.1 _ (List.mem_of_getElem? hj)
  refine va_aldq hx hb hK hP 0 t0 (a := b + o) rfl ht hin d ?_
  rw [hv]
  exact k H locs ls P S hl
end QKA
theorem tcN {i : Nat} (h : i < 24) : tcX (7 + 5 * i) = 7 := by
  unfold tcX
  repeat' split
  all_goals omega
theorem tcLt {i : Nat} (h : i < 160) : tcX (127 + i) = 12 := by
  unfold tcX
  repeat' split
  all_goals omega
theorem tcRl {i : Nat} (h : i < 12) : tcX (292 + 6 * i) = 18 := by
  unfold tcX
  repeat' split
  all_goals omega
theorem q_g24 : ∀ i, i < 24 → ¬ (24 : Int32) ≤ nI i := by decide +kernel
theorem q_g160 : ∀ i, i < 160 → ¬ (160 : Int32) ≤ nI i := by decide +kernel
theorem q_g12 : ∀ i, i < 12 → ¬ (12 : Int32) ≤ nI i := by decide +kernel
/-- references that are set up to a place -/
def qUp (b st w i : Nat) : Nat → Option Nat := fun j => if j < i then some (b + (st + w * j)) else none
theorem qUp_s {b st w i : Nat} : va_up (qUp b st w i) i (some (b + (st + w * i))) = qUp b st w (i + 1) := by
  funext j
  unfold va_up qUp
  by_cases h : j = i
  · subst h; simp
  · rw [if_neg h]
    by_cases h2 : j < i
    · rw [if_pos h2, if_pos (by omega)]
    · rw [if_neg h2, if_neg (by omega)]
theorem qUp_0 {b st w : Nat} : qUp b st w 0 = fun _ => none := by
  funext j
  simp [qUp]
theorem qUp_s1 {b st i : Nat} : va_up (qUp b st 1 i) i (some (b + (st + i))) = qUp b st 1 (i + 1) := by
  rw [← qUp_s, Nat.one_mul]
theorem q_s2 {α : Type} {x y : α} {P : α → Prop} (j : Nat) (h0 : j ≠ 0 → P x) (h1 : j ≠ 1 → P y) : ∀ (i : Nat) (q : α), [x, y][i]? = some q → i ≠ j → P q := by
  intro i q h hi
  match i, h with
  | 0, h => cases h; exact h0 (fun z => hi z.symm)
  | 1, h => cases h; exact h1 (fun z => hi z.symm)
  | n + 2, h => simp at h
theorem q_s3 {α : Type} {x y z : α} {P : α → Prop} (j : Nat) (h0 : j ≠ 0 → P x) (h1 : j ≠ 1 → P y) (h2 : j ≠ 2 → P z) : ∀ (i : Nat) (q : α), [x, y, z][i]? = some q → i ≠ j → P q := by
  intro i q h hi
  match i, h with
  | 0, h => cases h; exact h0 (fun z => hi z.symm)
  | 1, h => cases h; exact h1 (fun z => hi z.symm)
  | 2, h => cases h; exact h2 (fun z => hi z.symm)
  | n + 3, h => simp at h
theorem qk_doneG {D : va_G} {en : qE} {b lo n : Nat} {ex : List (Nat × va_E)} {M : qM} {H : Heap} (h : qWk D en b lo n ex M H) (hc : ∀ q ∈ ex, va_at D vwCl (b + q.1, q.2) H → va_at D vwCl (b + q.1, en q.1 (fun _ => 0) (fun _ => none)) H) : qWk D en b lo n [] qM0 H := by
  refine ⟨h.1, fun q hq => (by cases hq), fun o h1 h2 _ => ?_⟩
  by_cases hx : ∃ q ∈ ex, q.1 = o
  · obtain ⟨q, hq, rfl⟩ := hx
    exact hc q hq (h.2.1 q hq)
  · exact h.2.2 o h1 h2 fun q hq e => hx ⟨q, hq, e⟩
theorem qj_ex {p : Program} {l : Launch} {e : Env} {R : Room} {s : State} {m : MethodId} {args : Array Value} {below : List Frame} {meth : Method} {c : Code} {A : Nat → Prop} {b nL cs sl cs1 sl1 lo n n1 pc : Nat} {Q : State → Prop} {D : va_G} {en : qE} {M : qM} {L : List (Nat × qV)} {st : List qV} {ex ex1 : List (Nat × va_E)} (h : ex = ex1) (hn : n = n1) (hc : cs = cs1) (hl : sl = sl1) (k : QJ p l e R s m args below meth c A b nL cs1 sl1 Q (qWk D en b lo n1 ex1) M pc L st) : QJ p l e R s m args below meth c A b nL cs sl Q (qWk D en b lo n ex) M pc L st := by
  subst h; subst hn; subst hc; subst hl
  exact k
set_option maxRecDepth 10000 in
theorem tl_0 : Cond.methodLink "PlainPage$Tree" 3 Lib.objectInit ∈ lw_g := q_g (q_t1 (List.mem_of_getElem? (i := 34) rfl)) rfl
set_option maxRecDepth 10000 in
theorem tl_1 : Cond.classLink "PlainPage$Tree" 9 "PlainPage$Node" ∈ lw_g := q_g (q_t1 (List.mem_of_getElem? (i := 35) rfl)) rfl
set_option maxRecDepth 10000 in
theorem tl_2 : Cond.classLink "PlainPage$Tree" 20 "PlainPage$Letter" ∈ lw_g := q_g (q_t1 (List.mem_of_getElem? (i := 37) rfl)) rfl
set_option maxRecDepth 10000 in
theorem tl_3 : Cond.code y_OpenStack_init prog_7_method_1_code 1 none ∈ lw_g := q_g (q_t1 (List.mem_of_getElem? (i := 43) rfl)) rfl
set_option maxRecDepth 10000 in
theorem tl_4 : Cond.classLink "PlainPage$Tree" 26 "PlainPage$OpenStack" ∈ lw_g := q_g (q_t1 (List.mem_of_getElem? (i := 39) rfl)) rfl
set_option maxRecDepth 10000 in
theorem tl_5 : Cond.instantiable "PlainPage$OpenStack" 2 ∈ lw_g := q_g (q_t1 (List.mem_of_getElem? (i := 40) rfl)) rfl
set_option maxRecDepth 10000 in
theorem tl_6 : Cond.instanceMethod y_OpenStack_init ∈ lw_g := q_g (q_t1 (List.mem_of_getElem? (i := 42) rfl)) rfl
set_option maxRecDepth 10000 in
theorem tl_7 : Cond.initialized "PlainPage$Letter" ∈ lw_g := q_g (q_t1 (List.mem_of_getElem? (i := 7) rfl)) rfl
set_option maxRecDepth 10000 in
theorem tl_8 : Cond.code y_Letter_init prog_5_method_1_code 1 none ∈ lw_g := q_g (q_t1 (List.mem_of_getElem? (i := 203) rfl)) rfl
set_option maxRecDepth 10000 in
theorem tl_9 : Cond.instantiable "PlainPage$Letter" 6 ∈ lw_g := q_g (q_t1 (List.mem_of_getElem? (i := 200) rfl)) rfl
set_option maxRecDepth 10000 in
theorem tl_10 : Cond.instanceMethod y_Letter_init ∈ lw_g := q_g (q_t1 (List.mem_of_getElem? (i := 202) rfl)) rfl
set_option maxRecDepth 10000 in
theorem tl_11 : Cond.code y_Node_init prog_6_method_1_code 1 none ∈ lw_g := q_g (q_t1 (List.mem_of_getElem? (i := 59) rfl)) rfl
set_option maxRecDepth 10000 in
theorem tl_12 : Cond.instantiable "PlainPage$Node" 14 ∈ lw_g := q_g (q_t1 (List.mem_of_getElem? (i := 56) rfl)) rfl
set_option maxRecDepth 10000 in
theorem tl_13 : Cond.instanceMethod y_Node_init ∈ lw_g := q_g (q_t1 (List.mem_of_getElem? (i := 58) rfl)) rfl
set_option maxRecDepth 10000 in
theorem tl_14 : Cond.methodLink "PlainPage$Sheet" 3 Lib.objectInit ∈ lw_g := q_g (q_t2 (List.mem_of_getElem? (i := 57) rfl)) rfl
set_option maxRecDepth 10000 in
theorem tl_15 : Cond.classLink "PlainPage$Sheet" 9 "PlainPage$Rule" ∈ lw_g := q_g (q_t2 (List.mem_of_getElem? (i := 58) rfl)) rfl
set_option maxRecDepth 10000 in
theorem tl_16 : Cond.arrayClass .char ∈ lw_g := q_g (q_t2 (List.mem_of_getElem? (i := 94) rfl)) rfl
set_option maxRecDepth 10000 in
theorem tl_17 : Cond.code y_Rule_init prog_8_method_1_code 1 none ∈ lw_g := q_g (q_t2 (List.mem_of_getElem? (i := 63) rfl)) rfl
set_option maxRecDepth 10000 in
theorem tl_18 : Cond.instantiable "PlainPage$Rule" 9 ∈ lw_g := q_g (q_t2 (List.mem_of_getElem? (i := 60) rfl)) rfl
set_option maxRecDepth 10000 in
theorem tl_19 : Cond.instanceMethod y_Rule_init ∈ lw_g := q_g (q_t2 (List.mem_of_getElem? (i := 62) rfl)) rfl
def tE (dA : Nat → ClassId) (b i k : Nat) : List (Nat × va_E) := [(1, .inr (5, [.ref (b + 2), .ref (b + 3), .ref (b + 4), .ref (b + 5), .null, .int 0, .int 0, .int 0])), (2, .inl (dA 3, 24, .inr (.inr (.inr (.inr (qUp b 7 5 i)))))), (4, .inl (dA 4, 160, .inr (.inr (.inr (.inr (qUp b 127 1 k))))))]
theorem d_Tree_init_0 : decode prog_11_method_1_code 0 = .ok (.aload_n 0, 1) := by decide +kernel
theorem d_Tree_init_1 : decode prog_11_method_1_code 1 = .ok (.invokespecial 3, 3) := by decide +kernel
theorem d_Tree_init_4 : decode prog_11_method_1_code 4 = .ok (.aload_n 0, 1) := by decide +kernel
theorem d_Tree_init_5 : decode prog_11_method_1_code 5 = .ok (.bipush 24, 2) := by decide +kernel
theorem d_Tree_init_7 : decode prog_11_method_1_code 7 = .ok (.anewarray 9, 3) := by decide +kernel
theorem d_Tree_init_10 : decode prog_11_method_1_code 10 = .ok (.putfield 11, 3) := by decide +kernel
theorem d_Tree_init_13 : decode prog_11_method_1_code 13 = .ok (.aload_n 0, 1) := by decide +kernel
theorem d_Tree_init_14 : decode prog_11_method_1_code 14 = .ok (.bipush 24, 2) := by decide +kernel
theorem d_Tree_init_16 : decode prog_11_method_1_code 16 = .ok (.anewarray 9, 3) := by decide +kernel
theorem d_Tree_init_19 : decode prog_11_method_1_code 19 = .ok (.putfield 17, 3) := by decide +kernel
theorem d_Tree_init_22 : decode prog_11_method_1_code 22 = .ok (.aload_n 0, 1) := by decide +kernel
theorem d_Tree_init_23 : decode prog_11_method_1_code 23 = .ok (.sipush 160, 3) := by decide +kernel
theorem d_Tree_init_26 : decode prog_11_method_1_code 26 = .ok (.anewarray 20, 3) := by decide +kernel
theorem d_Tree_init_29 : decode prog_11_method_1_code 29 = .ok (.putfield 22, 3) := by decide +kernel
theorem d_Tree_init_32 : decode prog_11_method_1_code 32 = .ok (.aload_n 0, 1) := by decide +kernel
theorem d_Tree_init_33 : decode prog_11_method_1_code 33 = .ok (.new 26, 3) := by decide +kernel
theorem d_Tree_init_36 : decode prog_11_method_1_code 36 = .ok (.dup, 1) := by decide +kernel
theorem d_Tree_init_37 : decode prog_11_method_1_code 37 = .ok (.invokespecial 28, 3) := by decide +kernel
theorem d_Tree_init_40 : decode prog_11_method_1_code 40 = .ok (.putfield 29, 3) := by decide +kernel
theorem d_Tree_init_43 : decode prog_11_method_1_code 43 = .ok (.iconst 0, 1) := by decide +kernel
theorem d_Tree_init_44 : decode prog_11_method_1_code 44 = .ok (.istore_n 1, 1) := by decide +kernel
theorem d_Tree_init_45 : decode prog_11_method_1_code 45 = .ok (.iload_n 1, 1) := by decide +kernel
theorem d_Tree_init_46 : decode prog_11_method_1_code 46 = .ok (.bipush 24, 2) := by decide +kernel
theorem d_Tree_init_48 : decode prog_11_method_1_code 48 = .ok (.if_icmp .ge 22, 3) := by decide +kernel
theorem d_Tree_init_51 : decode prog_11_method_1_code 51 = .ok (.aload_n 0, 1) := by decide +kernel
theorem d_Tree_init_52 : decode prog_11_method_1_code 52 = .ok (.getfield 11, 3) := by decide +kernel
theorem d_Tree_init_55 : decode prog_11_method_1_code 55 = .ok (.iload_n 1, 1) := by decide +kernel
theorem d_Tree_init_56 : decode prog_11_method_1_code 56 = .ok (.new 9, 3) := by decide +kernel
theorem d_Tree_init_59 : decode prog_11_method_1_code 59 = .ok (.dup, 1) := by decide +kernel
theorem d_Tree_init_60 : decode prog_11_method_1_code 60 = .ok (.invokespecial 33, 3) := by decide +kernel
theorem d_Tree_init_63 : decode prog_11_method_1_code 63 = .ok (.aastore, 1) := by decide +kernel
theorem d_Tree_init_64 : decode prog_11_method_1_code 64 = .ok (.iinc 1 1, 3) := by decide +kernel
theorem d_Tree_init_67 : decode prog_11_method_1_code 67 = .ok (.goto (-22), 3) := by decide +kernel
theorem d_Tree_init_70 : decode prog_11_method_1_code 70 = .ok (.iconst 0, 1) := by decide +kernel
theorem d_Tree_init_71 : decode prog_11_method_1_code 71 = .ok (.istore_n 1, 1) := by decide +kernel
theorem d_Tree_init_72 : decode prog_11_method_1_code 72 = .ok (.iload_n 1, 1) := by decide +kernel
theorem d_Tree_init_73 : decode prog_11_method_1_code 73 = .ok (.sipush 160, 3) := by decide +kernel
theorem d_Tree_init_76 : decode prog_11_method_1_code 76 = .ok (.if_icmp .ge 22, 3) := by decide +kernel
theorem d_Tree_init_79 : decode prog_11_method_1_code 79 = .ok (.aload_n 0, 1) := by decide +kernel
theorem d_Tree_init_80 : decode prog_11_method_1_code 80 = .ok (.getfield 22, 3) := by decide +kernel
theorem d_Tree_init_83 : decode prog_11_method_1_code 83 = .ok (.iload_n 1, 1) := by decide +kernel
theorem d_Tree_init_84 : decode prog_11_method_1_code 84 = .ok (.new 20, 3) := by decide +kernel
theorem d_Tree_init_87 : decode prog_11_method_1_code 87 = .ok (.dup, 1) := by decide +kernel
theorem d_Tree_init_88 : decode prog_11_method_1_code 88 = .ok (.invokespecial 34, 3) := by decide +kernel
theorem d_Tree_init_91 : decode prog_11_method_1_code 91 = .ok (.aastore, 1) := by decide +kernel
theorem d_Tree_init_92 : decode prog_11_method_1_code 92 = .ok (.iinc 1 1, 3) := by decide +kernel
theorem d_Tree_init_95 : decode prog_11_method_1_code 95 = .ok (.goto (-23), 3) := by decide +kernel
theorem d_Tree_init_98 : decode prog_11_method_1_code 98 = .ok (.aload_n 0, 1) := by decide +kernel
theorem d_Tree_init_99 : decode prog_11_method_1_code 99 = .ok (.aload_n 0, 1) := by decide +kernel
theorem d_Tree_init_100 : decode prog_11_method_1_code 100 = .ok (.getfield 11, 3) := by decide +kernel
theorem d_Tree_init_103 : decode prog_11_method_1_code 103 = .ok (.iconst 0, 1) := by decide +kernel
theorem d_Tree_init_104 : decode prog_11_method_1_code 104 = .ok (.aaload, 1) := by decide +kernel
theorem d_Tree_init_105 : decode prog_11_method_1_code 105 = .ok (.putfield 35, 3) := by decide +kernel
theorem d_Tree_init_108 : decode prog_11_method_1_code 108 = .ok (.return_, 1) := by decide +kernel
abbrev rm_Tree_init : Room := { frames := 3, cells := 285, slots := 2082, locals := 80 }
set_option maxRecDepth 100000 in
set_option maxHeartbeats 4000000 in
theorem k_Tree_init {l : Launch} {D : va_G} {dA : Nat → ClassId} {b : Nat} : CTk l y_Tree_init w_Tree_init rm_Tree_init D (tysX dA) (enX dA b) b qXc 1 287 285 2082 (.inr (5, [.null, .null, .null, .null, .null, .int 0, .int 0, .int 0])) := by
  refine qm_k (cc := prog_11_method_1_code) (nL := 2) (by decide) rfl rfl (by decide) ?_
  intro p e s m args below meth c Q hx hb hts0 hown hml hin2 hK hs hret
  have hts : ∀ w ∈ lw_g, w.before args s = true := fun w h => hts0 w (List.mem_cons_of_mem _ h)
  refine qj_aload_n hx hb d_Tree_init_0 rfl 0 rfl ?_
  refine qk_obj hx hb hml hown (hts _ tl_0) (hts _ tk_1) (hts _ tk_2) d_Tree_init_1 (by decide) (Nat.le_of_ble_eq_true rfl) ?_
  refine qj_aload_n hx hb d_Tree_init_4 rfl 0 rfl ?_
  refine qj_bipush (v := 24) hx hb d_Tree_init_5 (by decide) ?_
  refine qk_anew (N' := 24) (cA := dA 3) hx hb hown (hts _ tl_1) hs.1.1 (hK.2 3 _ rfl).2.choose_spec.choose_spec.2.2.2 (by decide) rfl (by decide) (by decide) (by decide) (fun H H1 h z o1 ha => qk_growX h (List.forall_mem_cons.mpr ⟨(by show 1 < 2; omega), fun _ h => absurd h List.not_mem_nil⟩) z o1 ha) d_Tree_init_7 ?_
  refine qk_put (j := 0) (ty := .array (.object "PlainPage$Node")) (v := qr (some (2))) hx hb hts hin_5 ty_5 tyok_5 nm_5 hown hK (by omega) rfl (q_s2 0 (fun h => absurd rfl h) (fun _ => (Nat.ne_of_beq_eq_false rfl))) rfl 0 (by decide) (hts _ tw_36) (fun _ h => h) hin2 rfl (by decide +kernel) rfl rfl (Nat.le_of_ble_eq_true rfl) d_Tree_init_10 ?_
  refine qj_aload_n hx hb d_Tree_init_13 rfl 0 rfl ?_
  refine qj_bipush (v := 24) hx hb d_Tree_init_14 (by decide) ?_
  refine qk_anew (N' := 24) (cA := dA 3) hx hb hown (hts _ tl_1) hs.1.1 (hK.2 3 _ rfl).2.choose_spec.choose_spec.2.2.2 (by decide) rfl (by decide) (by decide) (by decide) (qk_one (List.forall_mem_cons.mpr ⟨(by show 1 < 3; omega), List.forall_mem_cons.mpr ⟨(by show 2 < 3; omega), fun _ h => absurd h List.not_mem_nil⟩⟩) (by rw [en_3 (rfl : tcX 3 = 3)]; rfl)) d_Tree_init_16 ?_
  refine qk_put (j := 0) (ty := .array (.object "PlainPage$Node")) (v := qr (some (3))) hx hb hts hin_5 ty_5 tyok_5 nm_5 hown hK (by omega) rfl (q_s2 0 (fun h => absurd rfl h) (fun _ => (Nat.ne_of_beq_eq_false rfl))) rfl 1 (by decide) (hts _ tw_231) (fun _ h => h) hin2 rfl (by decide +kernel) rfl rfl (Nat.le_of_ble_eq_true rfl) d_Tree_init_19 ?_
  refine qj_aload_n hx hb d_Tree_init_22 rfl 0 rfl ?_
  refine qj_sipush (v := 160) hx hb d_Tree_init_23 (by decide) ?_
  refine qk_anew (N' := 160) (cA := dA 4) hx hb hown (hts _ tl_2) hs.1.2.1 (hK.2 4 _ rfl).2.choose_spec.choose_spec.2.2.2 (by decide) rfl (by decide) (by decide) (by decide) (fun H H1 h z o1 ha => qk_growX h (List.forall_mem_cons.mpr ⟨(by show 1 < 4; omega), List.forall_mem_cons.mpr ⟨(by show 2 < 4; omega), fun _ h => absurd h List.not_mem_nil⟩⟩) z o1 ha) d_Tree_init_26 ?_
  refine qk_put (j := 0) (ty := .array (.object "PlainPage$Letter")) (v := qr (some (4))) hx hb hts hin_5 ty_5 tyok_5 nm_5 hown hK (by omega) rfl (q_s3 0 (fun h => absurd rfl h) (fun _ => (Nat.ne_of_beq_eq_false rfl)) (fun _ => (Nat.ne_of_beq_eq_false rfl))) rfl 2 (by decide) (hts _ tw_97) (fun _ h => h) hin2 rfl (by decide +kernel) rfl rfl (Nat.le_of_ble_eq_true rfl) d_Tree_init_29 ?_
  refine qj_aload_n hx hb d_Tree_init_32 rfl 0 rfl ?_
  refine qk_subN hx hb (List.forall_mem_cons.mpr ⟨(by show 1 < 5; omega), List.forall_mem_cons.mpr ⟨(by show 2 < 5; omega), List.forall_mem_cons.mpr ⟨(by show 4 < 5; omega), fun _ h => absurd h List.not_mem_nil⟩⟩⟩) hml hts hin_4 ty_4 tyok_4 hown (hts _ tl_4) (hts _ tl_5) (hts _ tw_13) hK qXc_ok hs rfl df_4 (k_OpenStack_init) ⟨(va_cnB 0 hts (q_good tl_3) rfl rfl rfl (hs.2 ("PlainPage$Tree", 28, y_OpenStack_init, "PlainPage") (by decide +kernel)) (hts _ tw_13) (by decide +kernel) ⟨by decide, by decide⟩), rfl, (hts _ tl_6)⟩ (by omega) (Nat.le_of_ble_eq_true rfl) (by decide) (by decide) d_Tree_init_33 d_Tree_init_36 d_Tree_init_37 ?_
  refine qk_put (j := 0) (ty := .object "PlainPage$OpenStack") (v := qr (some (5))) hx hb hts hin_5 ty_5 tyok_5 nm_5 hown hK (by omega) rfl (q_s3 0 (fun h => absurd rfl h) (fun _ => (Nat.ne_of_beq_eq_false rfl)) (fun _ => (Nat.ne_of_beq_eq_false rfl))) rfl 3 (by decide) (hts _ tw_12) (fun _ h => h) hin2 rfl (by decide +kernel) rfl rfl (Nat.le_of_ble_eq_true rfl) d_Tree_init_40 ?_
  refine qj_iconst (v := 0) hx hb d_Tree_init_43 (by decide) ?_
  refine qj_istore_n hx hb d_Tree_init_44 rfl (by decide) rfl ?_
  refine qj_ex (ex1 := tE dA b 0 0) (n1 := 7 + 5 * 0) (cs1 := 5 + 5 * 0) (sl1 := 234 + 37 * 0) (by unfold tE; rw [qUp_0, qUp_0]; rfl) rfl rfl rfl ?_
  refine qj_sub [1, 0] rfl ?_
  have hl2 : ∀ (k i : Nat), i + k = 160 → QJ p l e rm_Tree_init s m args below meth c (qB (b + 1)) b 2 (5 + 5 * 24 + i) (234 + 37 * 24 + 6 * i) Q (qWk D (enX dA b) b 1 (127 + i) (tE dA b 24 i)) qM0 72 [(0, qr (some 1)), (1, qi (nI i))] [] := by
    intro k
    induction k with
    | zero =>
      intro i hi
      have : i = 160 := by omega
      subst this
      refine qj_iload_n hx hb d_Tree_init_72 rfl 1 rfl ?_
      refine qj_sipush (v := 160) hx hb d_Tree_init_73 (by decide) ?_
      refine qj_icmp_ge (tgt := 98) hx hb d_Tree_init_76 (by decide) (fun _ => ?_) (fun h => absurd (by decide) h)
      refine qj_aload_n hx hb d_Tree_init_98 rfl 0 rfl ?_
      refine qj_aload_n hx hb d_Tree_init_99 rfl 0 rfl ?_
      refine qk_get (j := 0) hx hb hts hin_5 hown hK rfl rfl 0 (by decide) (hts _ tw_36) (fun _ h => h) (qr (some 2)) rfl d_Tree_init_100 ?_
      refine qj_iconst (v := 0) hx hb d_Tree_init_103 (by decide) ?_
      refine qk_aald (j := 1) (t0 := 3) (q := 7) hx hb hK rfl rfl (pk_in 0 24 (by decide)) rfl d_Tree_init_104 ?_
      refine qk_put (j := 0) (ty := .object "PlainPage$Node") (v := qr (some (7))) hx hb hts hin_5 ty_5 tyok_5 nm_5 hown hK (by omega) rfl (q_s3 0 (fun h => absurd rfl h) (fun _ => (Nat.ne_of_beq_eq_false rfl)) (fun _ => (Nat.ne_of_beq_eq_false rfl))) rfl 4 (by decide) (hts _ tw_18) (fun _ h => h) hin2 rfl (by decide +kernel) rfl rfl (Nat.le_of_ble_eq_true rfl) d_Tree_init_105 ?_
      exact hret _ _ _ _ d_Tree_init_108 (fun H h => qk_doneG h (List.forall_mem_cons.mpr ⟨fun h => by rw [en_1 (rfl : tcX 1 = 1)]; exact h, List.forall_mem_cons.mpr ⟨fun h => by rw [en_2 (rfl : tcX 2 = 2)]; exact q_atq (fun j hj => by unfold qUp; rw [if_pos hj]; rfl) h, List.forall_mem_cons.mpr ⟨fun h => by rw [en_4 (rfl : tcX 4 = 4)]; exact q_atq (fun j hj => by unfold qUp; rw [if_pos hj, Nat.one_mul]; rfl) h, fun _ h => absurd h List.not_mem_nil⟩⟩⟩))
    | succ k ih =>
      intro i hi
      refine qj_iload_n hx hb d_Tree_init_72 rfl 1 rfl ?_
      refine qj_sipush (v := 160) hx hb d_Tree_init_73 (by decide) ?_
      refine qj_icmp_ge (tgt := 98) hx hb d_Tree_init_76 (by decide) (fun h => absurd h (q_g160 i (by omega))) (fun _ => ?_)
      refine qj_aload_n hx hb d_Tree_init_79 rfl 0 rfl ?_
      refine qk_get (j := 0) hx hb hts hin_5 hown hK rfl rfl 2 (by decide) (hts _ tw_97) (fun _ h => h) (qr (some 4)) rfl d_Tree_init_80 ?_
      refine qj_iload_n hx hb d_Tree_init_83 rfl 1 rfl ?_
      refine qk_subN hx hb (List.forall_mem_cons.mpr ⟨(by show 1 < 127 + i; omega), List.forall_mem_cons.mpr ⟨(by show 2 < 127 + i; omega), List.forall_mem_cons.mpr ⟨(by show 4 < 127 + i; omega), fun _ h => absurd h List.not_mem_nil⟩⟩⟩) hml hts hin_2 ty_2 tyok_2 hown (hts _ tl_2) (hts _ tl_9) (hts _ tl_7) hK qXc_ok hs rfl df_2 (k_Letter_init (127 + i) (tcLt (by omega))) ⟨(va_cnB 0 hts (q_good tl_8) rfl rfl rfl (hs.2 ("PlainPage$Tree", 34, y_Letter_init, "PlainPage") (by decide +kernel)) (hts _ tl_7) (by decide +kernel) ⟨by decide, by decide⟩), rfl, (hts _ tl_10)⟩ (by omega) (Nat.le_of_ble_eq_true rfl) (by show 5 + 5 * 24 + i + 1 + 0 ≤ 285; omega) (by show 234 + 37 * 24 + 6 * i + 6 + 0 ≤ 2082; omega) d_Tree_init_84 d_Tree_init_87 d_Tree_init_88 ?_
      refine qk_aast (j := 2) (t0 := 4) (ci := 2) (ex1 := tE dA b 24 (i + 1)) hx hb hK (by omega) rfl (q_s3 2 (fun _ => (Nat.ne_of_beq_eq_false rfl)) (fun _ => (Nat.ne_of_beq_eq_false rfl)) (fun h => absurd rfl h)) rfl rfl (fun H h => by have := h.2.2 (127 + i) (by omega) (by omega) (List.forall_mem_cons.mpr ⟨(by show 1 ≠ 127 + i; omega), List.forall_mem_cons.mpr ⟨(by show 2 ≠ 127 + i; omega), List.forall_mem_cons.mpr ⟨(by show 4 ≠ 127 + i; omega), fun _ h => absurd h List.not_mem_nil⟩⟩⟩); rw [en_12 (tcLt (by omega))] at this; exact this) (vp_in_nI (by omega) (by decide)) (by rw [nI_clamp (by omega)]; show [_, _, (4, _)] = tE dA b 24 (i + 1); unfold tE; rw [← qUp_s1]) d_Tree_init_91 ?_
      refine qj_iinc (j := 1) (v := nI (i + 1)) hx hb d_Tree_init_92 rfl (nI_1 i) (by decide) rfl ?_
      refine qj_goto (tgt := 72) hx hb d_Tree_init_95 (by decide) ?_
      refine qj_sub [1, 0] rfl ?_
      exact qj_ex rfl (by omega) (by omega) (by omega) (ih (i + 1) (by omega))
  have hl1 : ∀ (k i : Nat), i + k = 24 → QJ p l e rm_Tree_init s m args below meth c (qB (b + 1)) b 2 (5 + 5 * i) (234 + 37 * i) Q (qWk D (enX dA b) b 1 (7 + 5 * i) (tE dA b i 0)) qM0 45 [(0, qr (some 1)), (1, qi (nI i))] [] := by
    intro k
    induction k with
    | zero =>
      intro i hi
      have : i = 24 := by omega
      subst this
      refine qj_iload_n hx hb d_Tree_init_45 rfl 1 rfl ?_
      refine qj_bipush (v := 24) hx hb d_Tree_init_46 (by decide) ?_
      refine qj_icmp_ge (tgt := 70) hx hb d_Tree_init_48 (by decide) (fun _ => ?_) (fun h => absurd (by decide) h)
      refine qj_iconst (v := 0) hx hb d_Tree_init_70 (by decide) ?_
      refine qj_istore_n hx hb d_Tree_init_71 rfl (by decide) rfl ?_
      refine qj_sub [1, 0] rfl ?_
      exact hl2 160 0 rfl
    | succ k ih =>
      intro i hi
      refine qj_iload_n hx hb d_Tree_init_45 rfl 1 rfl ?_
      refine qj_bipush (v := 24) hx hb d_Tree_init_46 (by decide) ?_
      refine qj_icmp_ge (tgt := 70) hx hb d_Tree_init_48 (by decide) (fun h => absurd h (q_g24 i (by omega))) (fun _ => ?_)
      refine qj_aload_n hx hb d_Tree_init_51 rfl 0 rfl ?_
      refine qk_get (j := 0) hx hb hts hin_5 hown hK rfl rfl 0 (by decide) (hts _ tw_36) (fun _ h => h) (qr (some 2)) rfl d_Tree_init_52 ?_
      refine qj_iload_n hx hb d_Tree_init_55 rfl 1 rfl ?_
      refine qk_subN hx hb (List.forall_mem_cons.mpr ⟨(by show 1 < 7 + 5 * i; omega), List.forall_mem_cons.mpr ⟨(by show 2 < 7 + 5 * i; omega), List.forall_mem_cons.mpr ⟨(by show 4 < 7 + 5 * i; omega), fun _ h => absurd h List.not_mem_nil⟩⟩⟩) hml hts hin_3 ty_3 tyok_3 hown (hts _ tl_1) (hts _ tl_12) (hts _ tw_37) hK qXc_ok hs rfl df_3 (k_Node_init (7 + 5 * i) (tcN (by omega))) ⟨(va_cnB 0 hts (q_good tl_11) rfl rfl rfl (hs.2 ("PlainPage$Tree", 33, y_Node_init, "PlainPage") (by decide +kernel)) (hts _ tw_37) (by decide +kernel) ⟨by decide, by decide⟩), rfl, (hts _ tl_13)⟩ (by omega) (Nat.le_of_ble_eq_true rfl) (by show 5 + 5 * i + 1 + 4 ≤ 285; omega) (by show 234 + 37 * i + 14 + 23 ≤ 2082; omega) d_Tree_init_56 d_Tree_init_59 d_Tree_init_60 ?_
      refine qk_aast (j := 1) (t0 := 3) (ci := 3) (ex1 := tE dA b (i + 1) 0) hx hb hK (by omega) rfl (q_s3 1 (fun _ => (Nat.ne_of_beq_eq_false rfl)) (fun h => absurd rfl h) (fun _ => (Nat.ne_of_beq_eq_false rfl))) rfl rfl (fun H h => by have := h.2.2 (7 + 5 * i) (by omega) (by omega) (List.forall_mem_cons.mpr ⟨(by show 1 ≠ 7 + 5 * i; omega), List.forall_mem_cons.mpr ⟨(by show 2 ≠ 7 + 5 * i; omega), List.forall_mem_cons.mpr ⟨(by show 4 ≠ 7 + 5 * i; omega), fun _ h => absurd h List.not_mem_nil⟩⟩⟩); rw [en_7 (tcN (by omega))] at this; exact this) (vp_in_nI (by omega) (by decide)) (by rw [nI_clamp (by omega)]; show [_, (2, _), _] = tE dA b (i + 1) 0; unfold tE; rw [← qUp_s]) d_Tree_init_63 ?_
      refine qj_iinc (j := 1) (v := nI (i + 1)) hx hb d_Tree_init_64 rfl (nI_1 i) (by decide) rfl ?_
      refine qj_goto (tgt := 45) hx hb d_Tree_init_67 (by decide) ?_
      refine qj_sub [1, 0] rfl ?_
      exact qj_ex rfl (by omega) (by omega) (by omega) (ih (i + 1) (by omega))
  exact hl1 24 0 rfl
def sE (dA : Nat → ClassId) (b i : Nat) : List (Nat × va_E) := [(288, .inr (8, [.ref (b + 289), .ref (b + 290), .ref (b + 291), .int 0, .int 0, .int 0, .int 0])), (289, .inl (dA 5, 12, .inr (.inr (.inr (.inr (qUp b 292 6 i))))))]
theorem d_Sheet_init_0 : decode prog_10_method_1_code 0 = .ok (.aload_n 0, 1) := by decide +kernel
theorem d_Sheet_init_1 : decode prog_10_method_1_code 1 = .ok (.invokespecial 3, 3) := by decide +kernel
theorem d_Sheet_init_4 : decode prog_10_method_1_code 4 = .ok (.aload_n 0, 1) := by decide +kernel
theorem d_Sheet_init_5 : decode prog_10_method_1_code 5 = .ok (.bipush 12, 2) := by decide +kernel
theorem d_Sheet_init_7 : decode prog_10_method_1_code 7 = .ok (.anewarray 9, 3) := by decide +kernel
theorem d_Sheet_init_10 : decode prog_10_method_1_code 10 = .ok (.putfield 11, 3) := by decide +kernel
theorem d_Sheet_init_13 : decode prog_10_method_1_code 13 = .ok (.aload_n 0, 1) := by decide +kernel
theorem d_Sheet_init_14 : decode prog_10_method_1_code 14 = .ok (.bipush 12, 2) := by decide +kernel
theorem d_Sheet_init_16 : decode prog_10_method_1_code 16 = .ok (.newarray .boolean, 2) := by decide +kernel
theorem d_Sheet_init_18 : decode prog_10_method_1_code 18 = .ok (.putfield 17, 3) := by decide +kernel
theorem d_Sheet_init_21 : decode prog_10_method_1_code 21 = .ok (.aload_n 0, 1) := by decide +kernel
theorem d_Sheet_init_22 : decode prog_10_method_1_code 22 = .ok (.bipush 120, 2) := by decide +kernel
theorem d_Sheet_init_24 : decode prog_10_method_1_code 24 = .ok (.newarray .char, 2) := by decide +kernel
theorem d_Sheet_init_26 : decode prog_10_method_1_code 26 = .ok (.putfield 21, 3) := by decide +kernel
theorem d_Sheet_init_29 : decode prog_10_method_1_code 29 = .ok (.iconst 0, 1) := by decide +kernel
theorem d_Sheet_init_30 : decode prog_10_method_1_code 30 = .ok (.istore_n 1, 1) := by decide +kernel
theorem d_Sheet_init_31 : decode prog_10_method_1_code 31 = .ok (.iload_n 1, 1) := by decide +kernel
theorem d_Sheet_init_32 : decode prog_10_method_1_code 32 = .ok (.bipush 12, 2) := by decide +kernel
theorem d_Sheet_init_34 : decode prog_10_method_1_code 34 = .ok (.if_icmp .ge 22, 3) := by decide +kernel
theorem d_Sheet_init_37 : decode prog_10_method_1_code 37 = .ok (.aload_n 0, 1) := by decide +kernel
theorem d_Sheet_init_38 : decode prog_10_method_1_code 38 = .ok (.getfield 11, 3) := by decide +kernel
theorem d_Sheet_init_41 : decode prog_10_method_1_code 41 = .ok (.iload_n 1, 1) := by decide +kernel
theorem d_Sheet_init_42 : decode prog_10_method_1_code 42 = .ok (.new 9, 3) := by decide +kernel
theorem d_Sheet_init_45 : decode prog_10_method_1_code 45 = .ok (.dup, 1) := by decide +kernel
theorem d_Sheet_init_46 : decode prog_10_method_1_code 46 = .ok (.invokespecial 25, 3) := by decide +kernel
theorem d_Sheet_init_49 : decode prog_10_method_1_code 49 = .ok (.aastore, 1) := by decide +kernel
theorem d_Sheet_init_50 : decode prog_10_method_1_code 50 = .ok (.iinc 1 1, 3) := by decide +kernel
theorem d_Sheet_init_53 : decode prog_10_method_1_code 53 = .ok (.goto (-22), 3) := by decide +kernel
theorem d_Sheet_init_56 : decode prog_10_method_1_code 56 = .ok (.return_, 1) := by decide +kernel
abbrev rm_Sheet_init : Room := { frames := 3, cells := 75, slots := 564, locals := 80 }
set_option maxRecDepth 100000 in
set_option maxHeartbeats 4000000 in
theorem k_Sheet_init {l : Launch} {D : va_G} {dA : Nat → ClassId} {b : Nat} : CTk l y_Sheet_init w_Sheet_init rm_Sheet_init D (tysX dA) (enX dA b) b qXc 288 364 75 564 (.inr (8, [.null, .null, .null, .int 0, .int 0, .int 0, .int 0])) := by
  refine qm_k (cc := prog_10_method_1_code) (nL := 2) (by decide) rfl rfl (by decide) ?_
  intro p e s m args below meth c Q hx hb hts0 hown hml hin2 hK hs hret
  have hts : ∀ w ∈ lw_g, w.before args s = true := fun w h => hts0 w (List.mem_cons_of_mem _ h)
  refine qj_aload_n hx hb d_Sheet_init_0 rfl 0 rfl ?_
  refine qk_obj hx hb hml hown (hts _ tl_14) (hts _ tk_1) (hts _ tk_2) d_Sheet_init_1 (by decide) (Nat.le_of_ble_eq_true rfl) ?_
  refine qj_aload_n hx hb d_Sheet_init_4 rfl 0 rfl ?_
  refine qj_bipush (v := 12) hx hb d_Sheet_init_5 (by decide) ?_
  refine qk_anew (N' := 12) (cA := dA 5) hx hb hown (hts _ tl_15) hs.1.2.2 (hK.2 5 _ rfl).2.choose_spec.choose_spec.2.2.2 (by decide) rfl (by decide) (by decide) (by decide) (fun H H1 h z o1 ha => qk_growX h (List.forall_mem_cons.mpr ⟨(by show 288 < 289; omega), fun _ h => absurd h List.not_mem_nil⟩) z o1 ha) d_Sheet_init_7 ?_
  refine qk_put (j := 0) (ty := .array (.object "PlainPage$Rule")) (v := qr (some (289))) hx hb hts hin_8 ty_8 tyok_8 nm_8 hown hK (by omega) rfl (q_s2 0 (fun h => absurd rfl h) (fun _ => (Nat.ne_of_beq_eq_false rfl))) rfl 0 (by decide) (hts _ tw_291) (fun _ h => h) hin2 rfl (by decide +kernel) rfl rfl (Nat.le_of_ble_eq_true rfl) d_Sheet_init_10 ?_
  refine qj_aload_n hx hb d_Sheet_init_13 rfl 0 rfl ?_
  refine qj_bipush (v := 12) hx hb d_Sheet_init_14 (by decide) ?_
  refine qk_newa (atype := .boolean) (ty := .boolean) (N' := 12) (cA := dA 2) hx hb (List.forall_mem_cons.mpr ⟨(by show 288 < 290; omega), List.forall_mem_cons.mpr ⟨(by show 289 < 290; omega), fun _ h => absurd h List.not_mem_nil⟩⟩) (hts _ tk_31) rfl (hK.2 2 _ rfl).2 (en_16 (rfl : tcX 290 = 16) _ _) rfl (by decide) rfl (by decide) (by decide) (by decide) (by omega) d_Sheet_init_16 ?_
  refine qk_put (j := 0) (ty := .array (.boolean)) (v := qr (some (290))) hx hb hts hin_8 ty_8 tyok_8 nm_8 hown hK (by omega) rfl (q_s2 0 (fun h => absurd rfl h) (fun _ => (Nat.ne_of_beq_eq_false rfl))) rfl 1 (by decide) (hts _ tw_357) (fun _ h => h) hin2 rfl (by decide +kernel) rfl rfl (Nat.le_of_ble_eq_true rfl) d_Sheet_init_18 ?_
  refine qj_aload_n hx hb d_Sheet_init_21 rfl 0 rfl ?_
  refine qj_bipush (v := 120) hx hb d_Sheet_init_22 (by decide) ?_
  refine qk_newa (atype := .char) (ty := .char) (N' := 120) (cA := dA 1) hx hb (List.forall_mem_cons.mpr ⟨(by show 288 < 291; omega), List.forall_mem_cons.mpr ⟨(by show 289 < 291; omega), fun _ h => absurd h List.not_mem_nil⟩⟩) (hts _ tl_16) rfl (hK.2 1 _ rfl).2 (en_17 (rfl : tcX 291 = 17) _ _) rfl (by decide) rfl (by decide) (by decide) (by decide) (by omega) d_Sheet_init_24 ?_
  refine qk_put (j := 0) (ty := .array (.char)) (v := qr (some (291))) hx hb hts hin_8 ty_8 tyok_8 nm_8 hown hK (by omega) rfl (q_s2 0 (fun h => absurd rfl h) (fun _ => (Nat.ne_of_beq_eq_false rfl))) rfl 2 (by decide) (hts _ tw_292) (fun _ h => h) hin2 rfl (by decide +kernel) rfl rfl (Nat.le_of_ble_eq_true rfl) d_Sheet_init_26 ?_
  refine qj_iconst (v := 0) hx hb d_Sheet_init_29 (by decide) ?_
  refine qj_istore_n hx hb d_Sheet_init_30 rfl (by decide) rfl ?_
  refine qj_ex (ex1 := sE dA b 0) (n1 := 292 + 6 * 0) (cs1 := 3 + 6 * 0) (sl1 := 144 + 35 * 0) (by unfold sE; rw [qUp_0]; rfl) rfl rfl rfl ?_
  refine qj_sub [1, 0] rfl ?_
  have hl1 : ∀ (k i : Nat), i + k = 12 → QJ p l e rm_Sheet_init s m args below meth c (qB (b + 288)) b 2 (3 + 6 * i) (144 + 35 * i) Q (qWk D (enX dA b) b 288 (292 + 6 * i) (sE dA b i)) qM0 31 [(0, qr (some 288)), (1, qi (nI i))] [] := by
    intro k
    induction k with
    | zero =>
      intro i hi
      have : i = 12 := by omega
      subst this
      refine qj_iload_n hx hb d_Sheet_init_31 rfl 1 rfl ?_
      refine qj_bipush (v := 12) hx hb d_Sheet_init_32 (by decide) ?_
      refine qj_icmp_ge (tgt := 56) hx hb d_Sheet_init_34 (by decide) (fun _ => ?_) (fun h => absurd (by decide) h)
      exact hret _ _ _ _ d_Sheet_init_56 (fun H h => qk_doneG h (List.forall_mem_cons.mpr ⟨fun h => by rw [en_14 (rfl : tcX 288 = 14)]; exact h, List.forall_mem_cons.mpr ⟨fun h => by rw [en_15 (rfl : tcX 289 = 15)]; exact q_atq (fun j hj => by unfold qUp; rw [if_pos hj]; rfl) h, fun _ h => absurd h List.not_mem_nil⟩⟩))
    | succ k ih =>
      intro i hi
      refine qj_iload_n hx hb d_Sheet_init_31 rfl 1 rfl ?_
      refine qj_bipush (v := 12) hx hb d_Sheet_init_32 (by decide) ?_
      refine qj_icmp_ge (tgt := 56) hx hb d_Sheet_init_34 (by decide) (fun h => absurd h (q_g12 i (by omega))) (fun _ => ?_)
      refine qj_aload_n hx hb d_Sheet_init_37 rfl 0 rfl ?_
      refine qk_get (j := 0) hx hb hts hin_8 hown hK rfl rfl 0 (by decide) (hts _ tw_291) (fun _ h => h) (qr (some 289)) rfl d_Sheet_init_38 ?_
      refine qj_iload_n hx hb d_Sheet_init_41 rfl 1 rfl ?_
      refine qk_subN hx hb (List.forall_mem_cons.mpr ⟨(by show 288 < 292 + 6 * i; omega), List.forall_mem_cons.mpr ⟨(by show 289 < 292 + 6 * i; omega), fun _ h => absurd h List.not_mem_nil⟩⟩) hml hts hin_7 ty_7 tyok_7 hown (hts _ tl_15) (hts _ tl_18) (hts _ tw_261) hK qXc_ok hs rfl df_7 (k_Rule_init (292 + 6 * i) (tcRl (by omega))) ⟨(va_cnB 0 hts (q_good tl_17) rfl rfl rfl (hs.2 ("PlainPage$Sheet", 25, y_Rule_init, "PlainPage") (by decide +kernel)) (hts _ tw_261) (by decide +kernel) ⟨by decide, by decide⟩), rfl, (hts _ tl_19)⟩ (by omega) (Nat.le_of_ble_eq_true rfl) (by show 3 + 6 * i + 1 + 5 ≤ 75; omega) (by show 144 + 35 * i + 9 + 26 ≤ 564; omega) d_Sheet_init_42 d_Sheet_init_45 d_Sheet_init_46 ?_
      refine qk_aast (j := 1) (t0 := 5) (ci := 7) (ex1 := sE dA b (i + 1)) hx hb hK (by omega) rfl (q_s2 1 (fun _ => (Nat.ne_of_beq_eq_false rfl)) (fun h => absurd rfl h)) rfl rfl (fun H h => by have := h.2.2 (292 + 6 * i) (by omega) (by omega) (List.forall_mem_cons.mpr ⟨(by show 288 ≠ 292 + 6 * i; omega), List.forall_mem_cons.mpr ⟨(by show 289 ≠ 292 + 6 * i; omega), fun _ h => absurd h List.not_mem_nil⟩⟩); rw [en_18 (tcRl (by omega))] at this; exact this) (vp_in_nI (by omega) (by decide)) (by rw [nI_clamp (by omega)]; show [_, (289, _)] = sE dA b (i + 1); unfold sE; rw [← qUp_s]) d_Sheet_init_49 ?_
      refine qj_iinc (j := 1) (v := nI (i + 1)) hx hb d_Sheet_init_50 rfl (nI_1 i) (by decide) rfl ?_
      refine qj_goto (tgt := 31) hx hb d_Sheet_init_53 (by decide) ?_
      refine qj_sub [1, 0] rfl ?_
      exact qj_ex rfl (by omega) (by omega) (by omega) (ih (i + 1) (by omega))
  exact hl1 12 0 rfl
