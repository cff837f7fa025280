/-! memory by places; the judgement over it -/
abbrev qM : Type := (Nat → Nat → Int32) × (Nat → Nat → Option Nat)
abbrev qV : Type := Int32 ⊕ Option Nat ⊕ Nat
abbrev qi (x : Int32) : qV := Sum.inl x
abbrev qr (r : Option Nat) : qV := Sum.inr (Sum.inl r)
abbrev qa (a : Nat) : qV := Sum.inr (Sum.inr a)
abbrev qE : Type := Nat → (Nat → Int32) → (Nat → Option Nat) → va_E
def qv (b : Nat) (v : qV) : Value := match v with
  | .inl x => .int x
  | .inr (.inl r) => va_rf (r.map fun o => b + o)
  | .inr (.inr a) => .ref a
def qsI (M : qM) (o k : Nat) (x : Int32) : qM := (fun p j => if p = o ∧ j = k then x else M.1 p j, M.2)
def qsR (M : qM) (o k : Nat) (r : Option Nat) : qM := (M.1, fun p j => if p = o ∧ j = k then r else M.2 p j)
def wl (en : qE) (K b : Nat) (M : qM) : va_W := (List.range K).map fun o => (b + o, en o (M.1 o) (M.2 o))
def qA (K b : Nat) : Nat → Prop := fun q => b ≤ q ∧ q < b + K
def qW (M : qM) : Prop := ∀ o k o', M.2 o k = some o' → tcX o' = ftX (tcX o) k
def qL (b : Nat) (L : List (Nat × qV)) : List (Nat × Value) := L.map fun q => (q.1, qv b q.2)
def q_lt {α β : Type} (a : α) (k : α → Option β) : Option β := k a
def q_nn {β : Type} (r : Option Nat) (k : Nat → Option β) : Option β := match r with
  | none => none
  | some o => k o
def q_on {β : Type} (r : Option Nat) (a : Option β) (k : Nat → Option β) : Option β := match r with
  | none => a
  | some o => k o
def q_ix {β : Type} (i : Int32) (n : Nat) (k : Option β) : Option β := if i < 0 ∨ n ≤ i.toNatClampNeg then none else k
def q_zk {β : Type} (v : Int32) (k : Option β) : Option β := if v = 0 ∨ v = 1 then k else none
def q_dk {β : Type} (y : Int32) (k : Option β) : Option β := if y = 0 then none else k
def q_cl {α β : Type} (c : Option (α × qM)) (k : α → qM → Option β) : Option β := match c with
  | none => none
  | some q => k q.1 q.2
def q_cv {β : Type} (c : Option qM) (k : qM → Option β) : Option β := match c with
  | none => none
  | some q => k q
theorem q_lt_s {α β : Type} {a : α} {k : α → Option β} {out : β} (h : q_lt a k = some out) : ∃ x, x = a ∧ k x = some out := ⟨a, rfl, h⟩
theorem q_nn_s {β : Type} {r : Option Nat} {k : Nat → Option β} {out : β} (h : q_nn r k = some out) : ∃ o, r = some o ∧ k o = some out := by
  cases r with
  | none => cases h
  | some o => exact ⟨o, rfl, h⟩
theorem q_ix_s {β : Type} {i : Int32} {n : Nat} {k : Option β} {out : β} (h : q_ix i n k = some out) : vp_in i n ∧ k = some out := by
  unfold q_ix at h
  by_cases hc : i < 0 ∨ n ≤ i.toNatClampNeg
  · rw [if_pos hc] at h; cases h
  · rw [if_neg hc] at h; exact ⟨hc, h⟩
theorem q_zk_s {β : Type} {v : Int32} {k : Option β} {out : β} (h : q_zk v k = some out) : (v = 0 ∨ v = 1) ∧ k = some out := by
  unfold q_zk at h
  by_cases hc : v = 0 ∨ v = 1
  · rw [if_pos hc] at h; exact ⟨hc, h⟩
  · rw [if_neg hc] at h; cases h
theorem q_dk_s {β : Type} {v : Int32} {k : Option β} {out : β} (h : q_dk v k = some out) : ¬ v = 0 ∧ k = some out := by
  unfold q_dk at h
  by_cases hc : v = 0
  · rw [if_pos hc] at h; cases h
  · rw [if_neg hc] at h; exact ⟨hc, h⟩
theorem q_cl_s {α β : Type} {c : Option (α × qM)} {k : α → qM → Option β} {out : β} (h : q_cl c k = some out) : ∃ r M', c = some (r, M') ∧ k r M' = some out := by
  cases c with
  | none => cases h
  | some q => exact ⟨q.1, q.2, rfl, h⟩
theorem q_cv_s {β : Type} {c : Option qM} {k : qM → Option β} {out : β} (h : q_cv c k = some out) : ∃ M', c = some M' ∧ k M' = some out := by
  cases c with
  | none => cases h
  | some q => exact ⟨q, rfl, h⟩
def q_bp {α β : Type} (c : Option α) (k : α → Option β) : Option β := match c with
  | none => none
  | some q => k q
theorem q_bp_s {α β : Type} {c : Option α} {k : α → Option β} {out : β} (h : q_bp c k = some out) : ∃ r, c = some r ∧ k r = some out := by
  cases c with
  | none => cases h
  | some q => exact ⟨q, rfl, h⟩
theorem q_on_n {β : Type} {a : Option β} {k : Nat → Option β} {out : β} (h : q_on none a k = some out) : a = some out := h
theorem q_on_s {β : Type} {a : Option β} {k : Nat → Option β} {o : Nat} {out : β} (h : q_on (some o) a k = some out) : k o = some out := h
theorem q_ts {o t : Nat} (h : tcX o = t) : ∀ o', some o = some o' → tcX o' = t := fun o' e => by cases e; exact h
theorem q_tn {t : Nat} : ∀ o', (none : Option Nat) = some o' → tcX o' = t := fun o' e => by cases e
theorem q_if_t {β : Type} {c : Prop} [Decidable c] {a b : Option β} {out : β} (hc : c) (h : (if c then a else b) = some out) : a = some out := by rw [if_pos hc] at h; exact h
theorem q_if_f {β : Type} {c : Prop} [Decidable c] {a b : Option β} {out : β} (hc : ¬ c) (h : (if c then a else b) = some out) : b = some out := by rw [if_neg hc] at h; exact h
theorem q_zn {v : Int32} (h : v = 0 ∨ v = 1) : narrow .boolean (.int v) = .int v := by rcases h with rfl | rfl <;> rfl
theorem q_zf {v : Int32} (h : v = 0 ∨ v = 1) : fits .boolean (.int v) = true := by rcases h with rfl | rfl <;> rfl
theorem q_zv {v : Int32} (h : v = 0 ∨ v = 1) : vp_nar .boolean v = v := by rcases h with rfl | rfl <;> rfl
theorem qv_cat (b : Nat) (v : qV) : (qv b v).category = 1 := by
  rcases v with x | r | a
  · rfl
  · cases r <;> rfl
  · rfl
theorem qL_at {b : Nat} {L : List (Nat × qV)} {j i : Nat} {v : qV} (h : L[j]? = some (i, v)) : (qL b L)[j]? = some (i, qv b v) := by
  simp [qL, h]
theorem qL_filt (b i : Nat) (L : List (Nat × qV)) : (qL b L).filter (fun q => !(q.1 == i) && !(q.1 + 1 == i && q.2.category == 2)) = qL b (L.filter fun q => !(q.1 == i)) := by
  induction L with
  | nil => rfl
  | cons a L ih =>
    show List.filter _ ((a.1, qv b a.2) :: qL b L) = _
    rw [List.filter_cons, List.filter_cons, ih]
    have hc := qv_cat b a.2
    by_cases h : a.1 = i <;> simp [h, hc, qL]
theorem qL_sub {ls : Array Slot} {nL b : Nat} {L L' : List (Nat × qV)} (h : lv_has ls nL (qL b L)) (ks : List Nat) (hl : ks.filterMap (fun k => L[k]?) = L') : lv_has ls nL (qL b L') := by
  refine ⟨h.1, h.2.1, fun q hq => ?_⟩
  obtain ⟨x, hx, rfl⟩ := List.mem_map.mp hq
  rw [← hl] at hx
  obtain ⟨k, -, hk⟩ := List.mem_filterMap.mp hx
  exact h.2.2 _ (List.mem_map.mpr ⟨x, List.mem_of_getElem? hk, rfl⟩)
def qZ : Nat → List qV → List (Nat × qV)
  | _, [] => []
  | i, v :: vs => (i, v) :: qZ (i + 1) vs
theorem qZ_args (b : Nat) : ∀ (i : Nat) (av : List qV), lv_args i (av.map (qv b)) = qL b (qZ i av) := by
  intro i av
  induction av generalizing i with
  | nil => rfl
  | cons v av ih =>
    show (i, qv b v) :: lv_args (if (qv b v).category = 2 then i + 2 else i + 1) (av.map (qv b)) = _
    rw [if_neg (by rw [qv_cat]; decide), ih]
    rfl
theorem qZ_len (b : Nat) (av : List qV) : (lg_sl (av.map (qv b))).length = av.length := by
  induction av with
  | nil => rfl
  | cons v av ih =>
    show ((if (qv b v).category = 2 then [Slot.val (qv b v), .second] else [.val (qv b v)]) ++ lg_sl (av.map (qv b))).length = _
    rw [if_neg (by rw [qv_cat]; decide), List.length_append, ih]
    simp; omega
theorem wl_get {en : qE} {K b : Nat} {M : qM} {o : Nat} (h : o < K) : (wl en K b M)[o]? = some (b + o, en o (M.1 o) (M.2 o)) := by
  simp [wl, h]
theorem wl_len {en : qE} {K b : Nat} {M : qM} : (wl en K b M).length = K := by simp [wl]
theorem wl_set {en : qE} {K b : Nat} {M M' : qM} {o : Nat} {e' : va_E} (h : o < K) (he : e' = en o (M'.1 o) (M'.2 o)) (ho : ∀ q, q ≠ o → M'.1 q = M.1 q ∧ M'.2 q = M.2 q) : (wl en K b M).set o (b + o, e') = wl en K b M' := by
  apply List.ext_getElem?
  intro i
  by_cases hi : i < K
  · rw [wl_get hi]
    by_cases hio : i = o
    · subst hio
      rw [List.getElem?_set_self (by rw [wl_len]; exact h), he]
    · rw [List.getElem?_set_ne (Ne.symm hio), wl_get hi, (ho i hio).1, (ho i hio).2]
  · rw [List.getElem?_eq_none (by rw [List.length_set, wl_len]; omega), List.getElem?_eq_none (by rw [wl_len]; omega)]
theorem wl_D {en : qE} {K b : Nat} {M : qM} : va_D (qA K b) (wl en K b M) := by
  have key : ∀ (i : Nat) (q : Nat × va_E), (wl en K b M)[i]? = some q → i < K ∧ q.1 = b + i := by
    intro i q h
    have hl : i < K := by
      have := (List.getElem?_eq_some_iff.mp h).1
      rwa [wl_len] at this
    rw [wl_get hl] at h
    cases h
    exact ⟨hl, rfl⟩
  refine ⟨fun i j p q hp hq e => ?_, fun i q h => ?_⟩
  · have h1 := (key i p hp).2
    have h2 := (key j q hq).2
    omega
  · obtain ⟨h1, h2⟩ := key i q h
    exact ⟨by omega, by omega⟩
theorem qsI_o {M : qM} {o k : Nat} {x : Int32} : ∀ q, q ≠ o → (qsI M o k x).1 q = M.1 q ∧ (qsI M o k x).2 q = M.2 q := fun q h => ⟨by funext j; simp [qsI, h], rfl⟩
theorem qsR_o {M : qM} {o k : Nat} {x : Option Nat} : ∀ q, q ≠ o → (qsR M o k x).1 q = M.1 q ∧ (qsR M o k x).2 q = M.2 q := fun q h => ⟨rfl, by funext j; simp [qsR, h]⟩
theorem qsI_s {M : qM} {o k : Nat} {x : Int32} : (qsI M o k x).1 o = upd (M.1 o) k x := by funext j; simp [qsI, upd]
theorem qsR_s {M : qM} {o k : Nat} {x : Option Nat} : (qsR M o k x).2 o = va_up (M.2 o) k x := by funext j; simp [qsR, va_up]
theorem qsI_w {M : qM} {o k : Nat} {x : Int32} (h : qW M) : qW (qsI M o k x) := h
theorem qsR_w {M : qM} {o k : Nat} {r : Option Nat} (h : qW M) (hr : ∀ o', r = some o' → tcX o' = ftX (tcX o) k) : qW (qsR M o k r) := by
  intro p j o' e
  by_cases hc : p = o ∧ j = k
  · obtain ⟨rfl, rfl⟩ := hc
    exact hr o' (by simpa [qsR] using e)
  · exact h p j o' (by simpa [qsR, hc] using e)
theorem q_inj {b : Nat} {r1 r2 : Option Nat} : (r1.map (fun o => b + o) = r2.map fun o => b + o) ↔ r1 = r2 := by
  constructor
  · intro h
    cases r1 <;> cases r2 <;> simp at h ⊢
    exact h
  · intro h; rw [h]
theorem q_upm {b k : Nat} {g : Nat → Option Nat} {v : Option Nat} : va_up (fun j => (g j).map fun q => b + q) k (v.map fun q => b + q) = fun j => (va_up g k v j).map fun q => b + q := by
  funext j
  by_cases hj : j = k <;> simp [va_up, hj]
section QJS
variable {p : Program} {l : Launch} {e : Env} {R : Room} {s : State} {m : MethodId} {args : Array Value} {below : List Frame} {meth : Method} {c : Code} {A : Nat → Prop} {b nL cs sl : Nat} {Q : State → Prop} {Wd : qM → Heap → Prop} {D : va_G} {en : qE} {K : Nat} {M : qM} {pc : Nat} {L L' : List (Nat × qV)} {st : List qV} {cc : ByteArray}
def QJ (p : Program) (l : Launch) (e : Env) (R : Room) (s : State) (m : MethodId) (args : Array Value) (below : List Frame) (meth : Method) (c : Code) (A : Nat → Prop) (b nL cs sl : Nat) (Q : State → Prop) (Wd : qM → Heap → Prop) (M : qM) (pc : Nat) (L : List (Nat × qV)) (st : List qV) : Prop :=
  ∀ (H : Heap) (locs : List Loc) (ls : Array Slot), Wd M H → va_S A s.heap H locs → lv_has ls nL (qL b L) → W p l e R s m args below meth c H locs cs sl Q (F0 m pc ls (st.map (qv b)))
def qWd (D : va_G) (en : qE) (K b : Nat) (M : qM) (H : Heap) : Prop := qW M ∧ va_P D vwCl (wl en K b M) H
theorem qj_w (k : qW M → QJ p l e R s m args below meth c (qA K b) b nL 0 0 Q (qWd D en K b) M pc L st) : QJ p l e R s m args below meth c (qA K b) b nL 0 0 Q (qWd D en K b) M pc L st := fun H locs ls P S hl => k P.1 H locs ls P S hl
theorem qj_sub (ks : List Nat) (hl : ks.filterMap (fun k => L[k]?) = L') (k : QJ p l e R s m args below meth c A b nL cs sl Q Wd M pc L' st) : QJ p l e R s m args below meth c A b nL cs sl Q Wd M pc L st := fun H locs ls P S h => k H locs ls P S (qL_sub h ks hl)
theorem qj_iconst (hx : p.tables.exec = Jvm.exec) (hb : c.code = cc) {n : Int} {v : Int32} (d : decode cc pc = .ok (.iconst n, 1)) (hv : Int32.ofInt n = v) (k : QJ p l e R s m args below meth c A b nL cs sl Q Wd M (pc + 1) L (qi v :: st)) : QJ p l e R s m args below meth c A b nL cs sl Q Wd M pc L st := fun H locs ls P S hl => lv_iconst hx hb d hv (k H locs ls P S hl)
theorem qj_bipush (hx : p.tables.exec = Jvm.exec) (hb : c.code = cc) {n : Int} {v : Int32} (d : decode cc pc = .ok (.bipush n, 2)) (hv : (Int8.ofInt n).toInt32 = v) (k : QJ p l e R s m args below meth c A b nL cs sl Q Wd M (pc + 2) L (qi v :: st)) : QJ p l e R s m args below meth c A b nL cs sl Q Wd M pc L st := fun H locs ls P S hl => lv_bipush hx hb d hv (k H locs ls P S hl)
theorem qj_sipush (hx : p.tables.exec = Jvm.exec) (hb : c.code = cc) {n : Int} {v : Int32} (d : decode cc pc = .ok (.sipush n, 3)) (hv : (Int16.ofInt n).toInt32 = v) (k : QJ p l e R s m args below meth c A b nL cs sl Q Wd M (pc + 3) L (qi v :: st)) : QJ p l e R s m args below meth c A b nL cs sl Q Wd M pc L st := fun H locs ls P S hl => lv_sipush hx hb d hv (k H locs ls P S hl)
theorem qj_ldc (hx : p.tables.exec = Jvm.exec) (hb : c.code = cc) {own : String} {index : Nat} {v : Int32} (hown : s.vm.findClass own = some m.cls) (hconst : (Jvm.Cond.constant own index v).before args s = true) (d : decode cc pc = .ok (.ldc index, 2)) (k : QJ p l e R s m args below meth c A b nL cs sl Q Wd M (pc + 2) L (qi v :: st)) : QJ p l e R s m args below meth c A b nL cs sl Q Wd M pc L st := fun H locs ls P S hl => lv_ldc hx hb hown hconst d (k H locs ls P S hl)
theorem qj_ldcw (hx : p.tables.exec = Jvm.exec) (hb : c.code = cc) {own : String} {index : Nat} {v : Int32} (hown : s.vm.findClass own = some m.cls) (hconst : (Jvm.Cond.constant own index v).before args s = true) (d : decode cc pc = .ok (.ldc_w index, 3)) (k : QJ p l e R s m args below meth c A b nL cs sl Q Wd M (pc + 3) L (qi v :: st)) : QJ p l e R s m args below meth c A b nL cs sl Q Wd M pc L st := fun H locs ls P S hl => lv_ldcw hx hb hown hconst d (k H locs ls P S hl)
theorem qj_ldcS (hx : p.tables.exec = Jvm.exec) (hb : c.code = cc) {own tx : String} {index q : Nat} (hown : s.vm.findClass own = some m.cls) (hZ : vk_R own index tx q s) (d : decode cc pc = .ok (.ldc index, 2)) (k : QJ p l e R s m args below meth c A b nL cs sl Q Wd M (pc + 2) L (qa q :: st)) : QJ p l e R s m args below meth c A b nL cs sl Q Wd M pc L st := fun H locs ls P S hl => va_ldcS hx hb hown hZ d (k H locs ls P S hl)
theorem qj_iload_n (hx : p.tables.exec = Jvm.exec) (hb : c.code = cc) {k0 : Fin 4} {i : Nat} {x : Int32} (d : decode cc pc = .ok (.iload_n k0, 1)) (hi : (k0 : Nat) = i) (j : Nat) (hj : L[j]? = some (i, qi x)) (k : QJ p l e R s m args below meth c A b nL cs sl Q Wd M (pc + 1) L (qi x :: st)) : QJ p l e R s m args below meth c A b nL cs sl Q Wd M pc L st := fun H locs ls P S hl => lv_iload_n hx hb d hi (lv_at hl j (qL_at hj)) (k H locs ls P S hl)
theorem qj_iload (hx : p.tables.exec = Jvm.exec) (hb : c.code = cc) {i : Nat} {x : Int32} (d : decode cc pc = .ok (.iload i, 2)) (j : Nat) (hj : L[j]? = some (i, qi x)) (k : QJ p l e R s m args below meth c A b nL cs sl Q Wd M (pc + 2) L (qi x :: st)) : QJ p l e R s m args below meth c A b nL cs sl Q Wd M pc L st := fun H locs ls P S hl => lv_iload hx hb d (lv_at hl j (qL_at hj)) (k H locs ls P S hl)
theorem qj_aload_n (hx : p.tables.exec = Jvm.exec) (hb : c.code = cc) {k0 : Fin 4} {i : Nat} {r : Option Nat} (d : decode cc pc = .ok (.aload_n k0, 1)) (hi : (k0 : Nat) = i) (j : Nat) (hj : L[j]? = some (i, qr r)) (k : QJ p l e R s m args below meth c A b nL cs sl Q Wd M (pc + 1) L (qr r :: st)) : QJ p l e R s m args below meth c A b nL cs sl Q Wd M pc L st := fun H locs ls P S hl => by
  cases r with
  | none => exact lv_aload_nN hx hb d hi (lv_at hl j (qL_at hj)) (k H locs ls P S hl)
  | some o => exact lv_aload_n hx hb d hi (lv_at hl j (qL_at hj)) (k H locs ls P S hl)
theorem qj_aload (hx : p.tables.exec = Jvm.exec) (hb : c.code = cc) {i : Nat} {r : Option Nat} (d : decode cc pc = .ok (.aload i, 2)) (j : Nat) (hj : L[j]? = some (i, qr r)) (k : QJ p l e R s m args below meth c A b nL cs sl Q Wd M (pc + 2) L (qr r :: st)) : QJ p l e R s m args below meth c A b nL cs sl Q Wd M pc L st := fun H locs ls P S hl => by
  cases r with
  | none => exact lv_aloadN hx hb d (lv_at hl j (qL_at hj)) (k H locs ls P S hl)
  | some o => exact lv_aload hx hb d (lv_at hl j (qL_at hj)) (k H locs ls P S hl)
theorem qj_aloadA_n (hx : p.tables.exec = Jvm.exec) (hb : c.code = cc) {k0 : Fin 4} {i a : Nat} (d : decode cc pc = .ok (.aload_n k0, 1)) (hi : (k0 : Nat) = i) (j : Nat) (hj : L[j]? = some (i, qa a)) (k : QJ p l e R s m args below meth c A b nL cs sl Q Wd M (pc + 1) L (qa a :: st)) : QJ p l e R s m args below meth c A b nL cs sl Q Wd M pc L st := fun H locs ls P S hl => lv_aload_n hx hb d hi (lv_at hl j (qL_at hj)) (k H locs ls P S hl)
theorem qj_aloadA (hx : p.tables.exec = Jvm.exec) (hb : c.code = cc) {i a : Nat} (d : decode cc pc = .ok (.aload i, 2)) (j : Nat) (hj : L[j]? = some (i, qa a)) (k : QJ p l e R s m args below meth c A b nL cs sl Q Wd M (pc + 2) L (qa a :: st)) : QJ p l e R s m args below meth c A b nL cs sl Q Wd M pc L st := fun H locs ls P S hl => lv_aload hx hb d (lv_at hl j (qL_at hj)) (k H locs ls P S hl)
theorem qj_istore_n (hx : p.tables.exec = Jvm.exec) (hb : c.code = cc) {k0 : Fin 4} {i : Nat} {x : Int32} (d : decode cc pc = .ok (.istore_n k0, 1)) (hi : (k0 : Nat) = i) (hn : i < nL) (hL : (i, qi x) :: L.filter (fun q => !(q.1 == i)) = L') (k : QJ p l e R s m args below meth c A b nL cs sl Q Wd M (pc + 1) L' st) : QJ p l e R s m args below meth c A b nL cs sl Q Wd M pc L (qi x :: st) := fun H locs ls P S hl => lv_istore_n hx hb d hi hl hn (lv' := qL b L') (by rw [qL_filt, ← hL]; rfl) (fun ls' h' => k H locs ls' P S h')
theorem qj_istore (hx : p.tables.exec = Jvm.exec) (hb : c.code = cc) {i : Nat} {x : Int32} (d : decode cc pc = .ok (.istore i, 2)) (hn : i < nL) (hL : (i, qi x) :: L.filter (fun q => !(q.1 == i)) = L') (k : QJ p l e R s m args below meth c A b nL cs sl Q Wd M (pc + 2) L' st) : QJ p l e R s m args below meth c A b nL cs sl Q Wd M pc L (qi x :: st) := fun H locs ls P S hl => lv_istore hx hb d hl hn (lv' := qL b L') (by rw [qL_filt, ← hL]; rfl) (fun ls' h' => k H locs ls' P S h')
theorem qj_astore_n (hx : p.tables.exec = Jvm.exec) (hb : c.code = cc) {k0 : Fin 4} {i : Nat} {r : Option Nat} (d : decode cc pc = .ok (.astore_n k0, 1)) (hi : (k0 : Nat) = i) (hn : i < nL) (hL : (i, qr r) :: L.filter (fun q => !(q.1 == i)) = L') (k : QJ p l e R s m args below meth c A b nL cs sl Q Wd M (pc + 1) L' st) : QJ p l e R s m args below meth c A b nL cs sl Q Wd M pc L (qr r :: st) := fun H locs ls P S hl => by
  cases r with
  | none => exact lv_astore_nN hx hb d hi hl hn (lv' := qL b L') (by rw [qL_filt, ← hL]; rfl) (fun ls' h' => k H locs ls' P S h')
  | some o => exact lv_astore_n hx hb d hi hl hn (lv' := qL b L') (by rw [qL_filt, ← hL]; rfl) (fun ls' h' => k H locs ls' P S h')
theorem qj_astore (hx : p.tables.exec = Jvm.exec) (hb : c.code = cc) {i : Nat} {r : Option Nat} (d : decode cc pc = .ok (.astore i, 2)) (hn : i < nL) (hL : (i, qr r) :: L.filter (fun q => !(q.1 == i)) = L') (k : QJ p l e R s m args below meth c A b nL cs sl Q Wd M (pc + 2) L' st) : QJ p l e R s m args below meth c A b nL cs sl Q Wd M pc L (qr r :: st) := fun H locs ls P S hl => by
  cases r with
  | none => exact lv_astoreN hx hb d hl hn (lv' := qL b L') (by rw [qL_filt, ← hL]; rfl) (fun ls' h' => k H locs ls' P S h')
  | some o => exact lv_astore hx hb d hl hn (lv' := qL b L') (by rw [qL_filt, ← hL]; rfl) (fun ls' h' => k H locs ls' P S h')
theorem qj_iinc (hx : p.tables.exec = Jvm.exec) (hb : c.code = cc) {i j : Nat} {n : Int} {x v : Int32} (d : decode cc pc = .ok (.iinc i n, 3)) (hj : L[j]? = some (i, qi x)) (hv : x + Int32.ofInt n = v) (hn : i < nL) (hL : (i, qi v) :: L.filter (fun q => !(q.1 == i)) = L') (k : QJ p l e R s m args below meth c A b nL cs sl Q Wd M (pc + 3) L' st) : QJ p l e R s m args below meth c A b nL cs sl Q Wd M pc L st := fun H locs ls P S hl => lv_iinc hx hb d hl (qL_at hj) hv hn (lv' := qL b L') (by rw [qL_filt, ← hL]; rfl) (fun ls' h' => k H locs ls' P S h')
theorem qj_iadd (hx : p.tables.exec = Jvm.exec) (hb : c.code = cc) {x y : Int32} (d : decode cc pc = .ok (.iadd, 1)) (k : QJ p l e R s m args below meth c A b nL cs sl Q Wd M (pc + 1) L (qi (x + y) :: st)) : QJ p l e R s m args below meth c A b nL cs sl Q Wd M pc L (qi y :: qi x :: st) := fun H locs ls P S hl => lv_iadd hx hb d (k H locs ls P S hl)
theorem qj_isub (hx : p.tables.exec = Jvm.exec) (hb : c.code = cc) {x y : Int32} (d : decode cc pc = .ok (.isub, 1)) (k : QJ p l e R s m args below meth c A b nL cs sl Q Wd M (pc + 1) L (qi (x - y) :: st)) : QJ p l e R s m args below meth c A b nL cs sl Q Wd M pc L (qi y :: qi x :: st) := fun H locs ls P S hl => lv_isub hx hb d (k H locs ls P S hl)
theorem qj_imul (hx : p.tables.exec = Jvm.exec) (hb : c.code = cc) {x y : Int32} (d : decode cc pc = .ok (.imul, 1)) (k : QJ p l e R s m args below meth c A b nL cs sl Q Wd M (pc + 1) L (qi (x * y) :: st)) : QJ p l e R s m args below meth c A b nL cs sl Q Wd M pc L (qi y :: qi x :: st) := fun H locs ls P S hl => lv_imul hx hb d (k H locs ls P S hl)
theorem qj_iand (hx : p.tables.exec = Jvm.exec) (hb : c.code = cc) {x y : Int32} (d : decode cc pc = .ok (.iand, 1)) (k : QJ p l e R s m args below meth c A b nL cs sl Q Wd M (pc + 1) L (qi (x &&& y) :: st)) : QJ p l e R s m args below meth c A b nL cs sl Q Wd M pc L (qi y :: qi x :: st) := fun H locs ls P S hl => lv_iand hx hb d (k H locs ls P S hl)
theorem qj_ior (hx : p.tables.exec = Jvm.exec) (hb : c.code = cc) {x y : Int32} (d : decode cc pc = .ok (.ior, 1)) (k : QJ p l e R s m args below meth c A b nL cs sl Q Wd M (pc + 1) L (qi (x ||| y) :: st)) : QJ p l e R s m args below meth c A b nL cs sl Q Wd M pc L (qi y :: qi x :: st) := fun H locs ls P S hl => lv_ior hx hb d (k H locs ls P S hl)
theorem qj_ixor (hx : p.tables.exec = Jvm.exec) (hb : c.code = cc) {x y : Int32} (d : decode cc pc = .ok (.ixor, 1)) (k : QJ p l e R s m args below meth c A b nL cs sl Q Wd M (pc + 1) L (qi (x ^^^ y) :: st)) : QJ p l e R s m args below meth c A b nL cs sl Q Wd M pc L (qi y :: qi x :: st) := fun H locs ls P S hl => lv_ixor hx hb d (k H locs ls P S hl)
theorem qj_ishl (hx : p.tables.exec = Jvm.exec) (hb : c.code = cc) {x y : Int32} (d : decode cc pc = .ok (.ishl, 1)) (k : QJ p l e R s m args below meth c A b nL cs sl Q Wd M (pc + 1) L (qi (x <<< (y &&& 31)) :: st)) : QJ p l e R s m args below meth c A b nL cs sl Q Wd M pc L (qi y :: qi x :: st) := fun H locs ls P S hl => lv_ishl hx hb d (k H locs ls P S hl)
theorem qj_ishr (hx : p.tables.exec = Jvm.exec) (hb : c.code = cc) {x y : Int32} (d : decode cc pc = .ok (.ishr, 1)) (k : QJ p l e R s m args below meth c A b nL cs sl Q Wd M (pc + 1) L (qi (x >>> (y &&& 31)) :: st)) : QJ p l e R s m args below meth c A b nL cs sl Q Wd M pc L (qi y :: qi x :: st) := fun H locs ls P S hl => lv_ishr hx hb d (k H locs ls P S hl)
theorem qj_idiv (hx : p.tables.exec = Jvm.exec) (hb : c.code = cc) {x y : Int32} (d : decode cc pc = .ok (.idiv, 1)) (hne : ¬ y = 0) (k : QJ p l e R s m args below meth c A b nL cs sl Q Wd M (pc + 1) L (qi (x / y) :: st)) : QJ p l e R s m args below meth c A b nL cs sl Q Wd M pc L (qi y :: qi x :: st) := fun H locs ls P S hl => lv_idiv hx hb d hne (k H locs ls P S hl)
theorem qj_i2c (hx : p.tables.exec = Jvm.exec) (hb : c.code = cc) {x : Int32} (d : decode cc pc = .ok (.i2c, 1)) (k : QJ p l e R s m args below meth c A b nL cs sl Q Wd M (pc + 1) L (qi (x.toUInt32 % 65536).toInt32 :: st)) : QJ p l e R s m args below meth c A b nL cs sl Q Wd M pc L (qi x :: st) := fun H locs ls P S hl => lv_i2c hx hb d rfl (k H locs ls P S hl)
theorem qj_i2b (hx : p.tables.exec = Jvm.exec) (hb : c.code = cc) {x : Int32} (d : decode cc pc = .ok (.i2b, 1)) (k : QJ p l e R s m args below meth c A b nL cs sl Q Wd M (pc + 1) L (qi x.toInt8.toInt32 :: st)) : QJ p l e R s m args below meth c A b nL cs sl Q Wd M pc L (qi x :: st) := fun H locs ls P S hl => lv_i2b hx hb d rfl (k H locs ls P S hl)
theorem qj_dup (hx : p.tables.exec = Jvm.exec) (hb : c.code = cc) {v : qV} (d : decode cc pc = .ok (.dup, 1)) (k : QJ p l e R s m args below meth c A b nL cs sl Q Wd M (pc + 1) L (v :: v :: st)) : QJ p l e R s m args below meth c A b nL cs sl Q Wd M pc L (v :: st) := fun H locs ls P S hl => lv_dup hx hb d (qv_cat b v) (k H locs ls P S hl)
theorem qj_pop (hx : p.tables.exec = Jvm.exec) (hb : c.code = cc) {v : qV} (d : decode cc pc = .ok (.pop, 1)) (k : QJ p l e R s m args below meth c A b nL cs sl Q Wd M (pc + 1) L st) : QJ p l e R s m args below meth c A b nL cs sl Q Wd M pc L (v :: st) := fun H locs ls P S hl => lv_pop hx hb d (qv_cat b v) (k H locs ls P S hl)
theorem qj_dup_x1 (hx : p.tables.exec = Jvm.exec) (hb : c.code = cc) {v u : qV} (d : decode cc pc = .ok (.dup_x1, 1)) (k : QJ p l e R s m args below meth c A b nL cs sl Q Wd M (pc + 1) L (v :: u :: v :: st)) : QJ p l e R s m args below meth c A b nL cs sl Q Wd M pc L (v :: u :: st) := fun H locs ls P S hl => lv_dup_x1 hx hb d (qv_cat b v) (qv_cat b u) (k H locs ls P S hl)
theorem qj_dup_x2 (hx : p.tables.exec = Jvm.exec) (hb : c.code = cc) {v u t : qV} (d : decode cc pc = .ok (.dup_x2, 1)) (k : QJ p l e R s m args below meth c A b nL cs sl Q Wd M (pc + 1) L (v :: u :: t :: v :: st)) : QJ p l e R s m args below meth c A b nL cs sl Q Wd M pc L (v :: u :: t :: st) := fun H locs ls P S hl => lv_dup_x2 hx hb d (qv_cat b v) (qv_cat b u) (qv_cat b t) (k H locs ls P S hl)
theorem qj_dup2 (hx : p.tables.exec = Jvm.exec) (hb : c.code = cc) {v u : qV} (d : decode cc pc = .ok (.dup2, 1)) (k : QJ p l e R s m args below meth c A b nL cs sl Q Wd M (pc + 1) L (v :: u :: v :: u :: st)) : QJ p l e R s m args below meth c A b nL cs sl Q Wd M pc L (v :: u :: st) := fun H locs ls P S hl => lv_dup2_11 hx hb d (qv_cat b v) (qv_cat b u) (k H locs ls P S hl)
theorem qj_null (hx : p.tables.exec = Jvm.exec) (hb : c.code = cc) (d : decode cc pc = .ok (.aconst_null, 1)) (k : QJ p l e R s m args below meth c A b nL cs sl Q Wd M (pc + 1) L (qr none :: st)) : QJ p l e R s m args below meth c A b nL cs sl Q Wd M pc L st := fun H locs ls P S hl => lv_null hx hb d (k H locs ls P S hl)
theorem qj_goto (hx : p.tables.exec = Jvm.exec) (hb : c.code = cc) {off : Int} {tgt : Nat} (d : decode cc pc = .ok (.goto off, 3)) (ht : (pc : Int) + off = (tgt : Int)) (k : QJ p l e R s m args below meth c A b nL cs sl Q Wd M tgt L st) : QJ p l e R s m args below meth c A b nL cs sl Q Wd M pc L st := fun H locs ls P S hl => lv_goto hx hb d ht (k H locs ls P S hl)
theorem qj_if_eq (hx : p.tables.exec = Jvm.exec) (hb : c.code = cc) {x : Int32} {off : Int} {tgt : Nat} (d : decode cc pc = .ok (.ifCond .eq off, 3)) (ht : (pc : Int) + off = (tgt : Int)) (kt : x = 0 → QJ p l e R s m args below meth c A b nL cs sl Q Wd M tgt L st) (kf : ¬ x = 0 → QJ p l e R s m args below meth c A b nL cs sl Q Wd M (pc + 3) L st) : QJ p l e R s m args below meth c A b nL cs sl Q Wd M pc L (qi x :: st) := fun H locs ls P S hl => lv_if_eq hx hb d ht (fun h => kt h H locs ls P S hl) (fun h => kf h H locs ls P S hl)
theorem qj_if_ne (hx : p.tables.exec = Jvm.exec) (hb : c.code = cc) {x : Int32} {off : Int} {tgt : Nat} (d : decode cc pc = .ok (.ifCond .ne off, 3)) (ht : (pc : Int) + off = (tgt : Int)) (kt : ¬ x = 0 → QJ p l e R s m args below meth c A b nL cs sl Q Wd M tgt L st) (kf : x = 0 → QJ p l e R s m args below meth c A b nL cs sl Q Wd M (pc + 3) L st) : QJ p l e R s m args below meth c A b nL cs sl Q Wd M pc L (qi x :: st) := fun H locs ls P S hl => lv_if_ne hx hb d ht (fun h => kt h H locs ls P S hl) (fun h => kf h H locs ls P S hl)
theorem qj_if_lt (hx : p.tables.exec = Jvm.exec) (hb : c.code = cc) {x : Int32} {off : Int} {tgt : Nat} (d : decode cc pc = .ok (.ifCond .lt off, 3)) (ht : (pc : Int) + off = (tgt : Int)) (kt : x < 0 → QJ p l e R s m args below meth c A b nL cs sl Q Wd M tgt L st) (kf : ¬ x < 0 → QJ p l e R s m args below meth c A b nL cs sl Q Wd M (pc + 3) L st) : QJ p l e R s m args below meth c A b nL cs sl Q Wd M pc L (qi x :: st) := fun H locs ls P S hl => lv_if_lt hx hb d ht (fun h => kt h H locs ls P S hl) (fun h => kf h H locs ls P S hl)
theorem qj_if_ge (hx : p.tables.exec = Jvm.exec) (hb : c.code = cc) {x : Int32} {off : Int} {tgt : Nat} (d : decode cc pc = .ok (.ifCond .ge off, 3)) (ht : (pc : Int) + off = (tgt : Int)) (kt : 0 ≤ x → QJ p l e R s m args below meth c A b nL cs sl Q Wd M tgt L st) (kf : ¬ 0 ≤ x → QJ p l e R s m args below meth c A b nL cs sl Q Wd M (pc + 3) L st) : QJ p l e R s m args below meth c A b nL cs sl Q Wd M pc L (qi x :: st) := fun H locs ls P S hl => lv_if_ge hx hb d ht (fun h => kt h H locs ls P S hl) (fun h => kf h H locs ls P S hl)
theorem qj_if_gt (hx : p.tables.exec = Jvm.exec) (hb : c.code = cc) {x : Int32} {off : Int} {tgt : Nat} (d : decode cc pc = .ok (.ifCond .gt off, 3)) (ht : (pc : Int) + off = (tgt : Int)) (kt : 0 < x → QJ p l e R s m args below meth c A b nL cs sl Q Wd M tgt L st) (kf : ¬ 0 < x → QJ p l e R s m args below meth c A b nL cs sl Q Wd M (pc + 3) L st) : QJ p l e R s m args below meth c A b nL cs sl Q Wd M pc L (qi x :: st) := fun H locs ls P S hl => lv_if_gt hx hb d ht (fun h => kt h H locs ls P S hl) (fun h => kf h H locs ls P S hl)
theorem qj_if_le (hx : p.tables.exec = Jvm.exec) (hb : c.code = cc) {x : Int32} {off : Int} {tgt : Nat} (d : decode cc pc = .ok (.ifCond .le off, 3)) (ht : (pc : Int) + off = (tgt : Int)) (kt : x ≤ 0 → QJ p l e R s m args below meth c A b nL cs sl Q Wd M tgt L st) (kf : ¬ x ≤ 0 → QJ p l e R s m args below meth c A b nL cs sl Q Wd M (pc + 3) L st) : QJ p l e R s m args below meth c A b nL cs sl Q Wd M pc L (qi x :: st) := fun H locs ls P S hl => lv_if_le hx hb d ht (fun h => kt h H locs ls P S hl) (fun h => kf h H locs ls P S hl)
theorem qj_icmp_eq (hx : p.tables.exec = Jvm.exec) (hb : c.code = cc) {x y : Int32} {off : Int} {tgt : Nat} (d : decode cc pc = .ok (.if_icmp .eq off, 3)) (ht : (pc : Int) + off = (tgt : Int)) (kt : x = y → QJ p l e R s m args below meth c A b nL cs sl Q Wd M tgt L st) (kf : ¬ x = y → QJ p l e R s m args below meth c A b nL cs sl Q Wd M (pc + 3) L st) : QJ p l e R s m args below meth c A b nL cs sl Q Wd M pc L (qi y :: qi x :: st) := fun H locs ls P S hl => lv_icmp_eq hx hb d ht (fun h => kt h H locs ls P S hl) (fun h => kf h H locs ls P S hl)
theorem qj_icmp_ne (hx : p.tables.exec = Jvm.exec) (hb : c.code = cc) {x y : Int32} {off : Int} {tgt : Nat} (d : decode cc pc = .ok (.if_icmp .ne off, 3)) (ht : (pc : Int) + off = (tgt : Int)) (kt : ¬ x = y → QJ p l e R s m args below meth c A b nL cs sl Q Wd M tgt L st) (kf : x = y → QJ p l e R s m args below meth c A b nL cs sl Q Wd M (pc + 3) L st) : QJ p l e R s m args below meth c A b nL cs sl Q Wd M pc L (qi y :: qi x :: st) := fun H locs ls P S hl => lv_icmp_ne hx hb d ht (fun h => kt h H locs ls P S hl) (fun h => kf h H locs ls P S hl)
theorem qj_icmp_lt (hx : p.tables.exec = Jvm.exec) (hb : c.code = cc) {x y : Int32} {off : Int} {tgt : Nat} (d : decode cc pc = .ok (.if_icmp .lt off, 3)) (ht : (pc : Int) + off = (tgt : Int)) (kt : x < y → QJ p l e R s m args below meth c A b nL cs sl Q Wd M tgt L st) (kf : ¬ x < y → QJ p l e R s m args below meth c A b nL cs sl Q Wd M (pc + 3) L st) : QJ p l e R s m args below meth c A b nL cs sl Q Wd M pc L (qi y :: qi x :: st) := fun H locs ls P S hl => lv_icmp_lt hx hb d ht (fun h => kt h H locs ls P S hl) (fun h => kf h H locs ls P S hl)
theorem qj_icmp_ge (hx : p.tables.exec = Jvm.exec) (hb : c.code = cc) {x y : Int32} {off : Int} {tgt : Nat} (d : decode cc pc = .ok (.if_icmp .ge off, 3)) (ht : (pc : Int) + off = (tgt : Int)) (kt : y ≤ x → QJ p l e R s m args below meth c A b nL cs sl Q Wd M tgt L st) (kf : ¬ y ≤ x → QJ p l e R s m args below meth c A b nL cs sl Q Wd M (pc + 3) L st) : QJ p l e R s m args below meth c A b nL cs sl Q Wd M pc L (qi y :: qi x :: st) := fun H locs ls P S hl => lv_icmp_ge hx hb d ht (fun h => kt h H locs ls P S hl) (fun h => kf h H locs ls P S hl)
theorem qj_icmp_gt (hx : p.tables.exec = Jvm.exec) (hb : c.code = cc) {x y : Int32} {off : Int} {tgt : Nat} (d : decode cc pc = .ok (.if_icmp .gt off, 3)) (ht : (pc : Int) + off = (tgt : Int)) (kt : y < x → QJ p l e R s m args below meth c A b nL cs sl Q Wd M tgt L st) (kf : ¬ y < x → QJ p l e R s m args below meth c A b nL cs sl Q Wd M (pc + 3) L st) : QJ p l e R s m args below meth c A b nL cs sl Q Wd M pc L (qi y :: qi x :: st) := fun H locs ls P S hl => lv_icmp_gt hx hb d ht (fun h => kt h H locs ls P S hl) (fun h => kf h H locs ls P S hl)
theorem qj_icmp_le (hx : p.tables.exec = Jvm.exec) (hb : c.code = cc) {x y : Int32} {off : Int} {tgt : Nat} (d : decode cc pc = .ok (.if_icmp .le off, 3)) (ht : (pc : Int) + off = (tgt : Int)) (kt : x ≤ y → QJ p l e R s m args below meth c A b nL cs sl Q Wd M tgt L st) (kf : ¬ x ≤ y → QJ p l e R s m args below meth c A b nL cs sl Q Wd M (pc + 3) L st) : QJ p l e R s m args below meth c A b nL cs sl Q Wd M pc L (qi y :: qi x :: st) := fun H locs ls P S hl => lv_icmp_le hx hb d ht (fun h => kt h H locs ls P S hl) (fun h => kf h H locs ls P S hl)
theorem qj_ifnull (hx : p.tables.exec = Jvm.exec) (hb : c.code = cc) {r : Option Nat} {off : Int} {tgt : Nat} (d : decode cc pc = .ok (.ifnull off, 3)) (ht : (pc : Int) + off = (tgt : Int)) (kt : r = none → QJ p l e R s m args below meth c A b nL cs sl Q Wd M tgt L st) (kf : ∀ o, r = some o → QJ p l e R s m args below meth c A b nL cs sl Q Wd M (pc + 3) L st) : QJ p l e R s m args below meth c A b nL cs sl Q Wd M pc L (qr r :: st) := fun H locs ls P S hl => by
  cases r with
  | none => exact lv_ifnullN hx hb d ht (kt rfl H locs ls P S hl)
  | some o => exact lv_ifnull hx hb d (kf o rfl H locs ls P S hl)
theorem qj_ifnonnull (hx : p.tables.exec = Jvm.exec) (hb : c.code = cc) {r : Option Nat} {off : Int} {tgt : Nat} (d : decode cc pc = .ok (.ifnonnull off, 3)) (ht : (pc : Int) + off = (tgt : Int)) (kt : ∀ o, r = some o → QJ p l e R s m args below meth c A b nL cs sl Q Wd M tgt L st) (kf : r = none → QJ p l e R s m args below meth c A b nL cs sl Q Wd M (pc + 3) L st) : QJ p l e R s m args below meth c A b nL cs sl Q Wd M pc L (qr r :: st) := fun H locs ls P S hl => by
  cases r with
  | none => exact lv_ifnonnullN hx hb d (kf rfl H locs ls P S hl)
  | some o => exact lv_ifnonnull hx hb d ht (kt o rfl H locs ls P S hl)
theorem qj_acmp_eq (hx : p.tables.exec = Jvm.exec) (hb : c.code = cc) {rx ry : Option Nat} {off : Int} {tgt : Nat} (d : decode cc pc = .ok (.if_acmp .eq off, 3)) (ht : (pc : Int) + off = (tgt : Int)) (kt : rx = ry → QJ p l e R s m args below meth c A b nL cs sl Q Wd M tgt L st) (kf : ¬ rx = ry → QJ p l e R s m args below meth c A b nL cs sl Q Wd M (pc + 3) L st) : QJ p l e R s m args below meth c A b nL cs sl Q Wd M pc L (qr ry :: qr rx :: st) := fun H locs ls P S hl => lv_acmp_eq (rx := rx.map fun o => b + o) (ry := ry.map fun o => b + o) hx hb d ht (fun h => kt (q_inj.mp h) H locs ls P S hl) (fun h => kf (fun z => h (q_inj.mpr z)) H locs ls P S hl)
theorem qj_acmp_ne (hx : p.tables.exec = Jvm.exec) (hb : c.code = cc) {rx ry : Option Nat} {off : Int} {tgt : Nat} (d : decode cc pc = .ok (.if_acmp .ne off, 3)) (ht : (pc : Int) + off = (tgt : Int)) (kt : ¬ rx = ry → QJ p l e R s m args below meth c A b nL cs sl Q Wd M tgt L st) (kf : rx = ry → QJ p l e R s m args below meth c A b nL cs sl Q Wd M (pc + 3) L st) : QJ p l e R s m args below meth c A b nL cs sl Q Wd M pc L (qr ry :: qr rx :: st) := fun H locs ls P S hl => lv_acmp_ne (rx := rx.map fun o => b + o) (ry := ry.map fun o => b + o) hx hb d ht (fun h => kt (fun z => h (q_inj.mpr z)) H locs ls P S hl) (fun h => kf (q_inj.mp h) H locs ls P S hl)
theorem qj_get (hx : p.tables.exec = Jvm.exec) (hb : c.code = cc) {own ref C : String} {T : u_T} {N ci index o : Nat} {Ts : List Cond} {tys : List (ClassId × FieldType)} (hts : ∀ w ∈ Ts, w.before args s = true) (hin : ∀ w ∈ u_ws C T N, w ∈ Ts) (hown : s.vm.findClass own = some m.cls) (hK : va_K D vwCl tys s) (ho : o < K) {fs : List Value} (he : en o (M.1 o) (M.2 o) = .inr (ci, fs)) (hc : vwCl[ci]? = some (C, T, N)) (k0 : Nat) (hk : k0 < N) (hlink : (Cond.fieldLink own index ref (T k0).2.1 (T k0).2.2.1).before args s = true) (hsame : ∀ x, s.fieldFound? (T k0).1 (T k0).2.1 (T k0).2.2.1 = some x → s.fieldFound? ref (T k0).2.1 (T k0).2.2.1 = some x) (v : qV) (hv : fs[k0]? = some (qv b v)) (d : decode cc pc = .ok (.getfield index, 3)) (k : QJ p l e R s m args below meth c (qA K b) b nL 0 0 Q (qWd D en K b) M (pc + 3) L (v :: st)) : QJ p l e R s m args below meth c (qA K b) b nL 0 0 Q (qWd D en K b) M pc L (qr (some o) :: st) := fun H locs ls P S hl =>
  va_get hx hb hts hin hown hK P.2 o (a := b + o) (fs := fs) (by rw [wl_get ho, he]) hc k0 hk hlink hsame hv d (k H locs ls P S hl)
theorem qj_put (hx : p.tables.exec = Jvm.exec) (hb : c.code = cc) {own ref C : String} {T : u_T} {N ci index o : Nat} {Ts : List Cond} {tys : List (ClassId × FieldType)} {M' : qM} (hts : ∀ w ∈ Ts, w.before args s = true) (hin : ∀ w ∈ u_ws C T N, w ∈ Ts) (ty0 : Nat → FieldType) (hty : ∀ k, k < N → parseFieldDescriptor (T k).2.2.1 = some (ty0 k)) (hnm : ∀ a, a < N → ∀ b, b < N → a ≠ b → (T a).2.1 ≠ (T b).2.1) (hown : s.vm.findClass own = some m.cls) (hK : va_K D vwCl tys s) (ho : o < K) {fs : List Value} (he : en o (M.1 o) (M.2 o) = .inr (ci, fs)) (hc : vwCl[ci]? = some (C, T, N)) (k0 : Nat) (hk : k0 < N) (hlink : (Cond.fieldLink own index ref (T k0).2.1 (T k0).2.2.1).before args s = true) (hsame : ∀ x, s.fieldFound? (T k0).1 (T k0).2.1 (T k0).2.2.1 = some x → s.fieldFound? ref (T k0).2.1 (T k0).2.2.1 = some x) (hfin : (T k0).2.2.2 = false) {ty : FieldType} {v : qV} (hd : parseFieldDescriptor (T k0).2.2.1 = some ty) (hn : narrow ty (qv b v) = qv b v) (hfit : fits ty (qv b v) = true) (hl0 : k0 < fs.length) (he' : (Sum.inr (ci, fs.set k0 (qv b v)) : va_E) = en o (M'.1 o) (M'.2 o)) (hM : ∀ q, q ≠ o → M'.1 q = M.1 q ∧ M'.2 q = M.2 q) (hW : qW M → qW M')
    (d : decode cc pc = .ok (.putfield index, 3)) (k : QJ p l e R s m args below meth c (qA K b) b nL 0 0 Q (qWd D en K b) M' (pc + 3) L st) : QJ p l e R s m args below meth c (qA K b) b nL 0 0 Q (qWd D en K b) M pc L (v :: qr (some o) :: st) := fun H locs ls P S hl => by
  refine va_put hx hb hts hin ty0 hty hnm hown hK P.2 wl_D S o (a := b + o) (fs := fs) (v := qv b v) (by rw [wl_get ho, he]) hc k0 hk hlink hsame hfin hd hn hfit hl0 d (fun H1 locs1 P1 _ S1 => ?_)
  rw [wl_set ho he' hM] at P1
  exact k H1 locs1 ls ⟨hW P.1, P1⟩ S1 hl
theorem qj_iald (hx : p.tables.exec = Jvm.exec) (hb : c.code = cc) {o t0 n : Nat} {i : Int32} {cA : ClassId} {tys : List (ClassId × FieldType)} (hK : va_K D vwCl tys s) (ho : o < K) (he : ∀ f g, en o f g = .inl (cA, n, .inl f)) (ht : tys[t0]? = some (cA, .int)) (hin : vp_in i n) (d : decode cc pc = .ok (.iaload, 1)) (k : QJ p l e R s m args below meth c (qA K b) b nL 0 0 Q (qWd D en K b) M (pc + 1) L (qi (M.1 o i.toNatClampNeg) :: st)) : QJ p l e R s m args below meth c (qA K b) b nL 0 0 Q (qWd D en K b) M pc L (qi i :: qr (some o) :: st) := fun H locs ls P S hl =>
  va_iald hx hb hK P.2 o t0 (a := b + o) (by rw [wl_get ho, he]) ht hin d (k H locs ls P S hl)
theorem qj_zald (hx : p.tables.exec = Jvm.exec) (hb : c.code = cc) {o t0 n : Nat} {i : Int32} {cA : ClassId} {tys : List (ClassId × FieldType)} (hK : va_K D vwCl tys s) (ho : o < K) (he : ∀ f g, en o f g = .inl (cA, n, .inl f)) (ht : tys[t0]? = some (cA, .boolean)) (hin : vp_in i n) (d : decode cc pc = .ok (.baload, 1)) (k : QJ p l e R s m args below meth c (qA K b) b nL 0 0 Q (qWd D en K b) M (pc + 1) L (qi (M.1 o i.toNatClampNeg) :: st)) : QJ p l e R s m args below meth c (qA K b) b nL 0 0 Q (qWd D en K b) M pc L (qi i :: qr (some o) :: st) := fun H locs ls P S hl =>
  va_zald hx hb hK P.2 o t0 (a := b + o) (by rw [wl_get ho, he]) ht hin d (k H locs ls P S hl)
theorem qj_cald (hx : p.tables.exec = Jvm.exec) (hb : c.code = cc) {o t0 n : Nat} {i : Int32} {cA : ClassId} {tys : List (ClassId × FieldType)} (hK : va_K D vwCl tys s) (ho : o < K) (he : ∀ f g, en o f g = .inl (cA, n, .inl f)) (ht : tys[t0]? = some (cA, .char)) (hin : vp_in i n) (d : decode cc pc = .ok (.caload, 1)) (k : QJ p l e R s m args below meth c (qA K b) b nL 0 0 Q (qWd D en K b) M (pc + 1) L (qi (M.1 o i.toNatClampNeg) :: st)) : QJ p l e R s m args below meth c (qA K b) b nL 0 0 Q (qWd D en K b) M pc L (qi i :: qr (some o) :: st) := fun H locs ls P S hl =>
  va_cald hx hb hK P.2 o t0 (a := b + o) (by rw [wl_get ho, he]) ht hin d (k H locs ls P S hl)
theorem qj_iast (hx : p.tables.exec = Jvm.exec) (hb : c.code = cc) {o t0 n : Nat} {i x : Int32} {cA : ClassId} {tys : List (ClassId × FieldType)} (hK : va_K D vwCl tys s) (ho : o < K) (he : ∀ f g, en o f g = .inl (cA, n, .inl f)) (ht : tys[t0]? = some (cA, .int)) (hin : vp_in i n) {M' : qM} (hM : M' = qsI M o i.toNatClampNeg x) (d : decode cc pc = .ok (.iastore, 1)) (k : QJ p l e R s m args below meth c (qA K b) b nL 0 0 Q (qWd D en K b) M' (pc + 1) L st) : QJ p l e R s m args below meth c (qA K b) b nL 0 0 Q (qWd D en K b) M pc L (qi x :: qi i :: qr (some o) :: st) := fun H locs ls P S hl => by
  subst hM
  refine va_iast hx hb hK P.2 wl_D S o t0 (a := b + o) (by rw [wl_get ho, he]) ht hin d (fun H1 locs1 P1 _ S1 => ?_)
  rw [wl_set (M' := qsI M o i.toNatClampNeg x) ho (by rw [he, qsI_s]) qsI_o] at P1
  exact k H1 locs1 ls ⟨qsI_w P.1, P1⟩ S1 hl
theorem qj_zast (hx : p.tables.exec = Jvm.exec) (hb : c.code = cc) {o t0 n : Nat} {i x : Int32} {cA : ClassId} {tys : List (ClassId × FieldType)} (hK : va_K D vwCl tys s) (ho : o < K) (he : ∀ f g, en o f g = .inl (cA, n, .inl f)) (ht : tys[t0]? = some (cA, .boolean)) (hin : vp_in i n) (hz : x = 0 ∨ x = 1) {M' : qM} (hM : M' = qsI M o i.toNatClampNeg x) (d : decode cc pc = .ok (.bastore, 1)) (k : QJ p l e R s m args below meth c (qA K b) b nL 0 0 Q (qWd D en K b) M' (pc + 1) L st) : QJ p l e R s m args below meth c (qA K b) b nL 0 0 Q (qWd D en K b) M pc L (qi x :: qi i :: qr (some o) :: st) := fun H locs ls P S hl => by
  subst hM
  refine va_zast hx hb hK P.2 wl_D S o t0 (a := b + o) (by rw [wl_get ho, he]) ht hin d (fun H1 locs1 P1 _ S1 => ?_)
  rw [q_zv hz] at P1
  rw [wl_set (M' := qsI M o i.toNatClampNeg x) ho (by rw [he, qsI_s]) qsI_o] at P1
  exact k H1 locs1 ls ⟨qsI_w P.1, P1⟩ S1 hl
theorem qj_cast (hx : p.tables.exec = Jvm.exec) (hb : c.code = cc) {o t0 n : Nat} {i x : Int32} {cA : ClassId} {tys : List (ClassId × FieldType)} (hK : va_K D vwCl tys s) (ho : o < K) (he : ∀ f g, en o f g = .inl (cA, n, .inl f)) (ht : tys[t0]? = some (cA, .char)) (hin : vp_in i n) {M' : qM} (hM : M' = qsI M o i.toNatClampNeg (vp_nar .char x)) (d : decode cc pc = .ok (.castore, 1)) (k : QJ p l e R s m args below meth c (qA K b) b nL 0 0 Q (qWd D en K b) M' (pc + 1) L st) : QJ p l e R s m args below meth c (qA K b) b nL 0 0 Q (qWd D en K b) M pc L (qi x :: qi i :: qr (some o) :: st) := fun H locs ls P S hl => by
  subst hM
  refine va_cast hx hb hK P.2 wl_D S o t0 (a := b + o) (by rw [wl_get ho, he]) ht hin d (fun H1 locs1 P1 _ S1 => ?_)
  rw [wl_set (M' := qsI M o i.toNatClampNeg (vp_nar .char x)) ho (by rw [he, qsI_s]) qsI_o] at P1
  exact k H1 locs1 ls ⟨qsI_w P.1, P1⟩ S1 hl
theorem q_nr {C : String} {r : Option Nat} : narrow (.object C) (va_rf r) = va_rf r := by cases r <;> rfl
theorem q_fr {C : String} {r : Option Nat} : fits (.object C) (va_rf r) = true := by cases r <;> rfl
theorem qj_puti (hx : p.tables.exec = Jvm.exec) (hb : c.code = cc) {own ref C : String} {T : u_T} {N ci index o : Nat} {Ts : List Cond} {tys : List (ClassId × FieldType)} {M' : qM} {ty : FieldType} {x : Int32} (hts : ∀ w ∈ Ts, w.before args s = true) (hin : ∀ w ∈ u_ws C T N, w ∈ Ts) (ty0 : Nat → FieldType) (hty : ∀ k, k < N → parseFieldDescriptor (T k).2.2.1 = some (ty0 k)) (hnm : ∀ a, a < N → ∀ b, b < N → a ≠ b → (T a).2.1 ≠ (T b).2.1) (hown : s.vm.findClass own = some m.cls) (hK : va_K D vwCl tys s) (ho : o < K) {fs : List Value} (he : en o (M.1 o) (M.2 o) = .inr (ci, fs)) (hc : vwCl[ci]? = some (C, T, N)) (k0 : Nat) (hk : k0 < N) (hlink : (Cond.fieldLink own index ref (T k0).2.1 (T k0).2.2.1).before args s = true) (hsame : ∀ x, s.fieldFound? (T k0).1 (T k0).2.1 (T k0).2.2.1 = some x → s.fieldFound? ref (T k0).2.1 (T k0).2.2.1 = some x) (hfin : (T k0).2.2.2 = false) (hd : parseFieldDescriptor (T k0).2.2.1 = some ty) (hn : narrow ty (.int x) = .int x) (hfit : fits ty (.int x) = true) (hl0 : k0 < fs.length) (he' : (Sum.inr (ci, fs.set k0 (.int x)) : va_E) = en o (upd (M.1 o) k0 x) (M.2 o)) (hM : M' = qsI M o k0 x) (d : decode cc pc = .ok (.putfield index, 3)) (k : QJ p l e R s m args below meth c (qA K b) b nL 0 0 Q (qWd D en K b) M' (pc + 3) L st) : QJ p l e R s m args below meth c (qA K b) b nL 0 0 Q (qWd D en K b) M pc L (qi x :: qr (some o) :: st) := by
  subst hM
  exact qj_put (v := qi x) hx hb hts hin ty0 hty hnm hown hK ho he hc k0 hk hlink hsame hfin hd hn hfit hl0 (by rw [qsI_s]; exact he') qsI_o qsI_w d k
theorem qj_putr (hx : p.tables.exec = Jvm.exec) (hb : c.code = cc) {own ref C Cr : String} {T : u_T} {N ci index o : Nat} {Ts : List Cond} {tys : List (ClassId × FieldType)} {M' : qM} {r : Option Nat} (hts : ∀ w ∈ Ts, w.before args s = true) (hin : ∀ w ∈ u_ws C T N, w ∈ Ts) (ty0 : Nat → FieldType) (hty : ∀ k, k < N → parseFieldDescriptor (T k).2.2.1 = some (ty0 k)) (hnm : ∀ a, a < N → ∀ b, b < N → a ≠ b → (T a).2.1 ≠ (T b).2.1) (hown : s.vm.findClass own = some m.cls) (hK : va_K D vwCl tys s) (ho : o < K) {fs : List Value} (he : en o (M.1 o) (M.2 o) = .inr (ci, fs)) (hc : vwCl[ci]? = some (C, T, N)) (k0 : Nat) (hk : k0 < N) (hlink : (Cond.fieldLink own index ref (T k0).2.1 (T k0).2.2.1).before args s = true) (hsame : ∀ x, s.fieldFound? (T k0).1 (T k0).2.1 (T k0).2.2.1 = some x → s.fieldFound? ref (T k0).2.1 (T k0).2.2.1 = some x) (hfin : (T k0).2.2.2 = false) (hd : parseFieldDescriptor (T k0).2.2.1 = some (.object Cr)) (hl0 : k0 < fs.length) (he' : (Sum.inr (ci, fs.set k0 (va_rf (r.map fun q => b + q))) : va_E) = en o (M.1 o) (va_up (M.2 o) k0 r)) (hw : ∀ o', r = some o' → tcX o' = ftX (tcX o) k0) (hM : M' = qsR M o k0 r) (d : decode cc pc = .ok (.putfield index, 3)) (k : QJ p l e R s m args below meth c (qA K b) b nL 0 0 Q (qWd D en K b) M' (pc + 3) L st) : QJ p l e R s m args below meth c (qA K b) b nL 0 0 Q (qWd D en K b) M pc L (qr r :: qr (some o) :: st) := by
  subst hM
  exact qj_put (v := qr r) hx hb hts hin ty0 hty hnm hown hK ho he hc k0 hk hlink hsame hfin hd q_nr q_fr hl0 (by rw [qsR_s]; exact he') qsR_o (fun w => qsR_w w hw) d k
theorem qj_aald (hx : p.tables.exec = Jvm.exec) (hb : c.code = cc) {o t0 n : Nat} {i : Int32} {cA : ClassId} {C : String} {tys : List (ClassId × FieldType)} {f : Nat → Option Nat} (hK : va_K D vwCl tys s) (ho : o < K) (he : en o (M.1 o) (M.2 o) = .inl (cA, n, .inr (.inr (.inr (.inr fun j => (f j).map fun q => b + q))))) (ht : tys[t0]? = some (cA, .object C)) (hin : vp_in i n) (d : decode cc pc = .ok (.aaload, 1)) (k : QJ p l e R s m args below meth c (qA K b) b nL 0 0 Q (qWd D en K b) M (pc + 1) L (qr (f i.toNatClampNeg) :: st)) : QJ p l e R s m args below meth c (qA K b) b nL 0 0 Q (qWd D en K b) M pc L (qi i :: qr (some o) :: st) := fun H locs ls P S hl =>
  va_aldq (f := fun j => (f j).map fun q => b + q) hx hb hK P.2 o t0 (a := b + o) (by rw [wl_get ho, he]) ht hin d (k H locs ls P S hl)
theorem qj_aast (hx : p.tables.exec = Jvm.exec) (hb : c.code = cc) {M' : qM} {o t0 n ci : Nat} {i : Int32} {cA : ClassId} {r : vw_C} {v : Option Nat} {tys : List (ClassId × FieldType)} (hK : va_K D vwCl tys s) (ho : o < K) (he : ∀ f g, en o f g = .inl (cA, n, .inr (.inr (.inr (.inr fun j => (g j).map fun q => b + q))))) (ht : tys[t0]? = some (cA, .object r.1)) (hc : vwCl[ci]? = some r) (hv : ∀ q, v = some q → q < K ∧ ∃ vs, en q (M.1 q) (M.2 q) = .inr (ci, vs)) (hin : vp_in i n) (hw : ∀ o', v = some o' → tcX o' = ftX (tcX o) i.toNatClampNeg) (hM : M' = qsR M o i.toNatClampNeg v) (d : decode cc pc = .ok (.aastore, 1)) (k : QJ p l e R s m args below meth c (qA K b) b nL 0 0 Q (qWd D en K b) M' (pc + 1) L st) : QJ p l e R s m args below meth c (qA K b) b nL 0 0 Q (qWd D en K b) M pc L (qr v :: qi i :: qr (some o) :: st) := fun H locs ls P S hl => by
  subst hM
  have key : ∀ e', e' = va_up (fun j => (M.2 o j).map fun q => b + q) i.toNatClampNeg (v.map fun q => b + q) → (wl en K b M).set o (b + o, .inl (cA, n, .inr (.inr (.inr (.inr e'))))) = wl en K b (qsR M o i.toNatClampNeg v) := by
    intro e' h
    refine wl_set ho ?_ qsR_o
    rw [he, h, qsR_s, q_upm]
  cases v with
  | none =>
    refine va_astqN hx hb hK P.2 wl_D S o t0 (a := b + o) (by rw [wl_get ho, he]) ht hin d (fun H1 locs1 P1 _ S1 => ?_)
    have P2 : va_P D vwCl ((wl en K b M).set o (b + o, .inl (cA, n, .inr (.inr (.inr (.inr (va_up (fun j => (M.2 o j).map fun q => b + q) i.toNatClampNeg none))))))) H1 := P1
    rw [key (va_up (fun j => (M.2 o j).map fun q => b + q) i.toNatClampNeg none) rfl] at P2
    exact k H1 locs1 ls ⟨qsR_w P.1 hw, P2⟩ S1 hl
  | some q =>
    obtain ⟨hq, vs, hvs⟩ := hv q rfl
    refine va_astq hx hb hK P.2 wl_D S o t0 q ci (a := b + o) (by rw [wl_get ho, he]) ht (by rw [wl_get hq, hvs]) hc hin d (fun H1 locs1 P1 _ S1 => ?_)
    have P2 : va_P D vwCl ((wl en K b M).set o (b + o, .inl (cA, n, .inr (.inr (.inr (.inr (va_up (fun j => (M.2 o j).map fun q => b + q) i.toNatClampNeg (some (b + q))))))))) H1 := P1
    rw [key (va_up (fun j => (M.2 o j).map fun q => b + q) i.toNatClampNeg (some (b + q))) rfl] at P2
    exact k H1 locs1 ls ⟨qsR_w P.1 hw, P2⟩ S1 hl
theorem qj_max (hx : p.tables.exec = Jvm.exec) (hb : c.code = cc) (hml : c.maxLocals = nL) {own : String} {index : Nat} (hown : s.vm.findClass own = some m.cls) (hlink : (Cond.methodLink own index Lib.Math.max.name).before args s = true) (hstat : (Cond.static Lib.Math.max.name).before args s = true) (hini : (Cond.initialized "java/lang/Math").before args s = true) (hcode : (Cond.code Lib.Math.max.name Lib.Math.max.code 2 (some .int)).before args s = true) (hframes : 1 ≤ R.frames) (hlocals : st.length + 13 ≤ R.locals) (hcs : cs ≤ R.cells) (hsl : sl ≤ R.slots) {x y : Int32} (d : decode cc pc = .ok (.invokestatic index, 3)) (k : QJ p l e R s m args below meth c A b nL cs sl Q Wd M (pc + 3) L (qi (if x < y then y else x) :: st)) : QJ p l e R s m args below meth c A b nL cs sl Q Wd M pc L (qi y :: qi x :: st) := fun H locs ls P S hl =>
  va_mmax hx hb (hml.trans hl.1.symm) hown hlink hstat hini hcode hframes (by have : ((st.map (qv b)).map fun v => v.category).sum = st.length := by { clear k hlocals; induction st with | nil => rfl | cons v t ih => simp only [List.map_cons, List.sum_cons, List.length_cons]; rw [ih, qv_cat]; omega }; omega) hcs hsl d (k H locs ls P S hl)
theorem qj_lookup (hx : p.tables.exec = Jvm.exec) (hb : c.code = cc) {dflt : Int} {ps : Array (Int × Int)} {len : Nat} {x : Int32} {off : Int} {tgt : Nat} (d : decode cc pc = .ok (.lookupswitch dflt ps, len)) (hp : (ps.toList.zip (ps.toList.drop 1)).all (fun (a, next) => a.1 < next.1) = true) (ho : Op.lookupswitch.offset ps.toList dflt x.toInt = off) (ht : (pc : Int) + off = (tgt : Int)) (k : QJ p l e R s m args below meth c A b nL cs sl Q Wd M tgt L st) : QJ p l e R s m args below meth c A b nL cs sl Q Wd M pc L (qi x :: st) := fun H locs ls P S hl => lv_lookup hx hb d hp ho ht (k H locs ls P S hl)
theorem qj_tableOut (hx : p.tables.exec = Jvm.exec) (hb : c.code = cc) {dflt lo hi : Int} {offs : Array Int} {len : Nat} {x : Int32} {tgt : Nat} (d : decode cc pc = .ok (.tableswitch dflt lo hi offs, len)) (h : x.toInt < lo ∨ hi < x.toInt) (ht : (pc : Int) + dflt = (tgt : Int)) (k : QJ p l e R s m args below meth c A b nL cs sl Q Wd M tgt L st) : QJ p l e R s m args below meth c A b nL cs sl Q Wd M pc L (qi x :: st) := fun H locs ls P S hl => lv_tableOut hx hb d h ht (k H locs ls P S hl)
theorem qj_tableIn (hx : p.tables.exec = Jvm.exec) (hb : c.code = cc) {dflt lo hi : Int} {offs : Array Int} {len : Nat} {x : Int32} {off : Int} {tgt : Nat} (d : decode cc pc = .ok (.tableswitch dflt lo hi offs, len)) (h1 : ¬ x.toInt < lo) (h2 : ¬ hi < x.toInt) (ho : offs[(x.toInt - lo).toNat]? = some off) (ht : (pc : Int) + off = (tgt : Int)) (k : QJ p l e R s m args below meth c A b nL cs sl Q Wd M tgt L st) : QJ p l e R s m args below meth c A b nL cs sl Q Wd M pc L (qi x :: st) := fun H locs ls P S hl => lv_tableIn hx hb d h1 h2 ho ht (k H locs ls P S hl)
end QJS
/-! contracts over the memory -/
def qKp (D : va_G) (tys : List (ClassId × FieldType)) (en : qE) (K b : Nat) (X : State → Prop) (M : qM) (U : State) : Prop := qW M ∧ va_P D vwCl (wl en K b M) U.heap ∧ va_K D vwCl tys U ∧ X U
def qPo (D : va_G) (en : qE) (K b : Nat) (M : qM) (t : State) : Prop := qW M ∧ va_P D vwCl (wl en K b M) t.heap
def qXok (K b : Nat) (X : State → Prop) : Prop := (∀ (U : State) (g : JFrame) (mk : MethodId) (a : Array Value), X U → X (U.calling g mk a)) ∧ ∀ (s U : State) (locs : List Loc), X s → va_S (qA K b) s.heap U.heap locs → s.WarmedH U.vm → X U
abbrev CTi (l : Launch) (y : MethodName) (ws : List Cond) (rm : Room) (D : va_G) (tys : List (ClassId × FieldType)) (en : qE) (K b : Nat) (X : State → Prop) (av : List qV) (M : qM) (out : Int32 × qM) : Prop := Met l y ws rm (va_Pc (av.map (qv b)) (qKp D tys en K b X M)) (va_Qi (fun r M' => (r, M') = out) (qPo D en K b) (qA K b)) 0 0 (qA K b)
abbrev CTv (l : Launch) (y : MethodName) (ws : List Cond) (rm : Room) (D : va_G) (tys : List (ClassId × FieldType)) (en : qE) (K b : Nat) (X : State → Prop) (av : List qV) (M : qM) (out : qM) : Prop := Met l y ws rm (va_Pc (av.map (qv b)) (qKp D tys en K b X M)) (va_Qv (fun M' => M' = out) (qPo D en K b) (qA K b)) 0 0 (qA K b)
abbrev CTr (l : Launch) (y : MethodName) (ws : List Cond) (rm : Room) (D : va_G) (tys : List (ClassId × FieldType)) (en : qE) (K b : Nat) (X : State → Prop) (tt : Nat) (av : List qV) (M : qM) (out : Option Nat × qM) : Prop := Met l y ws rm (va_Pc (av.map (qv b)) (qKp D tys en K b X M)) (va_Qq (fun r M' => r = out.1.map (fun o => b + o) ∧ M' = out.2 ∧ ∀ o, out.1 = some o → tcX o = tt) (qPo D en K b) (qA K b)) 0 0 (qA K b)
theorem q_sum (b : Nat) (st : List qV) : ((st.map (qv b)).map fun v => v.category).sum = st.length := by
  induction st with
  | nil => rfl
  | cons v t ih =>
    simp only [List.map_cons, List.sum_cons, List.length_cons]
    rw [ih, qv_cat]
    omega
section QCT
variable {p : Program} {l : Launch} {e : Env} {R : Room} {s : State} {m : MethodId} {args : Array Value} {below : List Frame} {meth : Method} {c : Code} {D : va_G} {tys : List (ClassId × FieldType)} {en : qE} {K b nL : Nat} {Q : State → Prop} {X : State → Prop} {M : qM} {pc : Nat} {L : List (Nat × qV)} {st st0 as av : List qV} {cc bytes : ByteArray} {y : MethodName} {ws ws' Ts : List Cond} {rm : Room} {own C : String} {index maxL n tt : Nat} {ret : Option FieldType}
theorem q_blind (hX : qXok K b X) : FrameBlind (va_Pc (av.map (qv b)) (qKp D tys en K b X M)) := fun a U g mk q => by
  obtain ⟨q0, w, P, k, x⟩ := q
  exact ⟨q0, w, P, va_K.moved (u := U) (U := U.calling g mk a) (Vm.Alike.refl U.vm) k, hX.1 U g mk a x⟩
theorem q_pre {H : Heap} {locs : List Loc} (hX : qXok K b X) (hs : X s) (hK : va_K D vwCl tys s) (w : qW M) (P : va_P D vwCl (wl en K b M) H) (S : va_S (qA K b) s.heap H locs) : ∀ U : State, U.heap = H → s.WarmedH U.vm → va_Pc (av.map (qv b)) (qKp D tys en K b X M) (av.map (qv b)).toArray U := fun U hU hW => by
  subst hU
  exact ⟨rfl, w, P, va_K.moved hW.alike hK, hX.2 s U locs hs S hW⟩
theorem q_recv {H : Heap} {o ci : Nat} {fs : List Value} {q : vw_C} (hK : va_K D vwCl tys s) (P : va_P D vwCl (wl en K b M) H) (ho : o < K) (he : en o (M.1 o) (M.2 o) = .inr (ci, fs)) (hc : vwCl[ci]? = some q) : ∃ cellB : Cell, H[b + o]? = some cellB ∧ cellB.vm.isStatics = false ∧ s.vm.findClass q.1 = some cellB.cls := by
  obtain ⟨r, h1, cell, q1, q2, q3, -⟩ := P o (b + o, .inr (ci, fs)) (by rw [wl_get ho, he])
  cases h1.symm.trans hc
  exact ⟨cell, q1, by rw [q3]; rfl, by rw [q2]; exact (hK.1 ci _ hc).2.1⟩
theorem qc_Vi (hx : p.tables.exec = Jvm.exec) (hb : c.code = cc) {x : Int32} {M1 : qM} {o ci N : Nat} {T : u_T} {fs : List Value} (hml : c.maxLocals = nL) (hown : s.vm.findClass own = some m.cls) (hts : ∀ w ∈ Ts, w.before args s = true) (hK : va_K D vwCl tys s) (hX : qXok K b X) (hs : X s) (hM : CTi l y ws rm D tys en K b X (qr (some o) :: as) M (x, M1)) (cw : CallW R s args own C index y bytes maxL ret ws rm 0 0 n) (ho : o < K) (he : en o (M.1 o) (M.2 o) = .inr (ci, fs)) (hc : vwCl[ci]? = some (C, T, N)) (hn : as.length = n) (hst : st0 = as.reverse ++ qr (some o) :: st) (hl8 : st.length ≤ 8) (d : decode cc pc = .ok (.invokevirtual index, 3)) (k : QJ p l e R s m args below meth c (qA K b) b nL 0 0 Q (qWd D en K b) M1 (pc + 3) L (qi x :: st)) : QJ p l e R s m args below meth c (qA K b) b nL 0 0 Q (qWd D en K b) M pc L st0 := fun H locs ls P S hl =>
  va_calli (va_runV (Ts := Ts) (C := C) (As := as.map (qv b)) (rest := st.map (qv b)) (b := b + o) ⟨hx, hb, hml, hown, hts⟩ hM cw ⟨q_blind hX, q_recv hK P.2 ho he hc, q_pre hX hs hK P.1 P.2 S⟩ rfl (by simp [hn]) hl.1 (by rw [hst]; simp [F0, qv, va_rf]) (lv_room (by rw [q_sum]; exact hl8)) d ⟨Nat.zero_le _, Nat.zero_le _⟩) S (fun q _ h => h) (fun q h => h) (fun r u t H1 locs1 ht _ hp hB _ _ hS => by
    cases hp
    exact k H1 locs1 ls ⟨hB.1, by rw [← ht]; exact hB.2⟩ hS hl)
theorem qc_VNi (hx : p.tables.exec = Jvm.exec) (hb : c.code = cc) {x : Int32} {M1 : qM} {o ci N : Nat} {T : u_T} {fs : List Value} {host : String} (hml : c.maxLocals = nL) (hown : s.vm.findClass own = some m.cls) (hts : ∀ w ∈ Ts, w.before args s = true) (hK : va_K D vwCl tys s) (hX : qXok K b X) (hs : X s) (hM : CTi l y ws rm D tys en K b X (qr (some o) :: as) M (x, M1)) (cw : va_CN R s args own index y host bytes maxL ret ws rm 0 0 n ∧ (Cond.instanceMethod y).before args s = true ∧ (Cond.selects C y y).before args s = true) (ho : o < K) (he : en o (M.1 o) (M.2 o) = .inr (ci, fs)) (hc : vwCl[ci]? = some (C, T, N)) (hn : as.length = n) (hst : st0 = as.reverse ++ qr (some o) :: st) (hl8 : st.length ≤ 8) (d : decode cc pc = .ok (.invokevirtual index, 3)) (k : QJ p l e R s m args below meth c (qA K b) b nL 0 0 Q (qWd D en K b) M1 (pc + 3) L (qi x :: st)) : QJ p l e R s m args below meth c (qA K b) b nL 0 0 Q (qWd D en K b) M pc L st0 := fun H locs ls P S hl =>
  va_calli (va_runVN (Ts := Ts) (C := C) (As := as.map (qv b)) (rest := st.map (qv b)) (b := b + o) ⟨hx, hb, hml, hown, hts⟩ hM cw ⟨q_blind hX, q_recv hK P.2 ho he hc, q_pre hX hs hK P.1 P.2 S⟩ rfl (by simp [hn]) hl.1 (by rw [hst]; simp [F0, qv, va_rf]) (lv_room (by rw [q_sum]; exact hl8)) d ⟨Nat.zero_le _, Nat.zero_le _⟩) S (fun q _ h => h) (fun q h => h) (fun r u t H1 locs1 ht _ hp hB _ _ hS => by
    cases hp
    exact k H1 locs1 ls ⟨hB.1, by rw [← ht]; exact hB.2⟩ hS hl)
theorem qc_Si (hx : p.tables.exec = Jvm.exec) (hb : c.code = cc) {x : Int32} {M1 : qM} (hml : c.maxLocals = nL) (hown : s.vm.findClass own = some m.cls) (hts : ∀ w ∈ Ts, w.before args s = true) (hK : va_K D vwCl tys s) (hX : qXok K b X) (hs : X s) (hM : CTi l y ws rm D tys en K b X as M (x, M1)) (cw : CallB R s args own index y bytes maxL ret ws rm 0 0 n ∧ (Cond.static y).before args s = true) (hn : as.length = n) (hst : st0 = as.reverse ++ st) (hl8 : st.length ≤ 8) (d : decode cc pc = .ok (.invokestatic index, 3)) (k : QJ p l e R s m args below meth c (qA K b) b nL 0 0 Q (qWd D en K b) M1 (pc + 3) L (qi x :: st)) : QJ p l e R s m args below meth c (qA K b) b nL 0 0 Q (qWd D en K b) M pc L st0 := fun H locs ls P S hl =>
  va_calli (va_runS (Ts := Ts) (As := as.map (qv b)) (rest := st.map (qv b)) ⟨hx, hb, hml, hown, hts⟩ hM cw ⟨q_blind hX, q_pre hX hs hK P.1 P.2 S⟩ rfl (by simp [hn]) hl.1 (by rw [hst]; simp [F0]) (lv_room (by rw [q_sum]; exact hl8)) d ⟨Nat.zero_le _, Nat.zero_le _⟩) S (fun q _ h => h) (fun q h => h) (fun r u t H1 locs1 ht _ hp hB _ _ hS => by
    cases hp
    exact k H1 locs1 ls ⟨hB.1, by rw [← ht]; exact hB.2⟩ hS hl)
theorem qc_SNi (hx : p.tables.exec = Jvm.exec) (hb : c.code = cc) {x : Int32} {M1 : qM} {host : String} (hml : c.maxLocals = nL) (hown : s.vm.findClass own = some m.cls) (hts : ∀ w ∈ Ts, w.before args s = true) (hK : va_K D vwCl tys s) (hX : qXok K b X) (hs : X s) (hM : CTi l y ws rm D tys en K b X as M (x, M1)) (cw : va_CN R s args own index y host bytes maxL ret ws rm 0 0 n ∧ (Cond.static y).before args s = true ∧ True) (hn : as.length = n) (hst : st0 = as.reverse ++ st) (hl8 : st.length ≤ 8) (d : decode cc pc = .ok (.invokestatic index, 3)) (k : QJ p l e R s m args below meth c (qA K b) b nL 0 0 Q (qWd D en K b) M1 (pc + 3) L (qi x :: st)) : QJ p l e R s m args below meth c (qA K b) b nL 0 0 Q (qWd D en K b) M pc L st0 := fun H locs ls P S hl =>
  va_calli (va_runSN (Ts := Ts) (As := as.map (qv b)) (rest := st.map (qv b)) ⟨hx, hb, hml, hown, hts⟩ hM cw ⟨q_blind hX, q_pre hX hs hK P.1 P.2 S⟩ rfl (by simp [hn]) hl.1 (by rw [hst]; simp [F0]) (lv_room (by rw [q_sum]; exact hl8)) d ⟨Nat.zero_le _, Nat.zero_le _⟩) S (fun q _ h => h) (fun q h => h) (fun r u t H1 locs1 ht _ hp hB _ _ hS => by
    cases hp
    exact k H1 locs1 ls ⟨hB.1, by rw [← ht]; exact hB.2⟩ hS hl)
theorem qc_Vv (hx : p.tables.exec = Jvm.exec) (hb : c.code = cc) {M1 : qM} {o ci N : Nat} {T : u_T} {fs : List Value} (hml : c.maxLocals = nL) (hown : s.vm.findClass own = some m.cls) (hts : ∀ w ∈ Ts, w.before args s = true) (hK : va_K D vwCl tys s) (hX : qXok K b X) (hs : X s) (hM : CTv l y ws rm D tys en K b X (qr (some o) :: as) M M1) (cw : CallW R s args own C index y bytes maxL ret ws rm 0 0 n) (ho : o < K) (he : en o (M.1 o) (M.2 o) = .inr (ci, fs)) (hc : vwCl[ci]? = some (C, T, N)) (hn : as.length = n) (hst : st0 = as.reverse ++ qr (some o) :: st) (hl8 : st.length ≤ 8) (d : decode cc pc = .ok (.invokevirtual index, 3)) (k : QJ p l e R s m args below meth c (qA K b) b nL 0 0 Q (qWd D en K b) M1 (pc + 3) L (st)) : QJ p l e R s m args below meth c (qA K b) b nL 0 0 Q (qWd D en K b) M pc L st0 := fun H locs ls P S hl =>
  va_callv (va_runV (Ts := Ts) (C := C) (As := as.map (qv b)) (rest := st.map (qv b)) (b := b + o) ⟨hx, hb, hml, hown, hts⟩ hM cw ⟨q_blind hX, q_recv hK P.2 ho he hc, q_pre hX hs hK P.1 P.2 S⟩ rfl (by simp [hn]) hl.1 (by rw [hst]; simp [F0, qv, va_rf]) (lv_room (by rw [q_sum]; exact hl8)) d ⟨Nat.zero_le _, Nat.zero_le _⟩) S (fun q _ h => h) (fun q h => h) (fun u t H1 locs1 ht _ hp hB _ _ hS => by
    cases hp
    exact k H1 locs1 ls ⟨hB.1, by rw [← ht]; exact hB.2⟩ hS hl)
theorem qc_VNv (hx : p.tables.exec = Jvm.exec) (hb : c.code = cc) {M1 : qM} {o ci N : Nat} {T : u_T} {fs : List Value} {host : String} (hml : c.maxLocals = nL) (hown : s.vm.findClass own = some m.cls) (hts : ∀ w ∈ Ts, w.before args s = true) (hK : va_K D vwCl tys s) (hX : qXok K b X) (hs : X s) (hM : CTv l y ws rm D tys en K b X (qr (some o) :: as) M M1) (cw : va_CN R s args own index y host bytes maxL ret ws rm 0 0 n ∧ (Cond.instanceMethod y).before args s = true ∧ (Cond.selects C y y).before args s = true) (ho : o < K) (he : en o (M.1 o) (M.2 o) = .inr (ci, fs)) (hc : vwCl[ci]? = some (C, T, N)) (hn : as.length = n) (hst : st0 = as.reverse ++ qr (some o) :: st) (hl8 : st.length ≤ 8) (d : decode cc pc = .ok (.invokevirtual index, 3)) (k : QJ p l e R s m args below meth c (qA K b) b nL 0 0 Q (qWd D en K b) M1 (pc + 3) L (st)) : QJ p l e R s m args below meth c (qA K b) b nL 0 0 Q (qWd D en K b) M pc L st0 := fun H locs ls P S hl =>
  va_callv (va_runVN (Ts := Ts) (C := C) (As := as.map (qv b)) (rest := st.map (qv b)) (b := b + o) ⟨hx, hb, hml, hown, hts⟩ hM cw ⟨q_blind hX, q_recv hK P.2 ho he hc, q_pre hX hs hK P.1 P.2 S⟩ rfl (by simp [hn]) hl.1 (by rw [hst]; simp [F0, qv, va_rf]) (lv_room (by rw [q_sum]; exact hl8)) d ⟨Nat.zero_le _, Nat.zero_le _⟩) S (fun q _ h => h) (fun q h => h) (fun u t H1 locs1 ht _ hp hB _ _ hS => by
    cases hp
    exact k H1 locs1 ls ⟨hB.1, by rw [← ht]; exact hB.2⟩ hS hl)
theorem qc_Sv (hx : p.tables.exec = Jvm.exec) (hb : c.code = cc) {M1 : qM} (hml : c.maxLocals = nL) (hown : s.vm.findClass own = some m.cls) (hts : ∀ w ∈ Ts, w.before args s = true) (hK : va_K D vwCl tys s) (hX : qXok K b X) (hs : X s) (hM : CTv l y ws rm D tys en K b X as M M1) (cw : CallB R s args own index y bytes maxL ret ws rm 0 0 n ∧ (Cond.static y).before args s = true) (hn : as.length = n) (hst : st0 = as.reverse ++ st) (hl8 : st.length ≤ 8) (d : decode cc pc = .ok (.invokestatic index, 3)) (k : QJ p l e R s m args below meth c (qA K b) b nL 0 0 Q (qWd D en K b) M1 (pc + 3) L (st)) : QJ p l e R s m args below meth c (qA K b) b nL 0 0 Q (qWd D en K b) M pc L st0 := fun H locs ls P S hl =>
  va_callv (va_runS (Ts := Ts) (As := as.map (qv b)) (rest := st.map (qv b)) ⟨hx, hb, hml, hown, hts⟩ hM cw ⟨q_blind hX, q_pre hX hs hK P.1 P.2 S⟩ rfl (by simp [hn]) hl.1 (by rw [hst]; simp [F0]) (lv_room (by rw [q_sum]; exact hl8)) d ⟨Nat.zero_le _, Nat.zero_le _⟩) S (fun q _ h => h) (fun q h => h) (fun u t H1 locs1 ht _ hp hB _ _ hS => by
    cases hp
    exact k H1 locs1 ls ⟨hB.1, by rw [← ht]; exact hB.2⟩ hS hl)
theorem qc_SNv (hx : p.tables.exec = Jvm.exec) (hb : c.code = cc) {M1 : qM} {host : String} (hml : c.maxLocals = nL) (hown : s.vm.findClass own = some m.cls) (hts : ∀ w ∈ Ts, w.before args s = true) (hK : va_K D vwCl tys s) (hX : qXok K b X) (hs : X s) (hM : CTv l y ws rm D tys en K b X as M M1) (cw : va_CN R s args own index y host bytes maxL ret ws rm 0 0 n ∧ (Cond.static y).before args s = true ∧ True) (hn : as.length = n) (hst : st0 = as.reverse ++ st) (hl8 : st.length ≤ 8) (d : decode cc pc = .ok (.invokestatic index, 3)) (k : QJ p l e R s m args below meth c (qA K b) b nL 0 0 Q (qWd D en K b) M1 (pc + 3) L (st)) : QJ p l e R s m args below meth c (qA K b) b nL 0 0 Q (qWd D en K b) M pc L st0 := fun H locs ls P S hl =>
  va_callv (va_runSN (Ts := Ts) (As := as.map (qv b)) (rest := st.map (qv b)) ⟨hx, hb, hml, hown, hts⟩ hM cw ⟨q_blind hX, q_pre hX hs hK P.1 P.2 S⟩ rfl (by simp [hn]) hl.1 (by rw [hst]; simp [F0]) (lv_room (by rw [q_sum]; exact hl8)) d ⟨Nat.zero_le _, Nat.zero_le _⟩) S (fun q _ h => h) (fun q h => h) (fun u t H1 locs1 ht _ hp hB _ _ hS => by
    cases hp
    exact k H1 locs1 ls ⟨hB.1, by rw [← ht]; exact hB.2⟩ hS hl)
theorem qc_Vr (hx : p.tables.exec = Jvm.exec) (hb : c.code = cc) {x : Option Nat} {M1 : qM} {o ci N : Nat} {T : u_T} {fs : List Value} (hml : c.maxLocals = nL) (hown : s.vm.findClass own = some m.cls) (hts : ∀ w ∈ Ts, w.before args s = true) (hK : va_K D vwCl tys s) (hX : qXok K b X) (hs : X s) (hM : CTr l y ws rm D tys en K b X tt (qr (some o) :: as) M (x, M1)) (cw : CallW R s args own C index y bytes maxL ret ws rm 0 0 n) (ho : o < K) (he : en o (M.1 o) (M.2 o) = .inr (ci, fs)) (hc : vwCl[ci]? = some (C, T, N)) (hn : as.length = n) (hst : st0 = as.reverse ++ qr (some o) :: st) (hl8 : st.length ≤ 8) (d : decode cc pc = .ok (.invokevirtual index, 3)) (k : (∀ o, x = some o → tcX o = tt) → QJ p l e R s m args below meth c (qA K b) b nL 0 0 Q (qWd D en K b) M1 (pc + 3) L (qr x :: st)) : QJ p l e R s m args below meth c (qA K b) b nL 0 0 Q (qWd D en K b) M pc L st0 := fun H locs ls P S hl =>
  va_callq (va_runV (Ts := Ts) (C := C) (As := as.map (qv b)) (rest := st.map (qv b)) (b := b + o) ⟨hx, hb, hml, hown, hts⟩ hM cw ⟨q_blind hX, q_recv hK P.2 ho he hc, q_pre hX hs hK P.1 P.2 S⟩ rfl (by simp [hn]) hl.1 (by rw [hst]; simp [F0, qv, va_rf]) (lv_room (by rw [q_sum]; exact hl8)) d ⟨Nat.zero_le _, Nat.zero_le _⟩) S (fun q _ h => h) (fun q h => h) (fun r u t H1 locs1 ht _ hp hB _ _ hS => by
    obtain ⟨h1, h2, h3⟩ := hp
    subst h1; subst h2
    exact k h3 H1 locs1 ls ⟨hB.1, by rw [← ht]; exact hB.2⟩ hS hl)
theorem qc_VNr (hx : p.tables.exec = Jvm.exec) (hb : c.code = cc) {x : Option Nat} {M1 : qM} {o ci N : Nat} {T : u_T} {fs : List Value} {host : String} (hml : c.maxLocals = nL) (hown : s.vm.findClass own = some m.cls) (hts : ∀ w ∈ Ts, w.before args s = true) (hK : va_K D vwCl tys s) (hX : qXok K b X) (hs : X s) (hM : CTr l y ws rm D tys en K b X tt (qr (some o) :: as) M (x, M1)) (cw : va_CN R s args own index y host bytes maxL ret ws rm 0 0 n ∧ (Cond.instanceMethod y).before args s = true ∧ (Cond.selects C y y).before args s = true) (ho : o < K) (he : en o (M.1 o) (M.2 o) = .inr (ci, fs)) (hc : vwCl[ci]? = some (C, T, N)) (hn : as.length = n) (hst : st0 = as.reverse ++ qr (some o) :: st) (hl8 : st.length ≤ 8) (d : decode cc pc = .ok (.invokevirtual index, 3)) (k : (∀ o, x = some o → tcX o = tt) → QJ p l e R s m args below meth c (qA K b) b nL 0 0 Q (qWd D en K b) M1 (pc + 3) L (qr x :: st)) : QJ p l e R s m args below meth c (qA K b) b nL 0 0 Q (qWd D en K b) M pc L st0 := fun H locs ls P S hl =>
  va_callq (va_runVN (Ts := Ts) (C := C) (As := as.map (qv b)) (rest := st.map (qv b)) (b := b + o) ⟨hx, hb, hml, hown, hts⟩ hM cw ⟨q_blind hX, q_recv hK P.2 ho he hc, q_pre hX hs hK P.1 P.2 S⟩ rfl (by simp [hn]) hl.1 (by rw [hst]; simp [F0, qv, va_rf]) (lv_room (by rw [q_sum]; exact hl8)) d ⟨Nat.zero_le _, Nat.zero_le _⟩) S (fun q _ h => h) (fun q h => h) (fun r u t H1 locs1 ht _ hp hB _ _ hS => by
    obtain ⟨h1, h2, h3⟩ := hp
    subst h1; subst h2
    exact k h3 H1 locs1 ls ⟨hB.1, by rw [← ht]; exact hB.2⟩ hS hl)
theorem qc_Sr (hx : p.tables.exec = Jvm.exec) (hb : c.code = cc) {x : Option Nat} {M1 : qM} (hml : c.maxLocals = nL) (hown : s.vm.findClass own = some m.cls) (hts : ∀ w ∈ Ts, w.before args s = true) (hK : va_K D vwCl tys s) (hX : qXok K b X) (hs : X s) (hM : CTr l y ws rm D tys en K b X tt as M (x, M1)) (cw : CallB R s args own index y bytes maxL ret ws rm 0 0 n ∧ (Cond.static y).before args s = true) (hn : as.length = n) (hst : st0 = as.reverse ++ st) (hl8 : st.length ≤ 8) (d : decode cc pc = .ok (.invokestatic index, 3)) (k : (∀ o, x = some o → tcX o = tt) → QJ p l e R s m args below meth c (qA K b) b nL 0 0 Q (qWd D en K b) M1 (pc + 3) L (qr x :: st)) : QJ p l e R s m args below meth c (qA K b) b nL 0 0 Q (qWd D en K b) M pc L st0 := fun H locs ls P S hl =>
  va_callq (va_runS (Ts := Ts) (As := as.map (qv b)) (rest := st.map (qv b)) ⟨hx, hb, hml, hown, hts⟩ hM cw ⟨q_blind hX, q_pre hX hs hK P.1 P.2 S⟩ rfl (by simp [hn]) hl.1 (by rw [hst]; simp [F0]) (lv_room (by rw [q_sum]; exact hl8)) d ⟨Nat.zero_le _, Nat.zero_le _⟩) S (fun q _ h => h) (fun q h => h) (fun r u t H1 locs1 ht _ hp hB _ _ hS => by
    obtain ⟨h1, h2, h3⟩ := hp
    subst h1; subst h2
    exact k h3 H1 locs1 ls ⟨hB.1, by rw [← ht]; exact hB.2⟩ hS hl)
theorem qc_SNr (hx : p.tables.exec = Jvm.exec) (hb : c.code = cc) {x : Option Nat} {M1 : qM} {host : String} (hml : c.maxLocals = nL) (hown : s.vm.findClass own = some m.cls) (hts : ∀ w ∈ Ts, w.before args s = true) (hK : va_K D vwCl tys s) (hX : qXok K b X) (hs : X s) (hM : CTr l y ws rm D tys en K b X tt as M (x, M1)) (cw : va_CN R s args own index y host bytes maxL ret ws rm 0 0 n ∧ (Cond.static y).before args s = true ∧ True) (hn : as.length = n) (hst : st0 = as.reverse ++ st) (hl8 : st.length ≤ 8) (d : decode cc pc = .ok (.invokestatic index, 3)) (k : (∀ o, x = some o → tcX o = tt) → QJ p l e R s m args below meth c (qA K b) b nL 0 0 Q (qWd D en K b) M1 (pc + 3) L (qr x :: st)) : QJ p l e R s m args below meth c (qA K b) b nL 0 0 Q (qWd D en K b) M pc L st0 := fun H locs ls P S hl =>
  va_callq (va_runSN (Ts := Ts) (As := as.map (qv b)) (rest := st.map (qv b)) ⟨hx, hb, hml, hown, hts⟩ hM cw ⟨q_blind hX, q_pre hX hs hK P.1 P.2 S⟩ rfl (by simp [hn]) hl.1 (by rw [hst]; simp [F0]) (lv_room (by rw [q_sum]; exact hl8)) d ⟨Nat.zero_le _, Nat.zero_le _⟩) S (fun q _ h => h) (fun q h => h) (fun r u t H1 locs1 ht _ hp hB _ _ hS => by
    obtain ⟨h1, h2, h3⟩ := hp
    subst h1; subst h2
    exact k h3 H1 locs1 ls ⟨hB.1, by rw [← ht]; exact hB.2⟩ hS hl)
theorem qj_iret0 (hx : p.tables.exec = Jvm.exec) (hb : c.code = cc) {out : Int32 × qM} {x : Int32} (hr : meth.sig.returnType = some .int) (hlk : meth.locks = false) (d : decode cc pc = .ok (.ireturn, 1)) (ho : (x, M) = out) : QJ p l e R s m args below meth c (qA K b) b nL 0 0 (MQ below (va_Qi (fun r M' => (r, M') = out) (qPo D en K b) (qA K b)) args s 0 0 (qA K b)) (qWd D en K b) M pc L [qi x] := fun H locs ls P S hl => W.iret hx hb hr (fun t ht _ => ⟨⟨x, M, rfl, ho, P.1, by rw [ht]; exact P.2⟩, S.F ht⟩) S.2.2 d hlk
theorem qj_zret0 (hx : p.tables.exec = Jvm.exec) (hb : c.code = cc) {out : Int32 × qM} {x : Int32} (hr : meth.sig.returnType = some .boolean) (hlk : meth.locks = false) (hz : x = 0 ∨ x = 1) (d : decode cc pc = .ok (.ireturn, 1)) (ho : (x, M) = out) : QJ p l e R s m args below meth c (qA K b) b nL 0 0 (MQ below (va_Qi (fun r M' => (r, M') = out) (qPo D en K b) (qA K b)) args s 0 0 (qA K b)) (qWd D en K b) M pc L [qi x] := fun H locs ls P S hl => W.zret hx hb hr (q_zn hz) (fun t ht _ => ⟨⟨x, M, rfl, ho, P.1, by rw [ht]; exact P.2⟩, S.F ht⟩) S.2.2 d hlk
theorem qj_vret0 (hx : p.tables.exec = Jvm.exec) (hb : c.code = cc) {out : qM} (hr : meth.sig.returnType = none) (hlk : meth.locks = false) (d : decode cc pc = .ok (.return_, 1)) (ho : M = out) : QJ p l e R s m args below meth c (qA K b) b nL 0 0 (MQ below (va_Qv (fun M' => M' = out) (qPo D en K b) (qA K b)) args s 0 0 (qA K b)) (qWd D en K b) M pc L [] := fun H locs ls P S hl => W.vret hx hb hr (fun t ht _ => ⟨⟨M, rfl, ho, P.1, by rw [ht]; exact P.2⟩, S.F ht⟩) S.2.2 d hlk
theorem qj_aret0 (hx : p.tables.exec = Jvm.exec) (hb : c.code = cc) {out : Option Nat × qM} {x : Option Nat} {rt : FieldType} (hr : meth.sig.returnType = some rt) (hrt : (∃ n, rt = .object n) ∨ ∃ t, rt = .array t) (hlk : meth.locks = false) (d : decode cc pc = .ok (.areturn, 1)) (ho : (x, M) = out) (ht0 : ∀ o, x = some o → tcX o = tt) : QJ p l e R s m args below meth c (qA K b) b nL 0 0 (MQ below (va_Qq (fun r M' => r = out.1.map (fun o => b + o) ∧ M' = out.2 ∧ ∀ o, out.1 = some o → tcX o = tt) (qPo D en K b) (qA K b)) args s 0 0 (qA K b)) (qWd D en K b) M pc L [qr x] := fun H locs ls P S hl => by
  subst ho
  exact W.aret hx hb hr hrt (va_rf_or _) (fun t ht _ => ⟨⟨x.map fun o => b + o, M, rfl, ⟨rfl, rfl, ht0⟩, P.1, by rw [ht]; exact P.2⟩, S.F ht⟩) S.2.2 d hlk
theorem q_entry (hlen : av.length ≤ nL) (w : qW M) (P : va_P D vwCl (wl en K b M) s.heap) (k : QJ p l e R s m (av.map (qv b)).toArray below meth c (qA K b) b nL 0 0 Q (qWd D en K b) M 0 (qZ 0 av) []) : W p l e R s m (av.map (qv b)).toArray below meth c s.heap [] 0 0 Q (entryFrame m (av.map (qv b)).toArray nL) := by
  rw [lg_entry_eq]
  exact k s.heap [] _ ⟨w, P⟩ va_S.rf (by rw [← qZ_args]; exact lv_entry _ (by rw [qZ_len]; exact hlen))
end QCT
section QMT
variable {l : Launch} {D : va_G} {tys : List (ClassId × FieldType)} {en : qE} {K b nL : Nat} {X : State → Prop} {M : qM} {av : List qV} {cc : ByteArray} {y : MethodName} {ws ws' : List Cond} {rm : Room} {tt : Nat}
theorem qm_i {out : Int32 × qM} (hy : plainName y.cls = true) (hw : ws = Cond.code y cc nL (some .int) :: ws') (hlen : av.length ≤ nL)
    (body : ∀ (p : Program) (e : Env) (s : State) (m : MethodId) (args : Array Value) (below : List Frame) (meth : Method) (c : Code) (Q : State → Prop), p.tables.exec = Jvm.exec → c.code = cc → (∀ w ∈ ws, w.before args s = true) → s.vm.findClass y.cls = some m.cls → c.maxLocals = nL → va_K D vwCl tys s → X s →
      (∀ (M : qM) (pc : Nat) (L : List (Nat × qV)) (x : Int32), decode cc pc = .ok (.ireturn, 1) → (x, M) = out → QJ p l e rm s m args below meth c (qA K b) b nL 0 0 Q (qWd D en K b) M pc L [qi x]) → QJ p l e rm s m args below meth c (qA K b) b nL 0 0 Q (qWd D en K b) M 0 (qZ 0 av) []) : CTi l y ws rm D tys en K b X av M out := by
  refine Met.ofW (cc := cc) (maxL := nL) (ret := some .int) hy hw ?_
  intro p e s m args below meth c s₁ B hml hv
  obtain ⟨rfl, w, P, hK, hX⟩ := hv
  exact q_entry hlen w P (body p e s m _ below meth c _ B.exec B.bytes (atoms_spec (ws := ws) B.pre) (findClass_of_methodNamed B.named) hml hK hX (fun M pc L x d ho => qj_iret0 B.exec B.bytes B.returns B.notSynchronized d ho))
theorem qm_z {out : Int32 × qM} (hy : plainName y.cls = true) (hw : ws = Cond.code y cc nL (some .boolean) :: ws') (hlen : av.length ≤ nL)
    (body : ∀ (p : Program) (e : Env) (s : State) (m : MethodId) (args : Array Value) (below : List Frame) (meth : Method) (c : Code) (Q : State → Prop), p.tables.exec = Jvm.exec → c.code = cc → (∀ w ∈ ws, w.before args s = true) → s.vm.findClass y.cls = some m.cls → c.maxLocals = nL → va_K D vwCl tys s → X s →
      (∀ (M : qM) (pc : Nat) (L : List (Nat × qV)) (x : Int32), (x = 0 ∨ x = 1) → decode cc pc = .ok (.ireturn, 1) → (x, M) = out → QJ p l e rm s m args below meth c (qA K b) b nL 0 0 Q (qWd D en K b) M pc L [qi x]) → QJ p l e rm s m args below meth c (qA K b) b nL 0 0 Q (qWd D en K b) M 0 (qZ 0 av) []) : CTi l y ws rm D tys en K b X av M out := by
  refine Met.ofW (cc := cc) (maxL := nL) (ret := some .boolean) hy hw ?_
  intro p e s m args below meth c s₁ B hml hv
  obtain ⟨rfl, w, P, hK, hX⟩ := hv
  exact q_entry hlen w P (body p e s m _ below meth c _ B.exec B.bytes (atoms_spec (ws := ws) B.pre) (findClass_of_methodNamed B.named) hml hK hX (fun M pc L x hz d ho => qj_zret0 B.exec B.bytes B.returns B.notSynchronized hz d ho))
theorem qm_v {out : qM} (hy : plainName y.cls = true) (hw : ws = Cond.code y cc nL none :: ws') (hlen : av.length ≤ nL)
    (body : ∀ (p : Program) (e : Env) (s : State) (m : MethodId) (args : Array Value) (below : List Frame) (meth : Method) (c : Code) (Q : State → Prop), p.tables.exec = Jvm.exec → c.code = cc → (∀ w ∈ ws, w.before args s = true) → s.vm.findClass y.cls = some m.cls → c.maxLocals = nL → va_K D vwCl tys s → X s →
      (∀ (M : qM) (pc : Nat) (L : List (Nat × qV)), decode cc pc = .ok (.return_, 1) → M = out → QJ p l e rm s m args below meth c (qA K b) b nL 0 0 Q (qWd D en K b) M pc L []) → QJ p l e rm s m args below meth c (qA K b) b nL 0 0 Q (qWd D en K b) M 0 (qZ 0 av) []) : CTv l y ws rm D tys en K b X av M out := by
  refine Met.ofW (cc := cc) (maxL := nL) (ret := none) hy hw ?_
  intro p e s m args below meth c s₁ B hml hv
  obtain ⟨rfl, w, P, hK, hX⟩ := hv
  exact q_entry hlen w P (body p e s m _ below meth c _ B.exec B.bytes (atoms_spec (ws := ws) B.pre) (findClass_of_methodNamed B.named) hml hK hX (fun M pc L d ho => qj_vret0 B.exec B.bytes B.returns B.notSynchronized d ho))
theorem qm_r {out : Option Nat × qM} {rt : FieldType} (hy : plainName y.cls = true) (hw : ws = Cond.code y cc nL (some rt) :: ws') (hrt : (∃ n, rt = .object n) ∨ ∃ t, rt = .array t) (hlen : av.length ≤ nL)
    (body : ∀ (p : Program) (e : Env) (s : State) (m : MethodId) (args : Array Value) (below : List Frame) (meth : Method) (c : Code) (Q : State → Prop), p.tables.exec = Jvm.exec → c.code = cc → (∀ w ∈ ws, w.before args s = true) → s.vm.findClass y.cls = some m.cls → c.maxLocals = nL → va_K D vwCl tys s → X s →
      (∀ (M : qM) (pc : Nat) (L : List (Nat × qV)) (x : Option Nat), (∀ o, x = some o → tcX o = tt) → decode cc pc = .ok (.areturn, 1) → (x, M) = out → QJ p l e rm s m args below meth c (qA K b) b nL 0 0 Q (qWd D en K b) M pc L [qr x]) → QJ p l e rm s m args below meth c (qA K b) b nL 0 0 Q (qWd D en K b) M 0 (qZ 0 av) []) : CTr l y ws rm D tys en K b X tt av M out := by
  refine Met.ofW (cc := cc) (maxL := nL) (ret := some rt) hy hw ?_
  intro p e s m args below meth c s₁ B hml hv
  obtain ⟨rfl, w, P, hK, hX⟩ := hv
  exact q_entry hlen w P (body p e s m _ below meth c _ B.exec B.bytes (atoms_spec (ws := ws) B.pre) (findClass_of_methodNamed B.named) hml hK hX (fun M pc L x ht d ho => qj_aret0 B.exec B.bytes B.returns hrt B.notSynchronized d ho ht))
end QMT
/-! constructors: the cells come one after the other from the base on -/
def qB (b : Nat) : Nat → Prop := fun q => b ≤ q
def qWn (D : va_G) (en : qE) (b n : Nat) (M : qM) (H : Heap) : Prop := H.size = b + n ∧ va_P D vwCl (wl en n b M) H
theorem wl_push {D : va_G} {en : qE} {b n : Nat} {M : qM} {H H1 : Heap} (hz : H.size = b + n) (hP : va_P D vwCl (wl en n b M) H) (o1 : ∀ q, q < b + n → H1[q]? = H[q]?) (h1 : va_at D vwCl (b + n, en n (M.1 n) (M.2 n)) H1) : va_P D vwCl (wl en (n + 1) b M) H1 := by
  intro k q hk
  have hl : k < n + 1 := by
    have := (List.getElem?_eq_some_iff.mp hk).1
    rwa [wl_len] at this
  rw [wl_get hl] at hk
  cases hk
  by_cases hkn : k < n
  · exact (hP k _ (wl_get hkn)).kept (o1 _ (by omega))
  · have : k = n := by omega
    subst this
    exact h1
theorem wl_DB {en : qE} {n b : Nat} {M : qM} : va_D (qB b) (wl en n b M) := wl_D.weaken (fun _ _ _ h => h.1)
section QNS
variable {p : Program} {l : Launch} {e : Env} {R : Room} {s : State} {m : MethodId} {args : Array Value} {below : List Frame} {meth : Method} {c : Code} {b nL cs sl n : Nat} {Q : State → Prop} {D : va_G} {en : qE} {M M' : qM} {pc : Nat} {L L' : List (Nat × qV)} {st : List qV} {cc : ByteArray}
theorem qn_new (hx : p.tables.exec = Jvm.exec) (hb : c.code = cc) {own C : String} {T : u_T} {N ci index : Nat} {Ts : List Cond} {tys : List (ClassId × FieldType)} (hts : ∀ w ∈ Ts, w.before args s = true) (hin : ∀ w ∈ u_ws C T N, w ∈ Ts) (ty : Nat → FieldType) (hty : ∀ k, k < N → parseFieldDescriptor (T k).2.2.1 = some (ty k)) (hown : s.vm.findClass own = some m.cls) (hcl : (Cond.classLink own index C).before args s = true) (hinst : (Cond.instantiable C N).before args s = true) (hini : (Cond.initialized C).before args s = true) (hK : va_K D vwCl tys s) (hc : vwCl[ci]? = some (C, T, N)) {fs : List Value} (he : en n (M.1 n) (M.2 n) = .inr (ci, fs)) (hfs : ∀ j, j < N → defaultValue (ty j) = vp_V fs j) (hcells : cs + 1 ≤ R.cells) (hslots : sl + N ≤ R.slots) (d : decode cc pc = .ok (.new index, 3)) (k : QJ p l e R s m args below meth c (qB b) b nL (cs + 1) (sl + N) Q (qWn D en b (n + 1)) M (pc + 3) L (qr (some n) :: st)) : QJ p l e R s m args below meth c (qB b) b nL cs sl Q (qWn D en b n) M pc L st := fun H locs ls P S hl => by
  obtain ⟨hz, hP⟩ := P
  have hKn := hK.1 ci _ hc
  refine W.newcK hx hb hown hcl hinst hini rfl d hcells hslots hKn.2.1 hz fun H1 kC hkC e1 z1 o1 => ?_
  refine k H1 locs ls ⟨z1, wl_push hz hP o1 ?_⟩ ⟨by have := S.1; omega, fun x h1 h2 => (o1 x (by have := S.1; omega)).trans (S.2.1 x h1 h2), S.2.2⟩ hl
  rw [he]
  exact ⟨_, hc, (u_born ty hts hin hKn hkC e1 hty).to hfs⟩
theorem qn_newa (hx : p.tables.exec = Jvm.exec) (hb : c.code = cc) {atype : ArrayType} {ty : FieldType} {N' : Nat} {x : Int32} {cA : ClassId} (harr : (Cond.arrayClass (newarray.typeOf atype)).before args s = true) (hty : newarray.typeOf atype = ty) (hnm : s.vm.findClass ("[" ++ ty.toString) = some cA) (he : en n (M.1 n) (M.2 n) = .inl (cA, N', .inl fun _ => 0)) (hdef : defaultValue ty = .int 0) (hn : ¬ x < 0) (hN : x.toNatClampNeg = N') (hbytes : N' * componentBytes ty ≤ 536870912) (hcells : cs + 1 ≤ R.cells) (hslots : sl + N' ≤ R.slots) (d : decode cc pc = .ok (.newarray atype, 2)) (k : QJ p l e R s m args below meth c (qB b) b nL (cs + 1) (sl + N') Q (qWn D en b (n + 1)) M (pc + 2) L (qr (some n) :: st)) : QJ p l e R s m args below meth c (qB b) b nL cs sl Q (qWn D en b n) M pc L (qi x :: st) := fun H locs ls P S hl => by
  obtain ⟨hz, hP⟩ := P
  subst hty
  refine va_newaK hx hb harr rfl d rfl hn hN hbytes hcells hslots hz fun H1 cA1 e1 z1 o1 hAr hNm => ?_
  cases hnm.symm.trans hNm
  refine k H1 locs ls ⟨z1, wl_push hz hP o1 ?_⟩ ⟨by have := S.1; omega, fun x h1 h2 => (o1 x (by have := S.1; omega)).trans (S.2.1 x h1 h2), S.2.2⟩ hl
  rw [he]
  show H1[b + n]? = some (vp_cell _ _)
  rw [vp_cell_i, e1, hdef]
theorem qn_newq (hx : p.tables.exec = Jvm.exec) (hb : c.code = cc) {own C : String} {index N' : Nat} {x : Int32} {cA : ClassId} (hown : s.vm.findClass own = some m.cls) (hclink : (Cond.classLink own index C).before args s = true) (hover : va_AO C s) (hnm : s.vm.findClass ("[" ++ (FieldType.object C).toString) = some cA) (he : en n (M.1 n) (M.2 n) = .inl (cA, N', .inr (.inr (.inr (.inr fun _ => none))))) (hn : ¬ x < 0) (hN : x.toNatClampNeg = N') (hbytes : N' * 4 ≤ 536870912) (hcells : cs + 1 ≤ R.cells) (hslots : sl + N' ≤ R.slots) (d : decode cc pc = .ok (.anewarray index, 3)) (k : QJ p l e R s m args below meth c (qB b) b nL (cs + 1) (sl + N') Q (qWn D en b (n + 1)) M (pc + 3) L (qr (some n) :: st)) : QJ p l e R s m args below meth c (qB b) b nL cs sl Q (qWn D en b n) M pc L (qi x :: st) := fun H locs ls P S hl => by
  obtain ⟨hz, hP⟩ := P
  subst hN
  refine W.anew hx hb hown hclink (va_AO.use hover) rfl d rfl hn hbytes hcells hslots fun cA1 kA comp f1 f2 f3 f4 => ?_
  cases hnm.symm.trans f1
  generalize hH1 : H.push ({ cls := cA, slots := Array.replicate x.toNatClampNeg .null, vm := .none } : Cell) = H1
  have z1 : H1.size = b + n + 1 := by rw [← hH1, Array.size_push, hz]
  have e1 : H1[b + n]? = some (arrV cA x.toNatClampNeg (fun _ => .null)) := by rw [← hH1, ← hz, Array.getElem?_push_size, ← arrV_new]
  have o1 : ∀ q : Nat, q < b + n → H1[q]? = H[q]? := fun q hq => by rw [← hH1, Array.getElem?_push, if_neg (by omega)]
  have hk := k H1 locs ls ⟨z1, wl_push hz hP o1 (by rw [he]; show H1[b + n]? = some (vp_cell _ _); rw [vp_cell_q]; exact e1)⟩ ⟨by have := S.1; omega, fun x h1 h2 => (o1 x (by have := S.1; omega)).trans (S.2.1 x h1 h2), S.2.2⟩ hl
  rw [hz]
  exact hk
theorem qn_putA (hx : p.tables.exec = Jvm.exec) (hb : c.code = cc) {own ref C : String} {T : u_T} {N ci index o : Nat} {Ts : List Cond} {tys : List (ClassId × FieldType)} (hts : ∀ w ∈ Ts, w.before args s = true) (hin : ∀ w ∈ u_ws C T N, w ∈ Ts) (ty0 : Nat → FieldType) (hty : ∀ k, k < N → parseFieldDescriptor (T k).2.2.1 = some (ty0 k)) (hnm : ∀ a, a < N → ∀ b, b < N → a ≠ b → (T a).2.1 ≠ (T b).2.1) (hown : s.vm.findClass own = some m.cls) (hK : va_K D vwCl tys s) (ho : o < n) {fs : List Value} (he : en o (M.1 o) (M.2 o) = .inr (ci, fs)) (hc : vwCl[ci]? = some (C, T, N)) (k0 : Nat) (hk : k0 < N) (hlink : (Cond.fieldLink own index ref (T k0).2.1 (T k0).2.2.1).before args s = true) (hsame : ∀ x, s.fieldFound? (T k0).1 (T k0).2.1 (T k0).2.2.1 = some x → s.fieldFound? ref (T k0).2.1 (T k0).2.2.1 = some x) (hin2 : meth.name = "<init>") (hdecl : (T k0).1 = own) {ty : FieldType} {v : qV} (hd : parseFieldDescriptor (T k0).2.2.1 = some ty) (hn : narrow ty (qv b v) = qv b v) (hfit : fits ty (qv b v) = true) (hl0 : k0 < fs.length) (he' : (Sum.inr (ci, fs.set k0 (qv b v)) : va_E) = en o (M'.1 o) (M'.2 o)) (hM : ∀ q, q ≠ o → M'.1 q = M.1 q ∧ M'.2 q = M.2 q) (d : decode cc pc = .ok (.putfield index, 3)) (k : QJ p l e R s m args below meth c (qB b) b nL cs sl Q (qWn D en b n) M' (pc + 3) L st) : QJ p l e R s m args below meth c (qB b) b nL cs sl Q (qWn D en b n) M pc L (v :: qr (some o) :: st) := fun H locs ls P S hl => by
  obtain ⟨hz, hP⟩ := P
  have he0 : (wl en n b M)[o]? = some (b + o, .inr (ci, fs)) := by rw [wl_get ho, he]
  have hap := va_apart (own := own) hts hin ty0 hty hnm hK hc
  obtain ⟨r, h1, cell, q1, q2, q3, q4⟩ := hP o _ he0
  have hr : r = (C, T, N) := Option.some.inj (h1.symm.trans hc)
  subst hr
  obtain ⟨hS, hfc, kC, hkC, hkind⟩ := hK.1 ci _ hc
  obtain ⟨cf, kf, fi, f, hi, hsl⟩ := hS k0 hk
  have hst := (u_facts hfc hkC (u_lays hts hin hk) hi).1
  have fin : ∀ H1 : Heap, H1[b + o]? = some (cell.setSlot f.slot (qv b v)) → H1.size = H.size → (∀ q, q ≠ b + o → H1[q]? = H[q]?) → W p l e R s m args below meth c H1 (locs ++ [⟨b + o, f.slot⟩]) cs sl Q (F0 m (pc + 3) ls (st.map (qv b))) := by
    intro H1 e1 e2 e3
    have P1 := hP.set wl_DB he0 (e := .inr (ci, fs.set k0 (qv b v))) (H1 := H1) ⟨_, hc, t_OB.to (V := updV (vp_V fs) k0 (qv b v)) ⟨_, e1, q2, q3, by rw [hsl]; exact t_set q4 hap hk (qv b v)⟩ (fun j _ => vp_updV_set hl0 (qv b v) j)⟩ e3
    rw [wl_set ho he' hM] at P1
    exact k H1 _ ls ⟨by rw [e2]; exact hz, P1⟩ (S.put e2 e3 (by show b ≤ b + o; omega)) hl
  cases hfin : (T k0).2.2.2 with
  | false =>
    have hlay := hts _ (hin _ (u_in_lay hk))
    unfold u_lay at hlay
    rw [if_neg (by rw [hfin]; decide)] at hlay
    have h6 := u_store hfc hkC hkind hlay hi hd hn hfit
    exact W.putK hx hb (f := f) ⟨hown, hlink, ⟨_, _, _, hsame _ hi⟩, hst⟩ (by rw [q2]; exact h6) q1 q3 (by rw [hsl]; exact k2_hasslot (q4 k0 hk)) rfl rfl d fin
  | true =>
    have hlay := hts _ (hin _ (u_in_lay hk))
    unfold u_lay at hlay
    rw [if_pos hfin] at hlay
    have hcf : m.cls = cf := by
      obtain ⟨_, _, c', _, _, _, -, -, hf', -, -, -, hown2, -⟩ := Cond.laysFinal_spec hlay
      have e1 : c' = cf := by have := hi.symm.trans hf'; simp at this; exact this.1.symm
      rw [hdecl] at hown2
      rw [← e1]; exact Option.some.inj (hown.symm.trans hown2)
    have h6 := u_fits hfc hkC hkind (Or.inr hlay) hi hd hn hfit
    exact W.putFinK hx hb hown hlink (hsame _ hi) hst hcf hin2 (by rw [q2]; exact h6) q1 q3 (by rw [hsl]; exact k2_hasslot (q4 k0 hk)) rfl rfl d fin
theorem qn_aast (hx : p.tables.exec = Jvm.exec) (hb : c.code = cc) {o t0 N' ci q : Nat} {i : Int32} {cA : ClassId} {r : vw_C} {fs : List Value} {tys : List (ClassId × FieldType)} (hK : va_K D vwCl tys s) (ho : o < n) (he : ∀ f g, en o f g = .inl (cA, N', .inr (.inr (.inr (.inr fun j => (g j).map fun q => b + q))))) (ht : tys[t0]? = some (cA, .object r.1)) (hc : vwCl[ci]? = some r) (hq : q < n) (hv : en q (M.1 q) (M.2 q) = .inr (ci, fs)) (hin : vp_in i N') (hM : M' = qsR M o i.toNatClampNeg (some q)) (d : decode cc pc = .ok (.aastore, 1)) (k : QJ p l e R s m args below meth c (qB b) b nL cs sl Q (qWn D en b n) M' (pc + 1) L st) : QJ p l e R s m args below meth c (qB b) b nL cs sl Q (qWn D en b n) M pc L (qr (some q) :: qi i :: qr (some o) :: st) := fun H locs ls P S hl => by
  subst hM
  obtain ⟨hz, hP⟩ := P
  have ha : (wl en n b M)[o]? = some (b + o, .inl (cA, N', .inr (.inr (.inr (.inr fun j => (M.2 o j).map fun q => b + q))))) := by rw [wl_get ho, he]
  have hw : (wl en n b M)[q]? = some (b + q, .inr (ci, fs)) := by rw [wl_get hq, hv]
  have hlt : i.toNatClampNeg < N' := Nat.not_le.mp fun q => hin (Or.inr q)
  have h0 : ¬ i < 0 := fun q => hin (Or.inl q)
  obtain ⟨r', hr', cellV, g1, g2, g3, -⟩ := hP q _ hw
  have hcls := (hK.1 ci r hc).2
  obtain ⟨kA, comp, k1, k2, k3, -⟩ := (hK.2 t0 _ ht).2
  have hcomp : comp = D.1 ci := Option.some.inj (k3.symm.trans hcls.1)
  subst hcomp
  obtain ⟨kC, hkC, -⟩ := hcls.2
  refine W.aast hx hb (hP o _ ha) (fun q h => by cases h) (fun h => by cases h) k1 k2 rfl hkC ⟨h0, by show _ < (arrV _ _ _).slots.size; rw [arrV_size]; exact hlt⟩ g1 (fun q h => by rw [g3] at h; cases h) (by rw [g2]; exact hkC) (by rw [g2]; exact va_assign hcls) rfl rfl d fun H1 e z oq => ?_
  have P1 := hP.set wl_DB ha (e := .inl (cA, N', .inr (.inr (.inr (.inr (va_up (fun j => (M.2 o j).map fun q => b + q) i.toNatClampNeg (some (b + q)))))))) (H1 := H1) (by
    show H1[b + o]? = some (vp_cell _ _)
    rw [e]
    rw [vp_cell_q, vp_cell_q, arrV_store]
    congr 2
    funext q
    by_cases hq : q = i.toNatClampNeg
    · subst hq
      simp [updV, va_up, va_rf]
    · simp [updV, va_up, hq]) oq
  rw [wl_set (M' := qsR M o i.toNatClampNeg (some q)) ho (by
    rw [he, qsR_s, ← q_upm]; rfl) qsR_o] at P1
  exact k H1 _ ls ⟨by rw [z]; exact hz, P1⟩ (S.put z oq (by show b ≤ b + o; omega)) hl
def qKn (D : va_G) (tys : List (ClassId × FieldType)) (en : qE) (b n : Nat) (M : qM) (U : State) : Prop := qWn D en b n M U.heap ∧ va_K D vwCl tys U
abbrev CTn (l : Launch) (y : MethodName) (ws : List Cond) (rm : Room) (D : va_G) (tys : List (ClassId × FieldType)) (en : qE) (b n n1 mc ms : Nat) (av : List qV) (M : qM) (out : qM) : Prop := Met l y ws rm (va_Pc (av.map (qv b)) (qKn D tys en b n M)) (va_Qv (fun M' => M' = out) (fun M' t => qWn D en b n1 M' t.heap) (qB b)) mc ms (qB b)
theorem qn_call (hx : p.tables.exec = Jvm.exec) (hb : c.code = cc) {own : String} {index n1 mc ms k0 maxL : Nat} {y : MethodName} {bytes : ByteArray} {ws Ts : List Cond} {rm : Room} {tys : List (ClassId × FieldType)} {as st0 : List qV} {o : Nat} {M1 : qM} (hml : c.maxLocals = nL) (hown : s.vm.findClass own = some m.cls) (hts : ∀ w ∈ Ts, w.before args s = true) (hK : va_K D vwCl tys s) (hM : CTn l y ws rm D tys en b n n1 mc ms (qr (some o) :: as) M M1) (cw : CallB R s args own index y bytes maxL none ws rm mc ms k0 ∧ y.name = "<init>" ∧ (Cond.instanceMethod y).before args s = true) (hn : as.length = k0) (hst : st0 = as.reverse ++ qr (some o) :: st) (hl8 : st.length ≤ 8) (hf : cs + mc ≤ R.cells ∧ sl + ms ≤ R.slots) (d : decode cc pc = .ok (.invokespecial index, 3)) (k : QJ p l e R s m args below meth c (qB b) b nL (cs + mc) (sl + ms) Q (qWn D en b n1) M1 (pc + 3) L st) : QJ p l e R s m args below meth c (qB b) b nL cs sl Q (qWn D en b n) M pc L st0 := fun H locs ls P S hl =>
  va_callv (va_runI (Ts := Ts) (As := as.map (qv b)) (rest := st.map (qv b)) (b := b + o) ⟨hx, hb, hml, hown, hts⟩ hM cw ⟨fun a U g mk q => by
      obtain ⟨q0, q1, q2⟩ := q
      exact ⟨q0, q1, va_K.moved (u := U) (U := U.calling g mk a) (Vm.Alike.refl U.vm) q2⟩, fun U hU hW => ⟨rfl, by rw [hU]; exact P, va_K.moved hW.alike hK⟩⟩ rfl (by simp [hn]) hl.1 (by rw [hst]; simp [F0, qv, va_rf]) (lv_room (by rw [q_sum]; exact hl8)) d hf) S (fun q _ h => h) (fun q h => h) (fun u t H1 locs1 ht _ hp hB _ _ hS => by
      cases hp
      exact k H1 locs1 ls (by rw [← ht]; exact hB) hS hl)
theorem qn_callN (hx : p.tables.exec = Jvm.exec) (hb : c.code = cc) {own host : String} {index n1 mc ms k0 maxL : Nat} {y : MethodName} {bytes : ByteArray} {ws Ts : List Cond} {rm : Room} {tys : List (ClassId × FieldType)} {as st0 : List qV} {o : Nat} {M1 : qM} (hml : c.maxLocals = nL) (hown : s.vm.findClass own = some m.cls) (hts : ∀ w ∈ Ts, w.before args s = true) (hK : va_K D vwCl tys s) (hM : CTn l y ws rm D tys en b n n1 mc ms (qr (some o) :: as) M M1) (cw : va_CN R s args own index y host bytes maxL none ws rm mc ms k0 ∧ y.name = "<init>" ∧ (Cond.instanceMethod y).before args s = true) (hn : as.length = k0) (hst : st0 = as.reverse ++ qr (some o) :: st) (hl8 : st.length ≤ 8) (hf : cs + mc ≤ R.cells ∧ sl + ms ≤ R.slots) (d : decode cc pc = .ok (.invokespecial index, 3)) (k : QJ p l e R s m args below meth c (qB b) b nL (cs + mc) (sl + ms) Q (qWn D en b n1) M1 (pc + 3) L st) : QJ p l e R s m args below meth c (qB b) b nL cs sl Q (qWn D en b n) M pc L st0 := fun H locs ls P S hl =>
  va_callv (va_runIN (Ts := Ts) (As := as.map (qv b)) (rest := st.map (qv b)) (b := b + o) ⟨hx, hb, hml, hown, hts⟩ hM cw ⟨fun a U g mk q => by
      obtain ⟨q0, q1, q2⟩ := q
      exact ⟨q0, q1, va_K.moved (u := U) (U := U.calling g mk a) (Vm.Alike.refl U.vm) q2⟩, fun U hU hW => ⟨rfl, by rw [hU]; exact P, va_K.moved hW.alike hK⟩⟩ rfl (by simp [hn]) hl.1 (by rw [hst]; simp [F0, qv, va_rf]) (lv_room (by rw [q_sum]; exact hl8)) d hf) S (fun q _ h => h) (fun q h => h) (fun u t H1 locs1 ht _ hp hB _ _ hS => by
      cases hp
      exact k H1 locs1 ls (by rw [← ht]; exact hB) hS hl)
theorem qn_obj (hx : p.tables.exec = Jvm.exec) (hb : c.code = cc) {own : String} {idx o : Nat} (hml : c.maxLocals = nL) (hown : s.vm.findClass own = some m.cls) (hlink : (Cond.methodLink own idx Lib.objectInit).before args s = true) (hinst : (Cond.instanceMethod Lib.objectInit).before args s = true) (hcode : (Cond.code Lib.objectInit ⟨#[0xb1]⟩ 1 none).before args s = true) (d : decode cc pc = .ok (.invokespecial idx, 3)) (hframes : 1 ≤ R.frames) (hlocals : st.length + 12 ≤ R.locals) (k : QJ p l e R s m args below meth c (qB b) b nL cs sl Q (qWn D en b n) M (pc + 3) L st) : QJ p l e R s m args below meth c (qB b) b nL cs sl Q (qWn D en b n) M pc L (qr (some o) :: st) := fun H locs ls P S hl => by
  refine W.objInit hx hb hown hlink hinst hcode rfl (by rw [hml]; exact hl.1) rfl d hframes ?_ (k H locs ls P S hl)
  show 2 * 0 + ((st.map (qv b)).map fun v => v.category).sum + 12 ≤ R.locals
  rw [q_sum]
  omega
theorem qm_n {l : Launch} {tys : List (ClassId × FieldType)} {n1 mc ms : Nat} {av : List qV} {y : MethodName} {ws ws' : List Cond} {rm : Room} {out : qM} (hy : plainName y.cls = true) (hi : y.name = "<init>") (hw : ws = Cond.code y cc nL none :: ws') (hlen : av.length ≤ nL)
    (body : ∀ (p : Program) (e : Env) (s : State) (m : MethodId) (args : Array Value) (below : List Frame) (meth : Method) (c : Code) (Q : State → Prop), p.tables.exec = Jvm.exec → c.code = cc → (∀ w ∈ ws, w.before args s = true) → s.vm.findClass y.cls = some m.cls → c.maxLocals = nL → meth.name = "<init>" → va_K D vwCl tys s →
      (∀ (M : qM) (pc : Nat) (L : List (Nat × qV)), decode cc pc = .ok (.return_, 1) → M = out → QJ p l e rm s m args below meth c (qB b) b nL mc ms Q (qWn D en b n1) M pc L []) → QJ p l e rm s m args below meth c (qB b) b nL 0 0 Q (qWn D en b n) M 0 (qZ 0 av) []) : CTn l y ws rm D tys en b n n1 mc ms av M out := by
  refine Met.ofW (cc := cc) (maxL := nL) (ret := none) hy hw ?_
  intro p e s m args below meth c s₁ B hml hv
  obtain ⟨rfl, P, hK⟩ := hv
  rw [lg_entry_eq]
  refine body p e s m _ below meth c _ B.exec B.bytes (atoms_spec (ws := ws) B.pre) (findClass_of_methodNamed B.named) hml ((name_of_methodNamed B.named B.method).1.trans hi) hK ?_ s.heap [] _ P va_S.rf (by rw [← qZ_args]; exact lv_entry _ (by rw [qZ_len]; exact hlen))
  intro M pc L d ho H locs ls P S hl
  exact W.vret B.exec B.bytes B.returns (fun t ht _ => ⟨⟨M, rfl, ho, by show qWn D en b n1 M t.heap; rw [ht]; exact P⟩, S.F ht⟩) S.2.2 d B.notSynchronized
end QNS
