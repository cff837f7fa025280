def f_ixF (c : Int32) : List Int32 → Nat → Int32
  | [], _ => -1
  | x :: l, k => if x = c then nI k else f_ixF c l (k + 1)
def f_indexOf (n : Nat) (c : Int32) : Option Int32 := if n < 12 then some (f_ixF c (bytS.getD n []) 0) else none
abbrev rm_ix : Room := { frames := 9, cells := 0, slots := 0, locals := 400 }
abbrev rm_fill : Room := { frames := 0, cells := 0, slots := 0, locals := 0 }
def f_fillL (len : Int32) (n o : Nat) (x : Int32) : Nat → Int32 → qM → Option qM
  | 0, _, _ => none
  | d + 1, i, M => if len ≤ i then some M else q_ix i n <| q_lt (qsI M o i.toNatClampNeg x) fun M1 => f_fillL len n o x d (i + 1) M1
def f_fill (n o : Nat) (x : Int32) (M : qM) : Option qM := f_fillL (nI n) n o x 1000 0 M
theorem c_String_indexOf {l : Launch} {D : va_G} {tys : List (ClassId × FieldType)} {en : qE} {K b : Nat} {adK adV : Nat → Nat} {M : qM} (n : Nat) (x out : Int32) (hf : f_indexOf n x = some out) : CTi l y_String_indexOf w_String_indexOf rm_ix D tys en K b (qX adK adV K b) [qa (adK n), qi x] M (out, M) := by
  sorry
theorem c_Arrays_fill {l : Launch} {D : va_G} {dA : Nat → ClassId} {en : qE} {K b : Nat} {X : State → Prop} {M out : qM} {n o : Nat} {x : Int32} (ho : o < K) (he : ∀ f g, en o f g = .inl (dA 0, n, .inl f)) (hf : f_fill n o x M = some out) : CTv l y_Arrays_fill w_Arrays_fill rm_fill D (tysX dA) en K b X [qr (some o), qi x] M out := by
  sorry
section QCJ
variable {p : Program} {l : Launch} {e : Env} {R : Room} {s : State} {m : MethodId} {args : Array Value} {below : List Frame} {meth : Method} {c : Code} {D : va_G} {tys : List (ClassId × FieldType)} {en : qE} {K b nL : Nat} {Q : State → Prop} {X : State → Prop} {M M1 : qM} {pc : Nat} {L : List (Nat × qV)} {st st0 : List qV} {cc : ByteArray} {own : String} {index : Nat} {adK adV : Nat → Nat}
theorem qc_ix (hx : p.tables.exec = Jvm.exec) (hb : c.code = cc) {n : Nat} {x out : Int32} (hml : c.maxLocals = nL) (hown : s.vm.findClass own = some m.cls) (hts : ∀ w ∈ lw_g, w.before args s = true) (hK : va_K D vwCl tys s) (hs : qX adK adV K b s) (hl0 : (Cond.methodLink own index y_String_indexOf).before args s = true) (hf : f_indexOf n x = some out) (hst : st0 = qi x :: qa (adK n) :: st) (hl8 : st.length ≤ 8) (hR : rm_ix.frames + 1 ≤ R.frames ∧ 8 + (2 + 11) + rm_ix.locals ≤ R.locals) (d : decode cc pc = .ok (.invokevirtual index, 3)) (k : QJ p l e R s m args below meth c (qA K b) b nL 0 0 Q (qWd D en K b) M (pc + 3) L (qi out :: st)) : QJ p l e R s m args below meth c (qA K b) b nL 0 0 Q (qWd D en K b) M pc L st0 := fun H locs ls P S hl => by
  have hn : n < 12 := by
    unfold f_indexOf at hf
    by_cases h : n < 12
    · exact h
    · rw [if_neg h] at hf; cases hf
  refine va_calli (va_runV (Ts := lw_g) (C := "java/lang/String") (As := [.int x]) (rest := st.map (qv b)) (b := adK n) ⟨hx, hb, hml, hown, hts⟩ (c_String_indexOf n x out hf) ⟨callB_of 1 hts (q_good tw_737) rfl rfl rfl (hts _ tw_738) hl0 (by decide +kernel) hR, hts _ tw_739, hts _ tw_740⟩ ⟨q_blind (qX_ok _ _ _ _), vk_recv hs.1 hn S, q_pre (av := [qa (adK n), qi x]) (qX_ok _ _ _ _) hs hK P.1 P.2 S⟩ rfl rfl hl.1 (by rw [hst]; rfl) (lv_room (by rw [q_sum]; exact hl8)) d ⟨Nat.zero_le _, Nat.zero_le _⟩) S (fun q _ h => h) (fun q h => h) (fun r u t H1 locs1 ht _ hp hB _ _ hS => ?_)
  cases hp
  exact k H1 locs1 ls ⟨hB.1, by rw [← ht]; exact hB.2⟩ hS hl
theorem qc_fill {dA : Nat → ClassId} (hx : p.tables.exec = Jvm.exec) (hb : c.code = cc) {n o : Nat} {x : Int32} (hml : c.maxLocals = nL) (hown : s.vm.findClass own = some m.cls) (hts : ∀ w ∈ lw_g, w.before args s = true) (hK : va_K D vwCl (tysX dA) s) (hX : qXok K b X) (hs : X s) (ho : o < K) (he : ∀ f g, en o f g = .inl (dA 0, n, .inl f)) (hl0 : (Cond.methodLink own index y_Arrays_fill).before args s = true) (hf : f_fill n o x M = some M1) (hst : st0 = qi x :: qr (some o) :: st) (hl8 : st.length ≤ 8) (hR : rm_fill.frames + 1 ≤ R.frames ∧ 8 + (4 + 11) + rm_fill.locals ≤ R.locals) (d : decode cc pc = .ok (.invokestatic index, 3)) (k : QJ p l e R s m args below meth c (qA K b) b nL 0 0 Q (qWd D en K b) M1 (pc + 3) L st) : QJ p l e R s m args below meth c (qA K b) b nL 0 0 Q (qWd D en K b) M pc L st0 :=
  qc_Sv (y := y_Arrays_fill) (ws := w_Arrays_fill) (rm := rm_fill) (bytes := prog_20_method_103_code) (maxL := 4) (ret := none) (n := 2) hx hb hml hown hts hK hX hs (c_Arrays_fill ho he hf) ⟨callB_of 2 hts (q_good tw_741) rfl rfl rfl (hts _ tw_742) hl0 (by decide +kernel) hR, hts _ tw_743⟩ rfl hst hl8 d k
end QCJ
