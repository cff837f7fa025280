/-! a forest by its lists of children, and its flat form: nodes with depths in document order -/
def Fn (kd : Nat → List Nat) : Nat → Nat → List Nat → List (Nat × Nat) → Prop
  | 0, _, is, out => is = [] ∧ out = []
  | m + 1, d, is, out => (is = [] ∧ out = []) ∨ ∃ i js L1 L2, is = i :: js ∧ out = (i, d) :: (L1 ++ L2) ∧ Fn kd m (d + 1) (kd i) L1 ∧ Fn kd m d js L2
def Fo (kd : Nat → List Nat) (d : Nat) (is : List Nat) (out : List (Nat × Nat)) : Prop := ∃ m, Fn kd m d is out
def fI (out : List (Nat × Nat)) : List Nat := out.map Prod.fst
theorem fI_app (a b : List (Nat × Nat)) : fI (a ++ b) = fI a ++ fI b := List.map_append
theorem fI_cons (q : Nat × Nat) (b : List (Nat × Nat)) : fI (q :: b) = q.1 :: fI b := rfl
theorem fI_nil : fI [] = [] := rfl
theorem fI_len (a : List (Nat × Nat)) : (fI a).length = a.length := List.length_map _
theorem fI_mem {a : List (Nat × Nat)} {x : Nat} : x ∈ fI a ↔ ∃ e, (x, e) ∈ a := by
  unfold fI
  rw [List.mem_map]
  constructor
  · rintro ⟨⟨y, e⟩, h, rfl⟩
    exact ⟨e, h⟩
  · rintro ⟨e, h⟩
    exact ⟨(x, e), h, rfl⟩
theorem Fn_mono {kd : Nat → List Nat} : ∀ {m d : Nat} {is : List Nat} {out : List (Nat × Nat)}, Fn kd m d is out → Fn kd (m + 1) d is out
  | 0, _, _, _, h => Or.inl h
  | m + 1, d, is, out, h => by
    rcases h with h | ⟨i, js, L1, L2, h1, h2, h3, h4⟩
    · exact Or.inl h
    · exact Or.inr ⟨i, js, L1, L2, h1, h2, Fn_mono h3, Fn_mono h4⟩
theorem Fn_add {kd : Nat → List Nat} {m d : Nat} {is : List Nat} {out : List (Nat × Nat)} (h : Fn kd m d is out) : ∀ k, Fn kd (m + k) d is out
  | 0 => h
  | k + 1 => Fn_mono (Fn_add h k)
theorem Fo_nil {kd : Nat → List Nat} {d : Nat} : Fo kd d [] [] := ⟨0, rfl, rfl⟩
theorem Fo_cons {kd : Nat → List Nat} {d i : Nat} {js : List Nat} {L1 L2 : List (Nat × Nat)} (h1 : Fo kd (d + 1) (kd i) L1) (h2 : Fo kd d js L2) : Fo kd d (i :: js) ((i, d) :: (L1 ++ L2)) := by
  obtain ⟨m1, h1⟩ := h1
  obtain ⟨m2, h2⟩ := h2
  refine ⟨m1 + m2 + 1, Or.inr ⟨i, js, L1, L2, rfl, rfl, Fn_add h1 m2, ?_⟩⟩
  rw [Nat.add_comm]
  exact Fn_add h2 m1
theorem Fo_ind {kd : Nat → List Nat} {P : Nat → List Nat → List (Nat × Nat) → Prop} (hn : ∀ d, P d [] []) (hc : ∀ d i js L1 L2, Fo kd (d + 1) (kd i) L1 → Fo kd d js L2 → P (d + 1) (kd i) L1 → P d js L2 → P d (i :: js) ((i, d) :: (L1 ++ L2))) {d : Nat} {is : List Nat} {out : List (Nat × Nat)} (h : Fo kd d is out) : P d is out := by
  obtain ⟨m, h⟩ := h
  induction m generalizing d is out with
  | zero =>
    obtain ⟨rfl, rfl⟩ := h
    exact hn d
  | succ m ih =>
    rcases h with ⟨rfl, rfl⟩ | ⟨i, js, L1, L2, rfl, rfl, h3, h4⟩
    · exact hn d
    · exact hc d i js L1 L2 ⟨m, h3⟩ ⟨m, h4⟩ (ih h3) (ih h4)
theorem Fo_nil_inv {kd : Nat → List Nat} {d : Nat} {out : List (Nat × Nat)} (h : Fo kd d [] out) : out = [] := by
  obtain ⟨m, h⟩ := h
  cases m with
  | zero => exact h.2
  | succ m =>
    rcases h with h | ⟨i, js, L1, L2, h1, _⟩
    · exact h.2
    · cases h1
theorem Fo_cons_inv {kd : Nat → List Nat} {d i : Nat} {js : List Nat} {out : List (Nat × Nat)} (h : Fo kd d (i :: js) out) : ∃ L1 L2, out = (i, d) :: (L1 ++ L2) ∧ Fo kd (d + 1) (kd i) L1 ∧ Fo kd d js L2 := by
  obtain ⟨m, h⟩ := h
  cases m with
  | zero => cases h.1
  | succ m =>
    rcases h with h | ⟨i', js', L1, L2, h1, h2, h3, h4⟩
    · cases h.1
    · cases h1
      exact ⟨L1, L2, h2, ⟨m, h3⟩, ⟨m, h4⟩⟩
theorem Fo_app {kd : Nat → List Nat} {d : Nat} {js : List Nat} {o2 : List (Nat × Nat)} (h2 : Fo kd d js o2) : ∀ {is : List Nat} {o1 : List (Nat × Nat)}, Fo kd d is o1 → Fo kd d (is ++ js) (o1 ++ o2)
  | [], o1, h => by
    rw [Fo_nil_inv h]
    exact h2
  | i :: is, o1, h => by
    obtain ⟨L1, L2, rfl, h3, h4⟩ := Fo_cons_inv h
    have := Fo_cons h3 (Fo_app h2 h4)
    rw [← List.append_assoc] at this
    exact this
theorem Fo_app_inv {kd : Nat → List Nat} {d : Nat} {js : List Nat} : ∀ {is : List Nat} {o : List (Nat × Nat)}, Fo kd d (is ++ js) o → ∃ o1 o2, o = o1 ++ o2 ∧ Fo kd d is o1 ∧ Fo kd d js o2
  | [], o, h => ⟨[], o, rfl, Fo_nil, h⟩
  | i :: is, o, h => by
    obtain ⟨L1, L2, rfl, h3, h4⟩ := Fo_cons_inv h
    obtain ⟨o1, o2, rfl, h5, h6⟩ := Fo_app_inv h4
    exact ⟨(i, d) :: (L1 ++ o1), o2, by simp, Fo_cons h3 h5, h6⟩
theorem Fo_congr {kd kd' : Nat → List Nat} {d : Nat} {is : List Nat} {out : List (Nat × Nat)} (h : Fo kd d is out) : (∀ i ∈ fI out, kd' i = kd i) → Fo kd' d is out := by
  refine Fo_ind (P := fun d is out => (∀ i ∈ fI out, kd' i = kd i) → Fo kd' d is out) (fun d _ => Fo_nil) (fun d i js L1 L2 _ _ p1 p2 q => ?_) h
  rw [fI_cons, fI_app] at q
  refine Fo_cons ?_ (p2 fun x hx => q x (by simp [hx]))
  rw [q i (by simp)]
  exact p1 fun x hx => q x (by simp [hx])
theorem Fo_ge {kd : Nat → List Nat} {d : Nat} {is : List Nat} {out : List (Nat × Nat)} (h : Fo kd d is out) : ∀ q ∈ out, d ≤ q.2 := by
  refine Fo_ind (P := fun d is out => ∀ q ∈ out, d ≤ q.2) (fun d q hq => by cases hq) (fun d i js L1 L2 _ _ p1 p2 q hq => ?_) h
  rcases List.mem_cons.mp hq with rfl | hq
  · exact Nat.le_refl d
  · rcases List.mem_append.mp hq with hq | hq
    · have := p1 q hq
      omega
    · exact p2 q hq
theorem Fo_head {kd : Nat → List Nat} {d : Nat} {is : List Nat} {out : List (Nat × Nat)} (h : Fo kd d is out) : ∀ q ∈ out.head?, q.2 = d := by
  cases is with
  | nil =>
    rw [Fo_nil_inv h]
    intro q hq
    cases hq
  | cons i js =>
    obtain ⟨L1, L2, rfl, _, _⟩ := Fo_cons_inv h
    intro q hq
    cases hq
    rfl
theorem Fo_sub {kd : Nat → List Nat} {d : Nat} {is : List Nat} {out : List (Nat × Nat)} (h : Fo kd d is out) : ∀ i ∈ is, (i, d) ∈ out := by
  refine Fo_ind (P := fun d is out => ∀ i ∈ is, (i, d) ∈ out) (fun d q hq => by cases hq) (fun d i js L1 L2 _ _ p1 p2 q hq => ?_) h
  rcases List.mem_cons.mp hq with rfl | hq
  · exact List.mem_cons_self
  · have := p2 q hq
    simp [this]
theorem Fo_kids {kd : Nat → List Nat} {d : Nat} {is : List Nat} {out : List (Nat × Nat)} (h : Fo kd d is out) : ∀ x ∈ fI out, ∀ y ∈ kd x, y ∈ fI out := by
  refine Fo_ind (P := fun d is out => ∀ x ∈ fI out, ∀ y ∈ kd x, y ∈ fI out) (fun d q hq => by cases hq) (fun d i js L1 L2 h1 _ p1 p2 x hx y hy => ?_) h
  rw [fI_cons, fI_app] at hx ⊢
  rcases List.mem_cons.mp hx with rfl | hx
  · have := fI_mem.mpr ⟨_, Fo_sub h1 y hy⟩
    simp [this]
  · rcases List.mem_append.mp hx with hx | hx
    · have := p1 x hx y hy
      simp [this]
    · have := p2 x hx y hy
      simp [this]
theorem Fo_par {kd : Nat → List Nat} {d : Nat} {is : List Nat} {out : List (Nat × Nat)} (h : Fo kd d is out) : ∀ y ∈ fI out, y ∈ is ∨ ∃ x ∈ fI out, y ∈ kd x := by
  refine Fo_ind (P := fun d is out => ∀ y ∈ fI out, y ∈ is ∨ ∃ x ∈ fI out, y ∈ kd x) (fun d q hq => by cases hq) (fun d i js L1 L2 h1 _ p1 p2 y hy => ?_) h
  rw [fI_cons, fI_app] at hy
  rcases List.mem_cons.mp hy with rfl | hy
  · exact Or.inl (by simp)
  · rcases List.mem_append.mp hy with hy | hy
    · rcases p1 y hy with h2 | ⟨x, h2, h3⟩
      · exact Or.inr ⟨i, by simp [fI_cons], h2⟩
      · exact Or.inr ⟨x, by simp [fI_cons, fI_app, h2], h3⟩
    · rcases p2 y hy with h2 | ⟨x, h2, h3⟩
      · exact Or.inl (by simp [h2])
      · exact Or.inr ⟨x, by simp [fI_cons, fI_app, h2], h3⟩
theorem Fo_shift {kd : Nat → List Nat} {d : Nat} {is : List Nat} {out : List (Nat × Nat)} (h : Fo kd d is out) : ∀ d', Fo kd d' is (out.map fun q => (q.1, q.2 - d + d')) := by
  refine Fo_ind (P := fun d is out => ∀ d', Fo kd d' is (out.map fun q => (q.1, q.2 - d + d'))) (fun d d' => Fo_nil) (fun d i js L1 L2 h1 _ p1 p2 d' => ?_) h
  have e : L1.map (fun q => (q.1, q.2 - d + d')) = L1.map (fun q => (q.1, q.2 - (d + 1) + (d' + 1))) := by
    refine List.map_congr_left fun q hq => ?_
    have := Fo_ge h1 q hq
    rw [show q.2 - d + d' = q.2 - (d + 1) + (d' + 1) by omega]
  rw [List.map_cons, List.map_append, e, Nat.sub_self, Nat.zero_add]
  exact Fo_cons (p1 (d' + 1)) (p2 d')
theorem Fo_idx {kd : Nat → List Nat} {d : Nat} {is : List Nat} {out : List (Nat × Nat)} (h : Fo kd d is out) : ∀ (k : Nat) (q : Nat × Nat), out[k]? = some q → q.2 ≤ d + k := by
  refine Fo_ind (P := fun d is out => ∀ (k : Nat) (q : Nat × Nat), out[k]? = some q → q.2 ≤ d + k) (fun d k q hq => by simp at hq) (fun d i js L1 L2 h1 _ p1 p2 k q hq => ?_) h
  cases k with
  | zero =>
    cases hq
    exact Nat.le_refl d
  | succ k =>
    rw [List.getElem?_cons_succ, List.getElem?_append] at hq
    split at hq
    · have := p1 k q hq
      omega
    · have := p2 _ q hq
      omega
/-- a node of the forest with what stands ahead of it, below it and behind it; what is below it may be put anew -/
theorem Fo_at {kd : Nat → List Nat} {d : Nat} {is : List Nat} {out : List (Nat × Nat)} (h : Fo kd d is out) : ∀ p ∈ fI out, ∃ A S B e, out = A ++ (p, e) :: (S ++ B) ∧ Fo kd (e + 1) (kd p) S ∧ d ≤ e ∧ (∀ q ∈ B.head?, q.2 ≤ e) ∧ ∀ kd' S', (∀ i ∈ fI A, kd' i = kd i) → (∀ i ∈ fI B, kd' i = kd i) → Fo kd' (e + 1) (kd' p) S' → Fo kd' d is (A ++ (p, e) :: (S' ++ B)) := by
  refine Fo_ind (P := fun d is out => ∀ p ∈ fI out, ∃ A S B e, out = A ++ (p, e) :: (S ++ B) ∧ Fo kd (e + 1) (kd p) S ∧ d ≤ e ∧ (∀ q ∈ B.head?, q.2 ≤ e) ∧ ∀ kd' S', (∀ i ∈ fI A, kd' i = kd i) → (∀ i ∈ fI B, kd' i = kd i) → Fo kd' (e + 1) (kd' p) S' → Fo kd' d is (A ++ (p, e) :: (S' ++ B))) (fun d q hq => by cases hq) (fun d i js L1 L2 h1 h2 p1 p2 p hp => ?_) h
  rw [fI_cons, fI_app] at hp
  rcases List.mem_cons.mp hp with rfl | hp
  · refine ⟨[], L1, L2, d, rfl, h1, Nat.le_refl d, fun q hq => Nat.le_of_eq (Fo_head h2 q hq), fun kd' S' _ hB hS => ?_⟩
    exact Fo_cons hS (Fo_congr h2 hB)
  · rcases List.mem_append.mp hp with hp | hp
    · obtain ⟨A, S, B, e, rfl, g1, g2, g3, g4⟩ := p1 p hp
      refine ⟨(i, d) :: A, S, B ++ L2, e, by simp, g1, by omega, fun q hq => ?_, fun kd' S' hA hB hS => ?_⟩
      · cases B with
        | nil =>
          have := Fo_head h2 q hq
          omega
        | cons b B => exact g3 q hq
      · have e1 := Fo_cons (kd := kd') (i := i) (d := d) (js := js) (L1 := A ++ (p, e) :: (S' ++ B)) (L2 := L2) (by
          rw [hA i (by simp [fI_cons])]
          exact g4 kd' S' (fun x hx => hA x (by simp [fI_cons, hx])) (fun x hx => hB x (by simp [fI_app, hx])) hS) (Fo_congr h2 fun x hx => hB x (by simp [fI_app, hx]))
        simpa using e1
    · obtain ⟨A, S, B, e, rfl, g1, g2, g3, g4⟩ := p2 p hp
      refine ⟨(i, d) :: (L1 ++ A), S, B, e, by simp, g1, g2, g3, fun kd' S' hA hB hS => ?_⟩
      have e1 := Fo_cons (kd := kd') (i := i) (d := d) (js := js) (L1 := L1) (L2 := A ++ (p, e) :: (S' ++ B)) (by
          rw [hA i (by simp [fI_cons])]
          exact Fo_congr h1 fun x hx => hA x (by simp [fI_cons, fI_app, hx])) (g4 kd' S' (fun x hx => hA x (by simp [fI_cons, fI_app, hx])) hB hS)
      simpa using e1
theorem nd_inj {l : List Nat} (nd : l.Nodup) {i j x : Nat} (h1 : l[i]? = some x) (h2 : l[j]? = some x) : i = j := by
  obtain ⟨a1, a2⟩ := List.getElem?_eq_some_iff.mp h1
  obtain ⟨b1, b2⟩ := List.getElem?_eq_some_iff.mp h2
  rcases Nat.lt_trichotomy i j with h | h | h
  · exact absurd (a2.trans b2.symm) (List.pairwise_iff_getElem.mp nd i j a1 b1 h)
  · exact h
  · exact absurd (b2.trans a2.symm) (List.pairwise_iff_getElem.mp nd j i b1 a1 h)
theorem fI_get {l : List (Nat × Nat)} {k i e : Nat} (h : l[k]? = some (i, e)) : (fI l)[k]? = some i := by
  unfold fI
  rw [List.getElem?_map, h]
  rfl
