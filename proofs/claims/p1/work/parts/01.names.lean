def lw_g : List Cond := lw_tbl.filter goodWord
theorem q_g {w : Cond} (h : w ∈ lw_tbl) (hg : goodWord w = true) : w ∈ lw_g := List.mem_filter.mpr ⟨h, hg⟩
theorem q_good {c : Cond} (h : c ∈ lw_g) : GoodIn lw_g (c :: lw_g) := fun w hw => by
  have hm : w ∈ lw_g := by
    rcases List.mem_cons.mp hw with e | e
    · rw [e]; exact h
    · exact e
  exact ⟨hm, good_of_word (List.mem_filter.mp hm).2⟩
def T_0 : u_T := fun k => match k with
  | 0 => ("PlainPage$Box", "isThere", "Z", false)
  | 1 => ("PlainPage$Box", "left", "I", false)
  | 2 => ("PlainPage$Box", "top", "I", false)
  | 3 => ("PlainPage$Box", "width", "I", false)
  | 4 => ("PlainPage$Box", "height", "I", false)
  | 5 => ("PlainPage$Box", "contentLeft", "I", false)
  | 6 => ("PlainPage$Box", "contentTop", "I", false)
  | 7 => ("PlainPage$Box", "contentWidth", "I", false)
  | 8 => ("PlainPage$Box", "end", "I", false)
  | _ => ("PlainPage$Box", "last", "I", false)
def ty_0 : Nat → FieldType := fun k => match k with
  | 0 => .boolean
  | 1 => .int
  | 2 => .int
  | 3 => .int
  | 4 => .int
  | 5 => .int
  | 6 => .int
  | 7 => .int
  | 8 => .int
  | _ => .int
theorem nm_0 : ∀ a, a < 10 → ∀ b, b < 10 → a ≠ b → (T_0 a).2.1 ≠ (T_0 b).2.1 := by decide +kernel
theorem tyok_0 : ∀ k, k < 10 → parseFieldDescriptor (T_0 k).2.2.1 = some (ty_0 k) := by decide +kernel
theorem hin_0 : ∀ w ∈ u_ws "PlainPage$Box" T_0 10, w ∈ lw_g := by
  have h : ∀ w ∈ u_ws "PlainPage$Box" T_0 10, w ∈ lw_tbl ∧ goodWord w = true := by decide +kernel
  exact fun w hw => q_g (h w hw).1 (h w hw).2
def T_1 : u_T := fun k => match k with
  | 0 => ("PlainPage$FormattingList", "items", "[LPlainPage$Node;", true)
  | _ => ("PlainPage$FormattingList", "size", "I", false)
def ty_1 : Nat → FieldType := fun k => match k with
  | 0 => .array (.object "PlainPage$Node")
  | _ => .int
theorem nm_1 : ∀ a, a < 2 → ∀ b, b < 2 → a ≠ b → (T_1 a).2.1 ≠ (T_1 b).2.1 := by decide +kernel
theorem tyok_1 : ∀ k, k < 2 → parseFieldDescriptor (T_1 k).2.2.1 = some (ty_1 k) := by decide +kernel
theorem hin_1 : ∀ w ∈ u_ws "PlainPage$FormattingList" T_1 2, w ∈ lw_g := by
  have h : ∀ w ∈ u_ws "PlainPage$FormattingList" T_1 2, w ∈ lw_tbl ∧ goodWord w = true := by decide +kernel
  exact fun w hw => q_g (h w hw).1 (h w hw).2
def T_2 : u_T := fun k => match k with
  | 0 => ("PlainPage$Letter", "code", "I", false)
  | 1 => ("PlainPage$Letter", "next", "LPlainPage$Letter;", false)
  | 2 => ("PlainPage$Letter", "hasPlace", "Z", false)
  | 3 => ("PlainPage$Letter", "size", "I", false)
  | 4 => ("PlainPage$Letter", "left", "I", false)
  | _ => ("PlainPage$Letter", "top", "I", false)
def ty_2 : Nat → FieldType := fun k => match k with
  | 0 => .int
  | 1 => .object "PlainPage$Letter"
  | 2 => .boolean
  | 3 => .int
  | 4 => .int
  | _ => .int
theorem nm_2 : ∀ a, a < 6 → ∀ b, b < 6 → a ≠ b → (T_2 a).2.1 ≠ (T_2 b).2.1 := by decide +kernel
theorem tyok_2 : ∀ k, k < 6 → parseFieldDescriptor (T_2 k).2.2.1 = some (ty_2 k) := by decide +kernel
theorem hin_2 : ∀ w ∈ u_ws "PlainPage$Letter" T_2 6, w ∈ lw_g := by
  have h : ∀ w ∈ u_ws "PlainPage$Letter" T_2 6, w ∈ lw_tbl ∧ goodWord w = true := by decide +kernel
  exact fun w hw => q_g (h w hw).1 (h w hw).2
def T_3 : u_T := fun k => match k with
  | 0 => ("PlainPage$Node", "name", "I", false)
  | 1 => ("PlainPage$Node", "classes", "I", false)
  | 2 => ("PlainPage$Node", "number", "I", false)
  | 3 => ("PlainPage$Node", "isOpen", "Z", false)
  | 4 => ("PlainPage$Node", "parent", "LPlainPage$Node;", false)
  | 5 => ("PlainPage$Node", "first", "LPlainPage$Node;", false)
  | 6 => ("PlainPage$Node", "last", "LPlainPage$Node;", false)
  | 7 => ("PlainPage$Node", "before", "LPlainPage$Node;", false)
  | 8 => ("PlainPage$Node", "after", "LPlainPage$Node;", false)
  | 9 => ("PlainPage$Node", "firstLetter", "LPlainPage$Letter;", false)
  | 10 => ("PlainPage$Node", "lastLetter", "LPlainPage$Letter;", false)
  | 11 => ("PlainPage$Node", "list", "LPlainPage$FormattingList;", true)
  | 12 => ("PlainPage$Node", "values", "[I", true)
  | _ => ("PlainPage$Node", "box", "LPlainPage$Box;", true)
def ty_3 : Nat → FieldType := fun k => match k with
  | 0 => .int
  | 1 => .int
  | 2 => .int
  | 3 => .boolean
  | 4 => .object "PlainPage$Node"
  | 5 => .object "PlainPage$Node"
  | 6 => .object "PlainPage$Node"
  | 7 => .object "PlainPage$Node"
  | 8 => .object "PlainPage$Node"
  | 9 => .object "PlainPage$Letter"
  | 10 => .object "PlainPage$Letter"
  | 11 => .object "PlainPage$FormattingList"
  | 12 => .array (.int)
  | _ => .object "PlainPage$Box"
theorem nm_3 : ∀ a, a < 14 → ∀ b, b < 14 → a ≠ b → (T_3 a).2.1 ≠ (T_3 b).2.1 := by decide +kernel
theorem tyok_3 : ∀ k, k < 14 → parseFieldDescriptor (T_3 k).2.2.1 = some (ty_3 k) := by decide +kernel
theorem hin_3 : ∀ w ∈ u_ws "PlainPage$Node" T_3 14, w ∈ lw_g := by
  have h : ∀ w ∈ u_ws "PlainPage$Node" T_3 14, w ∈ lw_tbl ∧ goodWord w = true := by decide +kernel
  exact fun w hw => q_g (h w hw).1 (h w hw).2
def T_4 : u_T := fun k => match k with
  | 0 => ("PlainPage$OpenStack", "items", "[LPlainPage$Node;", true)
  | _ => ("PlainPage$OpenStack", "size", "I", false)
def ty_4 : Nat → FieldType := fun k => match k with
  | 0 => .array (.object "PlainPage$Node")
  | _ => .int
theorem nm_4 : ∀ a, a < 2 → ∀ b, b < 2 → a ≠ b → (T_4 a).2.1 ≠ (T_4 b).2.1 := by decide +kernel
theorem tyok_4 : ∀ k, k < 2 → parseFieldDescriptor (T_4 k).2.2.1 = some (ty_4 k) := by decide +kernel
theorem hin_4 : ∀ w ∈ u_ws "PlainPage$OpenStack" T_4 2, w ∈ lw_g := by
  have h : ∀ w ∈ u_ws "PlainPage$OpenStack" T_4 2, w ∈ lw_tbl ∧ goodWord w = true := by decide +kernel
  exact fun w hw => q_g (h w hw).1 (h w hw).2
def T_5 : u_T := fun k => match k with
  | 0 => ("PlainPage$Tree", "pool", "[LPlainPage$Node;", true)
  | 1 => ("PlainPage$Tree", "order", "[LPlainPage$Node;", true)
  | 2 => ("PlainPage$Tree", "letters", "[LPlainPage$Letter;", true)
  | 3 => ("PlainPage$Tree", "stack", "LPlainPage$OpenStack;", true)
  | 4 => ("PlainPage$Tree", "root", "LPlainPage$Node;", true)
  | 5 => ("PlainPage$Tree", "used", "I", false)
  | 6 => ("PlainPage$Tree", "usedLetters", "I", false)
  | _ => ("PlainPage$Tree", "broken", "Z", false)
def ty_5 : Nat → FieldType := fun k => match k with
  | 0 => .array (.object "PlainPage$Node")
  | 1 => .array (.object "PlainPage$Node")
  | 2 => .array (.object "PlainPage$Letter")
  | 3 => .object "PlainPage$OpenStack"
  | 4 => .object "PlainPage$Node"
  | 5 => .int
  | 6 => .int
  | _ => .boolean
theorem nm_5 : ∀ a, a < 8 → ∀ b, b < 8 → a ≠ b → (T_5 a).2.1 ≠ (T_5 b).2.1 := by decide +kernel
theorem tyok_5 : ∀ k, k < 8 → parseFieldDescriptor (T_5 k).2.2.1 = some (ty_5 k) := by decide +kernel
theorem hin_5 : ∀ w ∈ u_ws "PlainPage$Tree" T_5 8, w ∈ lw_g := by
  have h : ∀ w ∈ u_ws "PlainPage$Tree" T_5 8, w ∈ lw_tbl ∧ goodWord w = true := by decide +kernel
  exact fun w hw => q_g (h w hw).1 (h w hw).2
def T_6 : u_T := fun k => match k with
  | 0 => ("PlainPage$Typist", "state", "I", false)
  | 1 => ("PlainPage$Typist", "heldLetter", "I", false)
  | 2 => ("PlainPage$Typist", "tagName", "I", false)
  | _ => ("PlainPage$Typist", "tagClasses", "I", false)
def ty_6 : Nat → FieldType := fun k => match k with
  | 0 => .int
  | 1 => .int
  | 2 => .int
  | _ => .int
theorem nm_6 : ∀ a, a < 4 → ∀ b, b < 4 → a ≠ b → (T_6 a).2.1 ≠ (T_6 b).2.1 := by decide +kernel
theorem tyok_6 : ∀ k, k < 4 → parseFieldDescriptor (T_6 k).2.2.1 = some (ty_6 k) := by decide +kernel
theorem hin_6 : ∀ w ∈ u_ws "PlainPage$Typist" T_6 4, w ∈ lw_g := by
  have h : ∀ w ∈ u_ws "PlainPage$Typist" T_6 4, w ∈ lw_tbl ∧ goodWord w = true := by decide +kernel
  exact fun w hw => q_g (h w hw).1 (h w hw).2
def T_7 : u_T := fun k => match k with
  | 0 => ("PlainPage$Rule", "partName", "[I", true)
  | 1 => ("PlainPage$Rule", "partClasses", "[I", true)
  | 2 => ("PlainPage$Rule", "partIsDirect", "[Z", true)
  | 3 => ("PlainPage$Rule", "plain", "[I", true)
  | 4 => ("PlainPage$Rule", "important", "[I", true)
  | 5 => ("PlainPage$Rule", "parts", "I", false)
  | 6 => ("PlainPage$Rule", "capitals", "I", false)
  | 7 => ("PlainPage$Rule", "smalls", "I", false)
  | _ => ("PlainPage$Rule", "cursor", "I", false)
def ty_7 : Nat → FieldType := fun k => match k with
  | 0 => .array (.int)
  | 1 => .array (.int)
  | 2 => .array (.boolean)
  | 3 => .array (.int)
  | 4 => .array (.int)
  | 5 => .int
  | 6 => .int
  | 7 => .int
  | _ => .int
theorem nm_7 : ∀ a, a < 9 → ∀ b, b < 9 → a ≠ b → (T_7 a).2.1 ≠ (T_7 b).2.1 := by decide +kernel
theorem tyok_7 : ∀ k, k < 9 → parseFieldDescriptor (T_7 k).2.2.1 = some (ty_7 k) := by decide +kernel
theorem hin_7 : ∀ w ∈ u_ws "PlainPage$Rule" T_7 9, w ∈ lw_g := by
  have h : ∀ w ∈ u_ws "PlainPage$Rule" T_7 9, w ∈ lw_tbl ∧ goodWord w = true := by decide +kernel
  exact fun w hw => q_g (h w hw).1 (h w hw).2
def T_8 : u_T := fun k => match k with
  | 0 => ("PlainPage$Sheet", "all", "[LPlainPage$Rule;", true)
  | 1 => ("PlainPage$Sheet", "fitting", "[Z", true)
  | 2 => ("PlainPage$Sheet", "held", "[C", true)
  | 3 => ("PlainPage$Sheet", "heldLength", "I", false)
  | 4 => ("PlainPage$Sheet", "inBody", "Z", false)
  | 5 => ("PlainPage$Sheet", "selectorIsRight", "Z", false)
  | _ => ("PlainPage$Sheet", "ruleCount", "I", false)
def ty_8 : Nat → FieldType := fun k => match k with
  | 0 => .array (.object "PlainPage$Rule")
  | 1 => .array (.boolean)
  | 2 => .array (.char)
  | 3 => .int
  | 4 => .boolean
  | 5 => .boolean
  | _ => .int
theorem nm_8 : ∀ a, a < 7 → ∀ b, b < 7 → a ≠ b → (T_8 a).2.1 ≠ (T_8 b).2.1 := by decide +kernel
theorem tyok_8 : ∀ k, k < 7 → parseFieldDescriptor (T_8 k).2.2.1 = some (ty_8 k) := by decide +kernel
theorem hin_8 : ∀ w ∈ u_ws "PlainPage$Sheet" T_8 7, w ∈ lw_g := by
  have h : ∀ w ∈ u_ws "PlainPage$Sheet" T_8 7, w ∈ lw_tbl ∧ goodWord w = true := by decide +kernel
  exact fun w hw => q_g (h w hw).1 (h w hw).2
def T_9 : u_T := fun k => match k with
  | 0 => ("PlainPage$Run", "row", "[LPlainPage$Letter;", true)
  | 1 => ("PlainPage$Run", "lineStart", "I", false)
  | 2 => ("PlainPage$Run", "wordStart", "I", false)
  | 3 => ("PlainPage$Run", "rowEnd", "I", false)
  | 4 => ("PlainPage$Run", "left", "I", false)
  | 5 => ("PlainPage$Run", "width", "I", false)
  | 6 => ("PlainPage$Run", "usedWidth", "I", false)
  | 7 => ("PlainPage$Run", "wordWidth", "I", false)
  | 8 => ("PlainPage$Run", "lineHeight", "I", false)
  | 9 => ("PlainPage$Run", "gap", "I", false)
  | 10 => ("PlainPage$Run", "hasLines", "Z", false)
  | 11 => ("PlainPage$Run", "top", "I", false)
  | _ => ("PlainPage$Run", "allLines", "I", false)
def ty_9 : Nat → FieldType := fun k => match k with
  | 0 => .array (.object "PlainPage$Letter")
  | 1 => .int
  | 2 => .int
  | 3 => .int
  | 4 => .int
  | 5 => .int
  | 6 => .int
  | 7 => .int
  | 8 => .int
  | 9 => .int
  | 10 => .boolean
  | 11 => .int
  | _ => .int
theorem nm_9 : ∀ a, a < 13 → ∀ b, b < 13 → a ≠ b → (T_9 a).2.1 ≠ (T_9 b).2.1 := by decide +kernel
theorem tyok_9 : ∀ k, k < 13 → parseFieldDescriptor (T_9 k).2.2.1 = some (ty_9 k) := by decide +kernel
theorem hin_9 : ∀ w ∈ u_ws "PlainPage$Run" T_9 13, w ∈ lw_g := by
  have h : ∀ w ∈ u_ws "PlainPage$Run" T_9 13, w ∈ lw_tbl ∧ goodWord w = true := by decide +kernel
  exact fun w hw => q_g (h w hw).1 (h w hw).2
def T_10 : u_T := fun k => match k with
  | 0 => ("PlainPage$Layout", "run", "LPlainPage$Run;", true)
  | _ => ("PlainPage$Layout", "width", "I", false)
def ty_10 : Nat → FieldType := fun k => match k with
  | 0 => .object "PlainPage$Run"
  | _ => .int
theorem nm_10 : ∀ a, a < 2 → ∀ b, b < 2 → a ≠ b → (T_10 a).2.1 ≠ (T_10 b).2.1 := by decide +kernel
theorem tyok_10 : ∀ k, k < 2 → parseFieldDescriptor (T_10 k).2.2.1 = some (ty_10 k) := by decide +kernel
theorem hin_10 : ∀ w ∈ u_ws "PlainPage$Layout" T_10 2, w ∈ lw_g := by
  have h : ∀ w ∈ u_ws "PlainPage$Layout" T_10 2, w ∈ lw_tbl ∧ goodWord w = true := by decide +kernel
  exact fun w hw => q_g (h w hw).1 (h w hw).2
def T_11 : u_T := fun k => match k with
  | 0 => ("PlainPage", "tree", "LPlainPage$Tree;", true)
  | 1 => ("PlainPage", "typist", "LPlainPage$Typist;", true)
  | 2 => ("PlainPage", "sheet", "LPlainPage$Sheet;", true)
  | 3 => ("PlainPage", "page", "LPlainPage$Layout;", true)
  | 4 => ("PlainPage", "textLength", "I", false)
  | 5 => ("PlainPage", "sheetLength", "I", false)
  | 6 => ("PlainPage", "dressed", "Z", false)
  | _ => ("PlainPage", "laidOut", "Z", false)
def ty_11 : Nat → FieldType := fun k => match k with
  | 0 => .object "PlainPage$Tree"
  | 1 => .object "PlainPage$Typist"
  | 2 => .object "PlainPage$Sheet"
  | 3 => .object "PlainPage$Layout"
  | 4 => .int
  | 5 => .int
  | 6 => .boolean
  | _ => .boolean
theorem nm_11 : ∀ a, a < 8 → ∀ b, b < 8 → a ≠ b → (T_11 a).2.1 ≠ (T_11 b).2.1 := by decide +kernel
theorem tyok_11 : ∀ k, k < 8 → parseFieldDescriptor (T_11 k).2.2.1 = some (ty_11 k) := by decide +kernel
theorem hin_11 : ∀ w ∈ u_ws "PlainPage" T_11 8, w ∈ lw_g := by
  have h : ∀ w ∈ u_ws "PlainPage" T_11 8, w ∈ lw_tbl ∧ goodWord w = true := by decide +kernel
  exact fun w hw => q_g (h w hw).1 (h w hw).2
def T_12 : u_T := fun k => match k with
  | 0 => ("PlainPageModel", "typed", "I", false)
  | 1 => ("PlainPageModel", "text", "[I", false)
  | 2 => ("PlainPageModel", "styled", "I", false)
  | 3 => ("PlainPageModel", "sheet", "[I", false)
  | 4 => ("PlainPageModel", "broken", "Z", false)
  | 5 => ("PlainPageModel", "count", "I", false)
  | 6 => ("PlainPageModel", "order", "[I", false)
  | 7 => ("PlainPageModel", "made", "I", false)
  | 8 => ("PlainPageModel", "nameOf", "[I", false)
  | 9 => ("PlainPageModel", "classesOf", "[I", false)
  | 10 => ("PlainPageModel", "depthOf", "[I", false)
  | 11 => ("PlainPageModel", "moved", "[I", false)
  | 12 => ("PlainPageModel", "stack", "[I", false)
  | 13 => ("PlainPageModel", "height", "I", false)
  | 14 => ("PlainPageModel", "entry", "[I", false)
  | 15 => ("PlainPageModel", "entryOf", "[I", false)
  | 16 => ("PlainPageModel", "entries", "I", false)
  | 17 => ("PlainPageModel", "chars", "I", false)
  | 18 => ("PlainPageModel", "codeOf", "[I", false)
  | 19 => ("PlainPageModel", "textOf", "[I", false)
  | 20 => ("PlainPageModel", "placeAt", "I", false)
  | 21 => ("PlainPageModel", "placeDepth", "I", false)
  | 22 => ("PlainPageModel", "ruleCount", "I", false)
  | 23 => ("PlainPageModel", "partName", "[I", false)
  | 24 => ("PlainPageModel", "partClasses", "[I", false)
  | 25 => ("PlainPageModel", "direct", "[Z", false)
  | 26 => ("PlainPageModel", "parts", "[I", false)
  | 27 => ("PlainPageModel", "capitals", "[I", false)
  | 28 => ("PlainPageModel", "smalls", "[I", false)
  | 29 => ("PlainPageModel", "bodyFrom", "[I", false)
  | 30 => ("PlainPageModel", "bodyTo", "[I", false)
  | 31 => ("PlainPageModel", "word", "[I", false)
  | 32 => ("PlainPageModel", "wordLength", "I", false)
  | 33 => ("PlainPageModel", "up", "[I", false)
  | 34 => ("PlainPageModel", "fits", "[Z", false)
  | 35 => ("PlainPageModel", "key", "[I", false)
  | 36 => ("PlainPageModel", "value", "[I", false)
  | 37 => ("PlainPageModel", "laid", "Z", false)
  | 38 => ("PlainPageModel", "wide", "I", false)
  | 39 => ("PlainPageModel", "lineCount", "I", false)
  | 40 => ("PlainPageModel", "hidden", "[Z", false)
  | 41 => ("PlainPageModel", "boxed", "[Z", false)
  | 42 => ("PlainPageModel", "holder", "[I", false)
  | 43 => ("PlainPageModel", "left", "[I", false)
  | 44 => ("PlainPageModel", "inner", "[I", false)
  | 45 => ("PlainPageModel", "tall", "[I", false)
  | 46 => ("PlainPageModel", "top", "[I", false)
  | 47 => ("PlainPageModel", "put", "[Z", false)
  | 48 => ("PlainPageModel", "charX", "[I", false)
  | 49 => ("PlainPageModel", "charY", "[I", false)
  | 50 => ("PlainPageModel", "charBox", "[I", false)
  | 51 => ("PlainPageModel", "run", "[I", false)
  | 52 => ("PlainPageModel", "runLength", "I", false)
  | 53 => ("PlainPageModel", "lineTop", "I", false)
  | 54 => ("PlainPageModel", "lineFrom", "I", false)
  | 55 => ("PlainPageModel", "lineWidth", "I", false)
  | 56 => ("PlainPageModel", "lineHeight", "I", false)
  | _ => ("PlainPageModel", "lineHas", "Z", false)
def ty_12 : Nat → FieldType := fun k => match k with
  | 0 => .int
  | 1 => .array (.int)
  | 2 => .int
  | 3 => .array (.int)
  | 4 => .boolean
  | 5 => .int
  | 6 => .array (.int)
  | 7 => .int
  | 8 => .array (.int)
  | 9 => .array (.int)
  | 10 => .array (.int)
  | 11 => .array (.int)
  | 12 => .array (.int)
  | 13 => .int
  | 14 => .array (.int)
  | 15 => .array (.int)
  | 16 => .int
  | 17 => .int
  | 18 => .array (.int)
  | 19 => .array (.int)
  | 20 => .int
  | 21 => .int
  | 22 => .int
  | 23 => .array (.int)
  | 24 => .array (.int)
  | 25 => .array (.boolean)
  | 26 => .array (.int)
  | 27 => .array (.int)
  | 28 => .array (.int)
  | 29 => .array (.int)
  | 30 => .array (.int)
  | 31 => .array (.int)
  | 32 => .int
  | 33 => .array (.int)
  | 34 => .array (.boolean)
  | 35 => .array (.int)
  | 36 => .array (.int)
  | 37 => .boolean
  | 38 => .int
  | 39 => .int
  | 40 => .array (.boolean)
  | 41 => .array (.boolean)
  | 42 => .array (.int)
  | 43 => .array (.int)
  | 44 => .array (.int)
  | 45 => .array (.int)
  | 46 => .array (.int)
  | 47 => .array (.boolean)
  | 48 => .array (.int)
  | 49 => .array (.int)
  | 50 => .array (.int)
  | 51 => .array (.int)
  | 52 => .int
  | 53 => .int
  | 54 => .int
  | 55 => .int
  | 56 => .int
  | _ => .boolean
theorem nm_12 : ∀ a, a < 58 → ∀ b, b < 58 → a ≠ b → (T_12 a).2.1 ≠ (T_12 b).2.1 := by decide +kernel
theorem tyok_12 : ∀ k, k < 58 → parseFieldDescriptor (T_12 k).2.2.1 = some (ty_12 k) := by decide +kernel
theorem hin_12 : ∀ w ∈ u_ws "PlainPageModel" T_12 58, w ∈ lw_g := by
  have h : ∀ w ∈ u_ws "PlainPageModel" T_12 58, w ∈ lw_tbl ∧ goodWord w = true := by decide +kernel
  exact fun w hw => q_g (h w hw).1 (h w hw).2
abbrev vwCl : List vw_C := [("PlainPage$Box", T_0, 10), ("PlainPage$FormattingList", T_1, 2), ("PlainPage$Letter", T_2, 6), ("PlainPage$Node", T_3, 14), ("PlainPage$OpenStack", T_4, 2), ("PlainPage$Tree", T_5, 8), ("PlainPage$Typist", T_6, 4), ("PlainPage$Rule", T_7, 9), ("PlainPage$Sheet", T_8, 7), ("PlainPage$Run", T_9, 13), ("PlainPage$Layout", T_10, 2), ("PlainPage", T_11, 8), ("PlainPageModel", T_12, 58)]
