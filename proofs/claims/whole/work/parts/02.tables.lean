/-! names: the words of the tables that last, the classes, the methods -/
def TB : List Cond := lw_tbl.filter goodWord
theorem inTB {w : Cond} (i : Nat) (h : lw_tbl[i]? = some w) (hg : goodWord w = true) : w ∈ TB := List.mem_filter.mpr ⟨List.mem_of_getElem? h, hg⟩
theorem TB_good : GoodIn TB TB := fun w h => ⟨h, good_of_word (List.mem_filter.mp h).2⟩
theorem TB_of {args : Array Value} {s : State} (h : ∀ w ∈ lw_tbl, w.before args s = true) : ∀ w ∈ TB, w.before args s = true := fun w hw => h w (List.mem_filter.mp hw).1
theorem gTB_c {y : MethodName} {b : ByteArray} {n : Nat} {r : Option FieldType} (h : Cond.code y b n r ∈ TB) : GoodIn TB (Cond.code y b n r :: TB) := fun w hw => (List.mem_cons.mp hw).elim (fun e => e ▸ TB_good _ h) (TB_good w)
theorem gTB_V {own : String} {idx : Nat} {C : String} {y : MethodName} {b : ByteArray} {n : Nat} {r : Option FieldType} (h1 : Cond.methodLink own idx y ∈ TB) (h : Cond.instanceMethod y ∈ TB ∧ Cond.selects C y y ∈ TB ∧ Cond.initialized C ∈ TB ∧ Cond.code y b n r ∈ TB) : GoodIn TB (wsV own idx C y (Cond.code y b n r :: TB)) := by
  intro w hw
  rcases List.mem_append.mp hw with hw | hw
  · simp only [List.mem_cons, List.not_mem_nil, or_false] at hw
    rcases hw with rfl | rfl | rfl | rfl
    · exact TB_good _ h1
    · exact TB_good _ h.1
    · exact TB_good _ h.2.1
    · exact TB_good _ h.2.2.1
  · exact gTB_c h.2.2.2 w hw
theorem gTB_S {own : String} {idx : Nat} {y : MethodName} {b : ByteArray} {n : Nat} {r : Option FieldType} (h1 : Cond.methodLink own idx y ∈ TB) (h : Cond.static y ∈ TB ∧ Cond.initialized own ∈ TB ∧ Cond.code y b n r ∈ TB) : GoodIn TB (wsS own idx y (Cond.code y b n r :: TB)) := by
  intro w hw
  rcases List.mem_append.mp hw with hw | hw
  · simp only [List.mem_cons, List.not_mem_nil, or_false] at hw
    rcases hw with rfl | rfl | rfl
    · exact TB_good _ h1
    · exact TB_good _ h.1
    · exact TB_good _ h.2.1
  · exact gTB_c h.2.2 w hw
def T_F : u_T := fun k => match k with
  | 0 => ("NoneWords$Facts", "versions", "[I", true)
  | 1 => ("NoneWords$Facts", "names", "I", false)
  | 2 => ("NoneWords$Facts", "kinds", "[I", true)
  | 3 => ("NoneWords$Facts", "truths", "[I", true)
  | 4 => ("NoneWords$Facts", "toldNames", "[I", true)
  | 5 => ("NoneWords$Facts", "toldSets", "[I", true)
  | 6 => ("NoneWords$Facts", "toldOthers", "[I", true)
  | 7 => ("NoneWords$Facts", "toldOtherSets", "[I", true)
  | 8 => ("NoneWords$Facts", "leftParts", "[I", true)
  | 9 => ("NoneWords$Facts", "rightParts", "[I", true)
  | _ => ("NoneWords$Facts", "nodes", "I", false)
def ty_F : Nat → FieldType := fun k => match k with
  | 0 => .array .int
  | 1 => .int
  | 2 => .array .int
  | 3 => .array .int
  | 4 => .array .int
  | 5 => .array .int
  | 6 => .array .int
  | 7 => .array .int
  | 8 => .array .int
  | 9 => .array .int
  | _ => .int
theorem nm_F : ∀ a, a < 11 → ∀ b, b < 11 → a ≠ b → (T_F a).2.1 ≠ (T_F b).2.1 := by decide +kernel
theorem tk_F : ∀ k, k < 11 → parseFieldDescriptor (T_F k).2.2.1 = some (ty_F k) := by decide +kernel
theorem in_F : ∀ z ∈ u_ws "NoneWords$Facts" T_F 11, z ∈ TB := by decide +kernel
def T_S : u_T := fun k => match k with
  | 0 => ("NoneWords$Search", "facts", "LNoneWords$Facts;", true)
  | 1 => ("NoneWords$Search", "leftOut", "[Z", true)
  | 2 => ("NoneWords$Search", "bars", "[I", true)
  | 3 => ("NoneWords$Search", "stayed", "[I", true)
  | _ => ("NoneWords$Search", "stays", "I", false)
def ty_S : Nat → FieldType := fun k => match k with
  | 0 => .object "NoneWords$Facts"
  | 1 => .array .boolean
  | 2 => .array .int
  | 3 => .array .int
  | _ => .int
theorem nm_S : ∀ a, a < 5 → ∀ b, b < 5 → a ≠ b → (T_S a).2.1 ≠ (T_S b).2.1 := by decide +kernel
theorem tk_S : ∀ k, k < 5 → parseFieldDescriptor (T_S k).2.2.1 = some (ty_S k) := by decide +kernel
theorem in_S : ∀ z ∈ u_ws "NoneWords$Search" T_S 5, z ∈ TB := by decide +kernel
def T_P : u_T := fun k => match k with
  | 0 => ("NoneWords$Speech", "facts", "LNoneWords$Facts;", true)
  | 1 => ("NoneWords$Speech", "writer", "LNoneWords$Writer;", true)
  | 2 => ("NoneWords$Speech", "signs", "[C", true)
  | 3 => ("NoneWords$Speech", "length", "I", false)
  | _ => ("NoneWords$Speech", "shown", "I", false)
def ty_P : Nat → FieldType := fun k => match k with
  | 0 => .object "NoneWords$Facts"
  | 1 => .object "NoneWords$Writer"
  | 2 => .array .char
  | 3 => .int
  | _ => .int
theorem nm_P : ∀ a, a < 5 → ∀ b, b < 5 → a ≠ b → (T_P a).2.1 ≠ (T_P b).2.1 := by decide +kernel
theorem tk_P : ∀ k, k < 5 → parseFieldDescriptor (T_P k).2.2.1 = some (ty_P k) := by decide +kernel
theorem in_P : ∀ z ∈ u_ws "NoneWords$Speech" T_P 5, z ∈ TB := by decide +kernel
def T_W : u_T := fun k => match k with
  | 0 => ("NoneWords$Writer", "facts", "LNoneWords$Facts;", true)
  | 1 => ("NoneWords$Writer", "uses", "[I", true)
  | 2 => ("NoneWords$Writer", "nodeNumbers", "[I", true)
  | 3 => ("NoneWords$Writer", "numbers", "I", false)
  | 4 => ("NoneWords$Writer", "openings", "[I", true)
  | 5 => ("NoneWords$Writer", "firstCauses", "[I", true)
  | 6 => ("NoneWords$Writer", "secondCauses", "[I", true)
  | 7 => ("NoneWords$Writer", "conclusions", "[I", true)
  | 8 => ("NoneWords$Writer", "sentenceNumbers", "[I", true)
  | 9 => ("NoneWords$Writer", "sentences", "I", false)
  | 10 => ("NoneWords$Writer", "steps", "[I", true)
  | 11 => ("NoneWords$Writer", "stepNodes", "[I", true)
  | 12 => ("NoneWords$Writer", "stepFirsts", "[I", true)
  | 13 => ("NoneWords$Writer", "stepSeconds", "[I", true)
  | _ => ("NoneWords$Writer", "waiting", "I", false)
def ty_W : Nat → FieldType := fun k => match k with
  | 0 => .object "NoneWords$Facts"
  | 1 => .array .int
  | 2 => .array .int
  | 3 => .int
  | 4 => .array .int
  | 5 => .array .int
  | 6 => .array .int
  | 7 => .array .int
  | 8 => .array .int
  | 9 => .int
  | 10 => .array .int
  | 11 => .array .int
  | 12 => .array .int
  | 13 => .array .int
  | _ => .int
theorem nm_W : ∀ a, a < 15 → ∀ b, b < 15 → a ≠ b → (T_W a).2.1 ≠ (T_W b).2.1 := by decide +kernel
theorem tk_W : ∀ k, k < 15 → parseFieldDescriptor (T_W k).2.2.1 = some (ty_W k) := by decide +kernel
theorem in_W : ∀ z ∈ u_ws "NoneWords$Writer" T_W 15, z ∈ TB := by decide +kernel
def T_N : u_T := fun k => match k with
  | 0 => ("NoneWords", "facts", "LNoneWords$Facts;", true)
  | 1 => ("NoneWords", "writer", "LNoneWords$Writer;", true)
  | 2 => ("NoneWords", "speech", "LNoneWords$Speech;", true)
  | _ => ("NoneWords", "search", "LNoneWords$Search;", true)
def ty_N : Nat → FieldType := fun k => match k with
  | 0 => .object "NoneWords$Facts"
  | 1 => .object "NoneWords$Writer"
  | 2 => .object "NoneWords$Speech"
  | _ => .object "NoneWords$Search"
theorem nm_N : ∀ a, a < 4 → ∀ b, b < 4 → a ≠ b → (T_N a).2.1 ≠ (T_N b).2.1 := by decide +kernel
theorem tk_N : ∀ k, k < 4 → parseFieldDescriptor (T_N k).2.2.1 = some (ty_N k) := by decide +kernel
theorem in_N : ∀ z ∈ u_ws "NoneWords" T_N 4, z ∈ TB := by decide +kernel
def T_K : u_T := fun k => match k with
  | 0 => ("NoneWordsModel", "code", "I", false)
  | 1 => ("NoneWordsModel", "versions", "[I", true)
  | 2 => ("NoneWordsModel", "names", "I", false)
  | 3 => ("NoneWordsModel", "nodes", "I", false)
  | 4 => ("NoneWordsModel", "kind", "[I", true)
  | 5 => ("NoneWordsModel", "one", "[I", true)
  | 6 => ("NoneWordsModel", "oneSet", "[I", true)
  | 7 => ("NoneWordsModel", "two", "[I", true)
  | 8 => ("NoneWordsModel", "twoSet", "[I", true)
  | 9 => ("NoneWordsModel", "has", "[Z", true)
  | 10 => ("NoneWordsModel", "says", "[Z", true)
  | 11 => ("NoneWordsModel", "out", "[I", true)
  | 12 => ("NoneWordsModel", "begins", "[I", true)
  | 13 => ("NoneWordsModel", "lines", "[I", true)
  | 14 => ("NoneWordsModel", "number", "[I", true)
  | 15 => ("NoneWordsModel", "used", "[I", true)
  | 16 => ("NoneWordsModel", "size", "I", false)
  | 17 => ("NoneWordsModel", "sentences", "I", false)
  | 18 => ("NoneWordsModel", "numbers", "I", false)
  | 19 => ("NoneWordsModel", "in", "[Z", true)
  | 20 => ("NoneWordsModel", "pile", "[I", true)
  | 21 => ("NoneWordsModel", "steps", "[I", true)
  | 22 => ("NoneWordsModel", "kept", "[I", true)
  | 23 => ("NoneWordsModel", "piled", "I", false)
  | 24 => ("NoneWordsModel", "world", "[I", true)
  | 25 => ("NoneWordsModel", "away", "[Z", true)
  | 26 => ("NoneWordsModel", "stay", "[I", true)
  | _ => ("NoneWordsModel", "stays", "I", false)
def ty_K : Nat → FieldType := fun k => match k with
  | 0 => .int
  | 1 => .array .int
  | 2 => .int
  | 3 => .int
  | 4 => .array .int
  | 5 => .array .int
  | 6 => .array .int
  | 7 => .array .int
  | 8 => .array .int
  | 9 => .array .boolean
  | 10 => .array .boolean
  | 11 => .array .int
  | 12 => .array .int
  | 13 => .array .int
  | 14 => .array .int
  | 15 => .array .int
  | 16 => .int
  | 17 => .int
  | 18 => .int
  | 19 => .array .boolean
  | 20 => .array .int
  | 21 => .array .int
  | 22 => .array .int
  | 23 => .int
  | 24 => .array .int
  | 25 => .array .boolean
  | 26 => .array .int
  | _ => .int
theorem nm_K : ∀ a, a < 28 → ∀ b, b < 28 → a ≠ b → (T_K a).2.1 ≠ (T_K b).2.1 := by decide +kernel
theorem tk_K : ∀ k, k < 28 → parseFieldDescriptor (T_K k).2.2.1 = some (ty_K k) := by decide +kernel
theorem in_K : ∀ z ∈ u_ws "NoneWordsModel" T_K 28, z ∈ TB := by decide +kernel
abbrev vwCl : List vw_C := [("NoneWords$Facts", T_F, 11), ("NoneWords$Search", T_S, 5), ("NoneWords$Speech", T_P, 5), ("NoneWords$Writer", T_W, 15), ("NoneWords", T_N, 4), ("NoneWordsModel", T_K, 28)]
theorem clg_0 : vwCl[0]? = some ("NoneWords$Facts", T_F, 11) := rfl
theorem clg_1 : vwCl[1]? = some ("NoneWords$Search", T_S, 5) := rfl
theorem clg_2 : vwCl[2]? = some ("NoneWords$Speech", T_P, 5) := rfl
theorem clg_3 : vwCl[3]? = some ("NoneWords$Writer", T_W, 15) := rfl
theorem clg_4 : vwCl[4]? = some ("NoneWords", T_N, 4) := rfl
theorem clg_5 : vwCl[5]? = some ("NoneWordsModel", T_K, 28) := rfl
