/-! the words that every method takes: the tables' good ones -/
def wG : List Cond := lw_tbl.filter goodWord
theorem wG_of {w : Cond} (h : w ∈ lw_tbl) (hg : goodWord w = true) : w ∈ wG := List.mem_filter.mpr ⟨h, hg⟩
theorem wG_good : ∀ w ∈ wG, (w.onTables && w.keeps) = true ∨ ∃ ty, w = .arrayClass ty := fun w h => good_of_word (List.mem_filter.mp h).2
theorem gd_b {c0 c1 : Cond} (h : c1 ∈ wG) : GoodIn (c0 :: wG) (c1 :: wG) := by
  intro w hw
  rcases List.mem_cons.mp hw with rfl | hw
  · exact ⟨List.mem_cons_of_mem _ h, wG_good _ h⟩
  · exact ⟨List.mem_cons_of_mem _ hw, wG_good _ hw⟩
theorem gd_w {c0 c1 : Cond} (h : c1 ∈ wG) (xs : List Cond) (hx : ∀ w ∈ xs, w ∈ wG) : GoodIn (c0 :: wG) (xs ++ (c1 :: wG)) := by
  intro w hw
  rcases List.mem_append.mp hw with hw | hw
  · exact ⟨List.mem_cons_of_mem _ (hx w hw), wG_good _ (hx w hw)⟩
  · exact gd_b h w hw
theorem gd_V {c0 c1 : Cond} {own C : String} {idx : Nat} {y : MethodName} (h : c1 ∈ wG) (h1 : Cond.methodLink own idx y ∈ wG) (h2 : Cond.instanceMethod y ∈ wG) (h3 : Cond.selects C y y ∈ wG) (h4 : Cond.initialized C ∈ wG) : GoodIn (c0 :: wG) (wsV own idx C y (c1 :: wG)) := by
  refine gd_w h _ (fun w hw => ?_)
  simp only [List.mem_cons, List.not_mem_nil, or_false] at hw
  rcases hw with rfl | rfl | rfl | rfl <;> assumption
theorem gd_S {c0 c1 : Cond} {own : String} {idx : Nat} {y : MethodName} (h : c1 ∈ wG) (h1 : Cond.methodLink own idx y ∈ wG) (h2 : Cond.static y ∈ wG) (h4 : Cond.initialized y.cls ∈ wG) : GoodIn (c0 :: wG) (va_wsS own idx y (c1 :: wG)) := by
  refine gd_w h _ (fun w hw => ?_)
  simp only [List.mem_cons, List.not_mem_nil, or_false] at hw
  rcases hw with rfl | rfl | rfl <;> assumption
def R_PF : String := "PackFrames"
def R_Br : String := "PackFrames$BitRow"
def R_Fr : String := "PackFrames$FrameReader"
def R_Jo : String := "PackFrames$Joiner"
def R_Mf : String := "PackFrames$MatchFinder"
def R_Pk : String := "PackFrames$Packer"
def R_Rp : String := "PackFrames$Repeats"
def R_Row : String := "PackFrames$Row"
def R_Sq : String := "PackFrames$SequenceReader"
def R_ST : String := "PackFrames$StateTable"
def R_Tr : String := "PackFrames$Tree"
def R_Wr : String := "PackFrames$WireReader"
def R_Md : String := "PackFramesModel"
def R_Int : String := "java/lang/Integer"
def R_Mth : String := "java/lang/Math"
def R_Arr : String := "java/util/Arrays"
def T_PF : u_T := fun k => match k with
  | 0 => (R_PF, "contentRow", "LPackFrames$Row;", true)
  | 1 => (R_PF, "wireRow", "LPackFrames$Row;", true)
  | 2 => (R_PF, "usualLengths", "LPackFrames$StateTable;", true)
  | 3 => (R_PF, "usualWays", "LPackFrames$StateTable;", true)
  | 4 => (R_PF, "frameReader", "LPackFrames$FrameReader;", true)
  | _ => (R_PF, "packer", "LPackFrames$Packer;", true)
def ty_PF : Nat → FieldType := fun k => match k with
  | 0 => .object "PackFrames$Row"
  | 1 => .object "PackFrames$Row"
  | 2 => .object "PackFrames$StateTable"
  | 3 => .object "PackFrames$StateTable"
  | 4 => .object "PackFrames$FrameReader"
  | _ => .object "PackFrames$Packer"
theorem nm_PF : ∀ a, a < 6 → ∀ b, b < 6 → a ≠ b → (T_PF a).2.1 ≠ (T_PF b).2.1 := by decide +kernel
theorem tk_PF : ∀ k, k < 6 → parseFieldDescriptor (T_PF k).2.2.1 = some (ty_PF k) := by decide +kernel
theorem hin_PF : ∀ w ∈ u_ws R_PF T_PF 6, w ∈ wG := by decide +kernel
def T_Row : u_T := fun k => match k with
  | 0 => (R_Row, "bytes", "[I", true)
  | _ => (R_Row, "size", "I", false)
def ty_Row : Nat → FieldType := fun k => match k with
  | 0 => .array .int
  | _ => .int
theorem nm_Row : ∀ a, a < 2 → ∀ b, b < 2 → a ≠ b → (T_Row a).2.1 ≠ (T_Row b).2.1 := by decide +kernel
theorem tk_Row : ∀ k, k < 2 → parseFieldDescriptor (T_Row k).2.2.1 = some (ty_Row k) := by decide +kernel
theorem hin_Row : ∀ w ∈ u_ws R_Row T_Row 2, w ∈ wG := by decide +kernel
def T_ST : u_T := fun k => match k with
  | 0 => (R_ST, "usualCounts", "[I", true)
  | 1 => (R_ST, "codes", "[I", true)
  | 2 => (R_ST, "widths", "[I", true)
  | 3 => (R_ST, "bases", "[I", true)
  | 4 => (R_ST, "nextX", "[I", true)
  | 5 => (R_ST, "stateBits", "I", false)
  | _ => (R_ST, "state", "I", false)
def ty_ST : Nat → FieldType := fun k => match k with
  | 0 => .array .int
  | 1 => .array .int
  | 2 => .array .int
  | 3 => .array .int
  | 4 => .array .int
  | 5 => .int
  | _ => .int
theorem nm_ST : ∀ a, a < 7 → ∀ b, b < 7 → a ≠ b → (T_ST a).2.1 ≠ (T_ST b).2.1 := by decide +kernel
theorem tk_ST : ∀ k, k < 7 → parseFieldDescriptor (T_ST k).2.2.1 = some (ty_ST k) := by decide +kernel
theorem hin_ST : ∀ w ∈ u_ws R_ST T_ST 7, w ∈ wG := by decide +kernel
def T_Tr : u_T := fun k => match k with
  | 0 => (R_Tr, "weights", "[I", true)
  | 1 => (R_Tr, "starts", "[I", true)
  | 2 => (R_Tr, "owners", "[I", true)
  | 3 => (R_Tr, "first", "I", false)
  | _ => (R_Tr, "depth", "I", false)
def ty_Tr : Nat → FieldType := fun k => match k with
  | 0 => .array .int
  | 1 => .array .int
  | 2 => .array .int
  | 3 => .int
  | _ => .int
theorem nm_Tr : ∀ a, a < 5 → ∀ b, b < 5 → a ≠ b → (T_Tr a).2.1 ≠ (T_Tr b).2.1 := by decide +kernel
theorem tk_Tr : ∀ k, k < 5 → parseFieldDescriptor (T_Tr k).2.2.1 = some (ty_Tr k) := by decide +kernel
theorem hin_Tr : ∀ w ∈ u_ws R_Tr T_Tr 5, w ∈ wG := by decide +kernel
def T_Jo : u_T := fun k => match k with
  | 0 => (R_Jo, "counts", "[I", true)
  | 1 => (R_Jo, "parents", "[I", true)
  | 2 => (R_Jo, "lengths", "[I", true)
  | _ => (R_Jo, "greatest", "I", false)
def ty_Jo : Nat → FieldType := fun k => match k with
  | 0 => .array .int
  | 1 => .array .int
  | 2 => .array .int
  | _ => .int
theorem nm_Jo : ∀ a, a < 4 → ∀ b, b < 4 → a ≠ b → (T_Jo a).2.1 ≠ (T_Jo b).2.1 := by decide +kernel
theorem tk_Jo : ∀ k, k < 4 → parseFieldDescriptor (T_Jo k).2.2.1 = some (ty_Jo k) := by decide +kernel
theorem hin_Jo : ∀ w ∈ u_ws R_Jo T_Jo 4, w ∈ wG := by decide +kernel
def T_Br : u_T := fun k => match k with
  | 0 => (R_Br, "bits", "[I", true)
  | _ => (R_Br, "size", "I", false)
def ty_Br : Nat → FieldType := fun k => match k with
  | 0 => .array .int
  | _ => .int
theorem nm_Br : ∀ a, a < 2 → ∀ b, b < 2 → a ≠ b → (T_Br a).2.1 ≠ (T_Br b).2.1 := by decide +kernel
theorem tk_Br : ∀ k, k < 2 → parseFieldDescriptor (T_Br k).2.2.1 = some (ty_Br k) := by decide +kernel
theorem hin_Br : ∀ w ∈ u_ws R_Br T_Br 2, w ∈ wG := by decide +kernel
def T_Rp : u_T := fun k => match k with
  | 0 => (R_Rp, "r1", "I", false)
  | 1 => (R_Rp, "r2", "I", false)
  | _ => (R_Rp, "r3", "I", false)
def ty_Rp : Nat → FieldType := fun k => match k with
  | 0 => .int
  | 1 => .int
  | _ => .int
theorem nm_Rp : ∀ a, a < 3 → ∀ b, b < 3 → a ≠ b → (T_Rp a).2.1 ≠ (T_Rp b).2.1 := by decide +kernel
theorem tk_Rp : ∀ k, k < 3 → parseFieldDescriptor (T_Rp k).2.2.1 = some (ty_Rp k) := by decide +kernel
theorem hin_Rp : ∀ w ∈ u_ws R_Rp T_Rp 3, w ∈ wG := by decide +kernel
def T_Wr : u_T := fun k => match k with
  | 0 => (R_Wr, "row", "LPackFrames$Row;", true)
  | 1 => (R_Wr, "place", "I", false)
  | 2 => (R_Wr, "limit", "I", false)
  | 3 => (R_Wr, "sound", "Z", false)
  | 4 => (R_Wr, "streamStart", "I", false)
  | _ => (R_Wr, "bitsLeft", "I", false)
def ty_Wr : Nat → FieldType := fun k => match k with
  | 0 => .object "PackFrames$Row"
  | 1 => .int
  | 2 => .int
  | 3 => .boolean
  | 4 => .int
  | _ => .int
theorem nm_Wr : ∀ a, a < 6 → ∀ b, b < 6 → a ≠ b → (T_Wr a).2.1 ≠ (T_Wr b).2.1 := by decide +kernel
theorem tk_Wr : ∀ k, k < 6 → parseFieldDescriptor (T_Wr k).2.2.1 = some (ty_Wr k) := by decide +kernel
theorem hin_Wr : ∀ w ∈ u_ws R_Wr T_Wr 6, w ∈ wG := by decide +kernel
def T_Sq : u_T := fun k => match k with
  | 0 => (R_Sq, "reader", "LPackFrames$WireReader;", true)
  | 1 => (R_Sq, "literalTable", "LPackFrames$StateTable;", true)
  | 2 => (R_Sq, "wayTable", "LPackFrames$StateTable;", true)
  | 3 => (R_Sq, "matchTable", "LPackFrames$StateTable;", true)
  | 4 => (R_Sq, "counts", "[I", true)
  | 5 => (R_Sq, "tablesKnown", "Z", false)
  | 6 => (R_Sq, "literals", "I", false)
  | 7 => (R_Sq, "value", "I", false)
  | _ => (R_Sq, "match", "I", false)
def ty_Sq : Nat → FieldType := fun k => match k with
  | 0 => .object "PackFrames$WireReader"
  | 1 => .object "PackFrames$StateTable"
  | 2 => .object "PackFrames$StateTable"
  | 3 => .object "PackFrames$StateTable"
  | 4 => .array .int
  | 5 => .boolean
  | 6 => .int
  | 7 => .int
  | _ => .int
theorem nm_Sq : ∀ a, a < 9 → ∀ b, b < 9 → a ≠ b → (T_Sq a).2.1 ≠ (T_Sq b).2.1 := by decide +kernel
theorem tk_Sq : ∀ k, k < 9 → parseFieldDescriptor (T_Sq k).2.2.1 = some (ty_Sq k) := by decide +kernel
theorem hin_Sq : ∀ w ∈ u_ws R_Sq T_Sq 9, w ∈ wG := by decide +kernel
def T_Fr : u_T := fun k => match k with
  | 0 => (R_Fr, "out", "LPackFrames$Row;", true)
  | 1 => (R_Fr, "reader", "LPackFrames$WireReader;", true)
  | 2 => (R_Fr, "sequences", "LPackFrames$SequenceReader;", true)
  | 3 => (R_Fr, "repeats", "LPackFrames$Repeats;", true)
  | 4 => (R_Fr, "tree", "LPackFrames$Tree;", true)
  | 5 => (R_Fr, "literals", "LPackFrames$Row;", true)
  | 6 => (R_Fr, "treeKnown", "Z", false)
  | 7 => (R_Fr, "literalsUsed", "I", false)
  | 8 => (R_Fr, "frameStart", "I", false)
  | _ => (R_Fr, "frameEnd", "I", false)
def ty_Fr : Nat → FieldType := fun k => match k with
  | 0 => .object "PackFrames$Row"
  | 1 => .object "PackFrames$WireReader"
  | 2 => .object "PackFrames$SequenceReader"
  | 3 => .object "PackFrames$Repeats"
  | 4 => .object "PackFrames$Tree"
  | 5 => .object "PackFrames$Row"
  | 6 => .boolean
  | 7 => .int
  | 8 => .int
  | _ => .int
theorem nm_Fr : ∀ a, a < 10 → ∀ b, b < 10 → a ≠ b → (T_Fr a).2.1 ≠ (T_Fr b).2.1 := by decide +kernel
theorem tk_Fr : ∀ k, k < 10 → parseFieldDescriptor (T_Fr k).2.2.1 = some (ty_Fr k) := by decide +kernel
theorem hin_Fr : ∀ w ∈ u_ws R_Fr T_Fr 10, w ∈ wG := by decide +kernel
def T_Mf : u_T := fun k => match k with
  | 0 => (R_Mf, "row", "LPackFrames$Row;", true)
  | 1 => (R_Mf, "literals", "LPackFrames$Row;", true)
  | 2 => (R_Mf, "runs", "[I", true)
  | 3 => (R_Mf, "values", "[I", true)
  | 4 => (R_Mf, "matches", "[I", true)
  | 5 => (R_Mf, "repeats", "LPackFrames$Repeats;", true)
  | 6 => (R_Mf, "count", "I", false)
  | 7 => (R_Mf, "longestFrom", "I", false)
  | _ => (R_Mf, "longest", "I", false)
def ty_Mf : Nat → FieldType := fun k => match k with
  | 0 => .object "PackFrames$Row"
  | 1 => .object "PackFrames$Row"
  | 2 => .array .int
  | 3 => .array .int
  | 4 => .array .int
  | 5 => .object "PackFrames$Repeats"
  | 6 => .int
  | 7 => .int
  | _ => .int
theorem nm_Mf : ∀ a, a < 9 → ∀ b, b < 9 → a ≠ b → (T_Mf a).2.1 ≠ (T_Mf b).2.1 := by decide +kernel
theorem tk_Mf : ∀ k, k < 9 → parseFieldDescriptor (T_Mf k).2.2.1 = some (ty_Mf k) := by decide +kernel
theorem hin_Mf : ∀ w ∈ u_ws R_Mf T_Mf 9, w ∈ wG := by decide +kernel
def T_Pk : u_T := fun k => match k with
  | 0 => (R_Pk, "row", "LPackFrames$Row;", true)
  | 1 => (R_Pk, "found", "LPackFrames$MatchFinder;", true)
  | 2 => (R_Pk, "lengths", "LPackFrames$StateTable;", true)
  | 3 => (R_Pk, "ways", "LPackFrames$StateTable;", true)
  | 4 => (R_Pk, "body", "LPackFrames$Row;", true)
  | 5 => (R_Pk, "bits", "LPackFrames$BitRow;", true)
  | 6 => (R_Pk, "joiner", "LPackFrames$Joiner;", true)
  | 7 => (R_Pk, "tree", "LPackFrames$Tree;", true)
  | 8 => (R_Pk, "literalStates", "[I", true)
  | 9 => (R_Pk, "wayStates", "[I", true)
  | 10 => (R_Pk, "matchStates", "[I", true)
  | 11 => (R_Pk, "blockType", "I", false)
  | _ => (R_Pk, "blockLength", "I", false)
def ty_Pk : Nat → FieldType := fun k => match k with
  | 0 => .object "PackFrames$Row"
  | 1 => .object "PackFrames$MatchFinder"
  | 2 => .object "PackFrames$StateTable"
  | 3 => .object "PackFrames$StateTable"
  | 4 => .object "PackFrames$Row"
  | 5 => .object "PackFrames$BitRow"
  | 6 => .object "PackFrames$Joiner"
  | 7 => .object "PackFrames$Tree"
  | 8 => .array .int
  | 9 => .array .int
  | 10 => .array .int
  | 11 => .int
  | _ => .int
theorem nm_Pk : ∀ a, a < 13 → ∀ b, b < 13 → a ≠ b → (T_Pk a).2.1 ≠ (T_Pk b).2.1 := by decide +kernel
theorem tk_Pk : ∀ k, k < 13 → parseFieldDescriptor (T_Pk k).2.2.1 = some (ty_Pk k) := by decide +kernel
theorem hin_Pk : ∀ w ∈ u_ws R_Pk T_Pk 13, w ∈ wG := by decide +kernel
def T_Md : u_T := fun k => match k with
  | 0 => (R_Md, "content", "[I", true)
  | 1 => (R_Md, "size", "I", false)
  | 2 => (R_Md, "wire", "[I", true)
  | 3 => (R_Md, "length", "I", false)
  | 4 => (R_Md, "at", "I", false)
  | 5 => (R_Md, "bad", "Z", false)
  | 6 => (R_Md, "made", "I", false)
  | 7 => (R_Md, "out", "[I", true)
  | 8 => (R_Md, "begin", "I", false)
  | 9 => (R_Md, "due", "I", false)
  | 10 => (R_Md, "recent", "[I", true)
  | 11 => (R_Md, "source", "I", false)
  | 12 => (R_Md, "left", "I", false)
  | 13 => (R_Md, "literals", "I", false)
  | 14 => (R_Md, "literal", "[I", true)
  | 15 => (R_Md, "tree", "Z", false)
  | 16 => (R_Md, "first", "I", false)
  | 17 => (R_Md, "many", "I", false)
  | 18 => (R_Md, "depth", "I", false)
  | 19 => (R_Md, "weight", "[I", true)
  | 20 => (R_Md, "cell", "[I", true)
  | 21 => (R_Md, "there", "[Z", true)
  | 22 => (R_Md, "single", "[Z", true)
  | 23 => (R_Md, "code", "[I", true)
  | 24 => (R_Md, "width", "[I", true)
  | 25 => (R_Md, "base", "[I", true)
  | 26 => (R_Md, "counts", "[I", true)
  | 27 => (R_Md, "state", "[I", true)
  | 28 => (R_Md, "sequences", "I", false)
  | 29 => (R_Md, "ahead", "[I", true)
  | 30 => (R_Md, "value", "[I", true)
  | 31 => (R_Md, "match", "[I", true)
  | 32 => (R_Md, "codes", "[I", true)
  | 33 => (R_Md, "states", "[I", true)
  | 34 => (R_Md, "packed", "I", false)
  | 35 => (R_Md, "pack", "[I", true)
  | 36 => (R_Md, "bits", "I", false)
  | 37 => (R_Md, "bit", "[I", true)
  | 38 => (R_Md, "total", "[I", true)
  | 39 => (R_Md, "group", "[I", true)
  | 40 => (R_Md, "joined", "[I", true)
  | _ => (R_Md, "deep", "[I", true)
def ty_Md : Nat → FieldType := fun k => match k with
  | 0 => .array .int
  | 1 => .int
  | 2 => .array .int
  | 3 => .int
  | 4 => .int
  | 5 => .boolean
  | 6 => .int
  | 7 => .array .int
  | 8 => .int
  | 9 => .int
  | 10 => .array .int
  | 11 => .int
  | 12 => .int
  | 13 => .int
  | 14 => .array .int
  | 15 => .boolean
  | 16 => .int
  | 17 => .int
  | 18 => .int
  | 19 => .array .int
  | 20 => .array .int
  | 21 => .array .boolean
  | 22 => .array .boolean
  | 23 => .array .int
  | 24 => .array .int
  | 25 => .array .int
  | 26 => .array .int
  | 27 => .array .int
  | 28 => .int
  | 29 => .array .int
  | 30 => .array .int
  | 31 => .array .int
  | 32 => .array .int
  | 33 => .array .int
  | 34 => .int
  | 35 => .array .int
  | 36 => .int
  | 37 => .array .int
  | 38 => .array .int
  | 39 => .array .int
  | 40 => .array .int
  | _ => .array .int
theorem nm_Md : ∀ a, a < 42 → ∀ b, b < 42 → a ≠ b → (T_Md a).2.1 ≠ (T_Md b).2.1 := by decide +kernel
theorem tk_Md : ∀ k, k < 42 → parseFieldDescriptor (T_Md k).2.2.1 = some (ty_Md k) := by decide +kernel
theorem hin_Md : ∀ w ∈ u_ws R_Md T_Md 42, w ∈ wG := by decide +kernel
abbrev vwCl : List vw_C := [(R_PF, T_PF, 6), (R_Row, T_Row, 2), (R_ST, T_ST, 7), (R_Tr, T_Tr, 5), (R_Jo, T_Jo, 4), (R_Br, T_Br, 2), (R_Rp, T_Rp, 3), (R_Wr, T_Wr, 6), (R_Sq, T_Sq, 9), (R_Fr, T_Fr, 10), (R_Mf, T_Mf, 9), (R_Pk, T_Pk, 13), (R_Md, T_Md, 42)]
/-! kinds of the fields: 0 int, 1 boolean, k + 2 a reference to a cell of kind k (a class; 100 int[], 101 boolean[]) -/
def ft : Nat → List Nat
  | 0 => [3, 3, 4, 4, 11, 13]
  | 1 => [102, 0]
  | 2 => [102, 102, 102, 102, 102, 0, 0]
  | 3 => [102, 102, 102, 0, 0]
  | 4 => [102, 102, 102, 0]
  | 5 => [102, 0]
  | 6 => [0, 0, 0]
  | 7 => [3, 0, 0, 1, 0, 0]
  | 8 => [9, 4, 4, 4, 102, 1, 0, 0, 0]
  | 9 => [3, 9, 10, 8, 5, 3, 1, 0, 0, 0]
  | 10 => [3, 3, 102, 102, 102, 8, 0, 0, 0]
  | 11 => [3, 12, 4, 4, 3, 7, 6, 5, 102, 102, 102, 0, 0]
  | 12 => [102, 0, 102, 0, 0, 1, 0, 102, 0, 0, 102, 0, 0, 0, 102, 1, 0, 0, 0, 102, 102, 103, 103, 102, 102, 102, 102, 102, 0, 102, 102, 102, 102, 102, 0, 102, 0, 102, 102, 102, 102, 102]
  | _ => []
def tls : Nat → List Int32
  | 0 => [3, 2, 2, 1, 1, 1, 1, 1, 1, 1, 1, 1]
  | 1 => [2, 2, 2, 2, 2, 2, 2, 2]
  | 2 => [0, 1, 2, 3, 4, 5, 6, 7, 8, 10, 12, 16]
  | 3 => [0, 0, 0, 0, 0, 0, 0, 0, 1, 1, 2, 6]
  | 4 => [3, 4, 5, 6, 7, 8, 9, 10, 11, 13, 17, 25]
  | _ => [0, 0, 0, 0, 0, 0, 0, 0, 1, 2, 3, 7]
def tln (j : Nat) : Nat := (tls j).length
def tbl (j x : Nat) : Int32 := (tls j).getD x 0
def tnm : Nat → String
  | 0 => "USUAL_LENGTHS"
  | 1 => "USUAL_WAYS"
  | 2 => "LITERAL_BASES"
  | 3 => "LITERAL_BITS"
  | 4 => "MATCH_BASES"
  | _ => "MATCH_BITS"
abbrev nT : Type := String × Nat × String × String × String × String
def nestF : List nT := [("PackFrames$SequenceReader", 11, "PackFrames", "USUAL_LENGTHS", "[I", "PackFrames"), ("PackFrames$SequenceReader", 24, "PackFrames", "USUAL_WAYS", "[I", "PackFrames"), ("PackFrames$Packer", 178, "PackFrames", "LITERAL_BASES", "[I", "PackFrames"), ("PackFrames$Packer", 192, "PackFrames", "MATCH_BASES", "[I", "PackFrames"), ("PackFrames$Packer", 219, "PackFrames", "MATCH_BITS", "[I", "PackFrames"), ("PackFrames$Packer", 222, "PackFrames", "LITERAL_BITS", "[I", "PackFrames"), ("PackFrames$SequenceReader", 101, "PackFrames", "MATCH_BASES", "[I", "PackFrames"), ("PackFrames$SequenceReader", 104, "PackFrames", "MATCH_BITS", "[I", "PackFrames"), ("PackFrames$SequenceReader", 110, "PackFrames", "LITERAL_BASES", "[I", "PackFrames"), ("PackFrames$SequenceReader", 113, "PackFrames", "LITERAL_BITS", "[I", "PackFrames")]
def nw (q : nT) : Cond := .fieldLinkNest q.1 q.2.1 q.2.2.1 q.2.2.2.1 q.2.2.2.2.1 q.2.2.2.2.2
theorem ln_PF : Cond.initialized R_PF ∈ wG := wG_of (List.mem_append_right _ (List.mem_of_getElem? (i := 1) (by decide +kernel))) rfl
theorem ln_Br : Cond.initialized R_Br ∈ wG := wG_of (List.mem_append_right _ (List.mem_of_getElem? (i := 10) (by decide +kernel))) rfl
theorem ln_Fr : Cond.initialized R_Fr ∈ wG := wG_of (List.mem_append_right _ (List.mem_of_getElem? (i := 4) (by decide +kernel))) rfl
theorem ln_Jo : Cond.initialized R_Jo ∈ wG := wG_of (List.mem_append_right _ (List.mem_of_getElem? (i := 11) (by decide +kernel))) rfl
theorem ln_Mf : Cond.initialized R_Mf ∈ wG := wG_of (List.mem_append_right _ (List.mem_of_getElem? (i := 12) (by decide +kernel))) rfl
theorem ln_Pk : Cond.initialized R_Pk ∈ wG := wG_of (List.mem_append_right _ (List.mem_of_getElem? (i := 9) (by decide +kernel))) rfl
theorem ln_Rp : Cond.initialized R_Rp ∈ wG := wG_of (List.mem_append_right _ (List.mem_of_getElem? (i := 5) (by decide +kernel))) rfl
theorem ln_Row : Cond.initialized R_Row ∈ wG := wG_of (List.mem_append_right _ (List.mem_of_getElem? (i := 2) (by decide +kernel))) rfl
theorem ln_Sq : Cond.initialized R_Sq ∈ wG := wG_of (List.mem_append_right _ (List.mem_of_getElem? (i := 8) (by decide +kernel))) rfl
theorem ln_ST : Cond.initialized R_ST ∈ wG := wG_of (List.mem_append_right _ (List.mem_of_getElem? (i := 3) (by decide +kernel))) rfl
theorem ln_Tr : Cond.initialized R_Tr ∈ wG := wG_of (List.mem_append_right _ (List.mem_of_getElem? (i := 6) (by decide +kernel))) rfl
theorem ln_Wr : Cond.initialized R_Wr ∈ wG := wG_of (List.mem_append_right _ (List.mem_of_getElem? (i := 7) (by decide +kernel))) rfl
theorem ln_Md : Cond.initialized R_Md ∈ wG := wG_of (List.mem_append_right _ (List.mem_of_getElem? (i := 13) (by decide +kernel))) rfl
theorem ln_Int : Cond.initialized R_Int ∈ wG := wG_of (List.mem_append_right _ (List.mem_of_getElem? (i := 16) (by decide +kernel))) rfl
theorem ln_Mth : Cond.initialized R_Mth ∈ wG := wG_of (List.mem_append_right _ (List.mem_of_getElem? (i := 14) (by decide +kernel))) rfl
theorem ln_Arr : Cond.initialized R_Arr ∈ wG := wG_of (List.mem_append_right _ (List.mem_of_getElem? (i := 15) (by decide +kernel))) rfl
theorem lf_Br_15 : Cond.fieldLink R_Br 15 R_Br "size" "I" ∈ wG := wG_of (List.mem_append_right _ (List.mem_of_getElem? (i := 264) (by decide +kernel))) rfl
theorem lf_Br_9 : Cond.fieldLink R_Br 9 R_Br "bits" "[I" ∈ wG := wG_of (List.mem_append_right _ (List.mem_of_getElem? (i := 263) (by decide +kernel))) rfl
theorem lf_Fr_102 : Cond.fieldLink R_Fr 102 R_Wr "place" "I" ∈ wG := wG_of (List.mem_append_right _ (List.mem_of_getElem? (i := 155) (by decide +kernel))) rfl
theorem lf_Fr_105 : Cond.fieldLink R_Fr 105 R_Fr "treeKnown" "Z" ∈ wG := wG_of (List.mem_append_right _ (List.mem_of_getElem? (i := 224) (by decide +kernel))) rfl
theorem lf_Fr_108 : Cond.fieldLink R_Fr 108 R_Sq "tablesKnown" "Z" ∈ wG := wG_of (List.mem_append_right _ (List.mem_of_getElem? (i := 191) (by decide +kernel))) rfl
theorem lf_Fr_126 : Cond.fieldLink R_Fr 126 R_Wr "limit" "I" ∈ wG := wG_of (List.mem_append_right _ (List.mem_of_getElem? (i := 157) (by decide +kernel))) rfl
theorem lf_Fr_138 : Cond.fieldLink R_Fr 138 R_Fr "literalsUsed" "I" ∈ wG := wG_of (List.mem_append_right _ (List.mem_of_getElem? (i := 225) (by decide +kernel))) rfl
theorem lf_Fr_14 : Cond.fieldLink R_Fr 14 R_Fr "out" "LPackFrames$Row;" ∈ wG := wG_of (List.mem_append_right _ (List.mem_of_getElem? (i := 217) (by decide +kernel))) rfl
theorem lf_Fr_144 : Cond.fieldLink R_Fr 144 R_Wr "row" "LPackFrames$Row;" ∈ wG := wG_of (List.mem_append_right _ (List.mem_of_getElem? (i := 153) (by decide +kernel))) rfl
theorem lf_Fr_153 : Cond.fieldLink R_Fr 153 R_Tr "first" "I" ∈ wG := wG_of (List.mem_append_right _ (List.mem_of_getElem? (i := 132) (by decide +kernel))) rfl
theorem lf_Fr_156 : Cond.fieldLink R_Fr 156 R_Tr "weights" "[I" ∈ wG := wG_of (List.mem_append_right _ (List.mem_of_getElem? (i := 127) (by decide +kernel))) rfl
theorem lf_Fr_173 : Cond.fieldLink R_Fr 173 R_Tr "owners" "[I" ∈ wG := wG_of (List.mem_append_right _ (List.mem_of_getElem? (i := 130) (by decide +kernel))) rfl
theorem lf_Fr_176 : Cond.fieldLink R_Fr 176 R_Tr "depth" "I" ∈ wG := wG_of (List.mem_append_right _ (List.mem_of_getElem? (i := 134) (by decide +kernel))) rfl
theorem lf_Fr_200 : Cond.fieldLink R_Fr 200 R_Sq "literals" "I" ∈ wG := wG_of (List.mem_append_right _ (List.mem_of_getElem? (i := 193) (by decide +kernel))) rfl
theorem lf_Fr_205 : Cond.fieldLink R_Fr 205 R_Row "bytes" "[I" ∈ wG := wG_of (List.mem_append_right _ (List.mem_of_getElem? (i := 37) (by decide +kernel))) rfl
theorem lf_Fr_208 : Cond.fieldLink R_Fr 208 R_Sq "value" "I" ∈ wG := wG_of (List.mem_append_right _ (List.mem_of_getElem? (i := 195) (by decide +kernel))) rfl
theorem lf_Fr_215 : Cond.fieldLink R_Fr 215 R_Sq "match" "I" ∈ wG := wG_of (List.mem_append_right _ (List.mem_of_getElem? (i := 197) (by decide +kernel))) rfl
theorem lf_Fr_23 : Cond.fieldLink R_Fr 23 R_Fr "repeats" "LPackFrames$Repeats;" ∈ wG := wG_of (List.mem_append_right _ (List.mem_of_getElem? (i := 221) (by decide +kernel))) rfl
theorem lf_Fr_30 : Cond.fieldLink R_Fr 30 R_Fr "tree" "LPackFrames$Tree;" ∈ wG := wG_of (List.mem_append_right _ (List.mem_of_getElem? (i := 222) (by decide +kernel))) rfl
theorem lf_Fr_34 : Cond.fieldLink R_Fr 34 R_Fr "literals" "LPackFrames$Row;" ∈ wG := wG_of (List.mem_append_right _ (List.mem_of_getElem? (i := 223) (by decide +kernel))) rfl
theorem lf_Fr_42 : Cond.fieldLink R_Fr 42 R_Fr "reader" "LPackFrames$WireReader;" ∈ wG := wG_of (List.mem_append_right _ (List.mem_of_getElem? (i := 219) (by decide +kernel))) rfl
theorem lf_Fr_51 : Cond.fieldLink R_Fr 51 R_Fr "sequences" "LPackFrames$SequenceReader;" ∈ wG := wG_of (List.mem_append_right _ (List.mem_of_getElem? (i := 220) (by decide +kernel))) rfl
theorem lf_Fr_72 : Cond.fieldLink R_Fr 72 R_Wr "sound" "Z" ∈ wG := wG_of (List.mem_append_right _ (List.mem_of_getElem? (i := 159) (by decide +kernel))) rfl
theorem lf_Fr_88 : Cond.fieldLink R_Fr 88 R_Row "size" "I" ∈ wG := wG_of (List.mem_append_right _ (List.mem_of_getElem? (i := 43) (by decide +kernel))) rfl
theorem lf_Fr_92 : Cond.fieldLink R_Fr 92 R_Fr "frameEnd" "I" ∈ wG := wG_of (List.mem_append_right _ (List.mem_of_getElem? (i := 227) (by decide +kernel))) rfl
theorem lf_Fr_95 : Cond.fieldLink R_Fr 95 R_Fr "frameStart" "I" ∈ wG := wG_of (List.mem_append_right _ (List.mem_of_getElem? (i := 226) (by decide +kernel))) rfl
theorem lf_Jo_11 : Cond.fieldLink R_Jo 11 R_Jo "counts" "[I" ∈ wG := wG_of (List.mem_append_right _ (List.mem_of_getElem? (i := 277) (by decide +kernel))) rfl
theorem lf_Jo_15 : Cond.fieldLink R_Jo 15 R_Jo "parents" "[I" ∈ wG := wG_of (List.mem_append_right _ (List.mem_of_getElem? (i := 278) (by decide +kernel))) rfl
theorem lf_Jo_18 : Cond.fieldLink R_Jo 18 R_Jo "lengths" "[I" ∈ wG := wG_of (List.mem_append_right _ (List.mem_of_getElem? (i := 279) (by decide +kernel))) rfl
theorem lf_Jo_27 : Cond.fieldLink R_Jo 27 R_Row "size" "I" ∈ wG := wG_of (List.mem_append_right _ (List.mem_of_getElem? (i := 42) (by decide +kernel))) rfl
theorem lf_Jo_33 : Cond.fieldLink R_Jo 33 R_Row "bytes" "[I" ∈ wG := wG_of (List.mem_append_right _ (List.mem_of_getElem? (i := 32) (by decide +kernel))) rfl
theorem lf_Jo_44 : Cond.fieldLink R_Jo 44 R_Jo "greatest" "I" ∈ wG := wG_of (List.mem_append_right _ (List.mem_of_getElem? (i := 281) (by decide +kernel))) rfl
theorem lf_Mf_14 : Cond.fieldLink R_Mf 14 R_Mf "literals" "LPackFrames$Row;" ∈ wG := wG_of (List.mem_append_right _ (List.mem_of_getElem? (i := 305) (by decide +kernel))) rfl
theorem lf_Mf_20 : Cond.fieldLink R_Mf 20 R_Mf "runs" "[I" ∈ wG := wG_of (List.mem_append_right _ (List.mem_of_getElem? (i := 307) (by decide +kernel))) rfl
theorem lf_Mf_24 : Cond.fieldLink R_Mf 24 R_Mf "values" "[I" ∈ wG := wG_of (List.mem_append_right _ (List.mem_of_getElem? (i := 309) (by decide +kernel))) rfl
theorem lf_Mf_27 : Cond.fieldLink R_Mf 27 R_Mf "matches" "[I" ∈ wG := wG_of (List.mem_append_right _ (List.mem_of_getElem? (i := 311) (by decide +kernel))) rfl
theorem lf_Mf_33 : Cond.fieldLink R_Mf 33 R_Mf "repeats" "LPackFrames$Repeats;" ∈ wG := wG_of (List.mem_append_right _ (List.mem_of_getElem? (i := 313) (by decide +kernel))) rfl
theorem lf_Mf_37 : Cond.fieldLink R_Mf 37 R_Mf "row" "LPackFrames$Row;" ∈ wG := wG_of (List.mem_append_right _ (List.mem_of_getElem? (i := 304) (by decide +kernel))) rfl
theorem lf_Mf_40 : Cond.fieldLink R_Mf 40 R_Row "size" "I" ∈ wG := wG_of (List.mem_append_right _ (List.mem_of_getElem? (i := 39) (by decide +kernel))) rfl
theorem lf_Mf_44 : Cond.fieldLink R_Mf 44 R_Mf "count" "I" ∈ wG := wG_of (List.mem_append_right _ (List.mem_of_getElem? (i := 314) (by decide +kernel))) rfl
theorem lf_Mf_53 : Cond.fieldLink R_Mf 53 R_Mf "longest" "I" ∈ wG := wG_of (List.mem_append_right _ (List.mem_of_getElem? (i := 317) (by decide +kernel))) rfl
theorem lf_Mf_56 : Cond.fieldLink R_Mf 56 R_Mf "longestFrom" "I" ∈ wG := wG_of (List.mem_append_right _ (List.mem_of_getElem? (i := 316) (by decide +kernel))) rfl
theorem lf_Mf_63 : Cond.fieldLink R_Mf 63 R_Row "bytes" "[I" ∈ wG := wG_of (List.mem_append_right _ (List.mem_of_getElem? (i := 34) (by decide +kernel))) rfl
theorem lf_Pk_122 : Cond.fieldLink R_Pk 122 R_Br "size" "I" ∈ wG := wG_of (List.mem_append_right _ (List.mem_of_getElem? (i := 265) (by decide +kernel))) rfl
theorem lf_Pk_14 : Cond.fieldLink R_Pk 14 R_Pk "body" "LPackFrames$Row;" ∈ wG := wG_of (List.mem_append_right _ (List.mem_of_getElem? (i := 341) (by decide +kernel))) rfl
theorem lf_Pk_144 : Cond.fieldLink R_Pk 144 R_Jo "greatest" "I" ∈ wG := wG_of (List.mem_append_right _ (List.mem_of_getElem? (i := 282) (by decide +kernel))) rfl
theorem lf_Pk_147 : Cond.fieldLink R_Pk 147 R_Tr "first" "I" ∈ wG := wG_of (List.mem_append_right _ (List.mem_of_getElem? (i := 131) (by decide +kernel))) rfl
theorem lf_Pk_150 : Cond.fieldLink R_Pk 150 R_Jo "lengths" "[I" ∈ wG := wG_of (List.mem_append_right _ (List.mem_of_getElem? (i := 280) (by decide +kernel))) rfl
theorem lf_Pk_152 : Cond.fieldLink R_Pk 152 R_Tr "weights" "[I" ∈ wG := wG_of (List.mem_append_right _ (List.mem_of_getElem? (i := 126) (by decide +kernel))) rfl
theorem lf_Pk_162 : Cond.fieldLink R_Pk 162 R_Mf "count" "I" ∈ wG := wG_of (List.mem_append_right _ (List.mem_of_getElem? (i := 315) (by decide +kernel))) rfl
theorem lf_Pk_181 : Cond.fieldLink R_Pk 181 R_Mf "runs" "[I" ∈ wG := wG_of (List.mem_append_right _ (List.mem_of_getElem? (i := 308) (by decide +kernel))) rfl
theorem lf_Pk_195 : Cond.fieldLink R_Pk 195 R_Mf "matches" "[I" ∈ wG := wG_of (List.mem_append_right _ (List.mem_of_getElem? (i := 312) (by decide +kernel))) rfl
theorem lf_Pk_198 : Cond.fieldLink R_Pk 198 R_Mf "values" "[I" ∈ wG := wG_of (List.mem_append_right _ (List.mem_of_getElem? (i := 310) (by decide +kernel))) rfl
theorem lf_Pk_213 : Cond.fieldLink R_Pk 213 R_ST "bases" "[I" ∈ wG := wG_of (List.mem_append_right _ (List.mem_of_getElem? (i := 71) (by decide +kernel))) rfl
theorem lf_Pk_216 : Cond.fieldLink R_Pk 216 R_ST "widths" "[I" ∈ wG := wG_of (List.mem_append_right _ (List.mem_of_getElem? (i := 68) (by decide +kernel))) rfl
theorem lf_Pk_23 : Cond.fieldLink R_Pk 23 R_Pk "bits" "LPackFrames$BitRow;" ∈ wG := wG_of (List.mem_append_right _ (List.mem_of_getElem? (i := 343) (by decide +kernel))) rfl
theorem lf_Pk_30 : Cond.fieldLink R_Pk 30 R_Pk "joiner" "LPackFrames$Joiner;" ∈ wG := wG_of (List.mem_append_right _ (List.mem_of_getElem? (i := 344) (by decide +kernel))) rfl
theorem lf_Pk_37 : Cond.fieldLink R_Pk 37 R_Pk "tree" "LPackFrames$Tree;" ∈ wG := wG_of (List.mem_append_right _ (List.mem_of_getElem? (i := 345) (by decide +kernel))) rfl
theorem lf_Pk_41 : Cond.fieldLink R_Pk 41 R_Pk "literalStates" "[I" ∈ wG := wG_of (List.mem_append_right _ (List.mem_of_getElem? (i := 346) (by decide +kernel))) rfl
theorem lf_Pk_45 : Cond.fieldLink R_Pk 45 R_Pk "wayStates" "[I" ∈ wG := wG_of (List.mem_append_right _ (List.mem_of_getElem? (i := 347) (by decide +kernel))) rfl
theorem lf_Pk_48 : Cond.fieldLink R_Pk 48 R_Pk "matchStates" "[I" ∈ wG := wG_of (List.mem_append_right _ (List.mem_of_getElem? (i := 348) (by decide +kernel))) rfl
theorem lf_Pk_51 : Cond.fieldLink R_Pk 51 R_Pk "row" "LPackFrames$Row;" ∈ wG := wG_of (List.mem_append_right _ (List.mem_of_getElem? (i := 337) (by decide +kernel))) rfl
theorem lf_Pk_54 : Cond.fieldLink R_Pk 54 R_Pk "lengths" "LPackFrames$StateTable;" ∈ wG := wG_of (List.mem_append_right _ (List.mem_of_getElem? (i := 339) (by decide +kernel))) rfl
theorem lf_Pk_58 : Cond.fieldLink R_Pk 58 R_Pk "ways" "LPackFrames$StateTable;" ∈ wG := wG_of (List.mem_append_right _ (List.mem_of_getElem? (i := 340) (by decide +kernel))) rfl
theorem lf_Pk_66 : Cond.fieldLink R_Pk 66 R_Pk "found" "LPackFrames$MatchFinder;" ∈ wG := wG_of (List.mem_append_right _ (List.mem_of_getElem? (i := 338) (by decide +kernel))) rfl
theorem lf_Pk_70 : Cond.fieldLink R_Pk 70 R_Row "size" "I" ∈ wG := wG_of (List.mem_append_right _ (List.mem_of_getElem? (i := 38) (by decide +kernel))) rfl
theorem lf_Pk_74 : Cond.fieldLink R_Pk 74 R_Pk "blockLength" "I" ∈ wG := wG_of (List.mem_append_right _ (List.mem_of_getElem? (i := 351) (by decide +kernel))) rfl
theorem lf_Pk_81 : Cond.fieldLink R_Pk 81 R_Pk "blockType" "I" ∈ wG := wG_of (List.mem_append_right _ (List.mem_of_getElem? (i := 349) (by decide +kernel))) rfl
theorem lf_Pk_84 : Cond.fieldLink R_Pk 84 R_Row "bytes" "[I" ∈ wG := wG_of (List.mem_append_right _ (List.mem_of_getElem? (i := 33) (by decide +kernel))) rfl
theorem lf_Pk_93 : Cond.fieldLink R_Pk 93 R_Mf "literals" "LPackFrames$Row;" ∈ wG := wG_of (List.mem_append_right _ (List.mem_of_getElem? (i := 306) (by decide +kernel))) rfl
theorem lf_Rp_13 : Cond.fieldLink R_Rp 13 R_Rp "r2" "I" ∈ wG := wG_of (List.mem_append_right _ (List.mem_of_getElem? (i := 110) (by decide +kernel))) rfl
theorem lf_Rp_16 : Cond.fieldLink R_Rp 16 R_Rp "r3" "I" ∈ wG := wG_of (List.mem_append_right _ (List.mem_of_getElem? (i := 111) (by decide +kernel))) rfl
theorem lf_Rp_7 : Cond.fieldLink R_Rp 7 R_Rp "r1" "I" ∈ wG := wG_of (List.mem_append_right _ (List.mem_of_getElem? (i := 109) (by decide +kernel))) rfl
theorem lf_Row_15 : Cond.fieldLink R_Row 15 R_Row "size" "I" ∈ wG := wG_of (List.mem_append_right _ (List.mem_of_getElem? (i := 40) (by decide +kernel))) rfl
theorem lf_Row_9 : Cond.fieldLink R_Row 9 R_Row "bytes" "[I" ∈ wG := wG_of (List.mem_append_right _ (List.mem_of_getElem? (i := 31) (by decide +kernel))) rfl
theorem lf_Sq_107 : Cond.fieldLink R_Sq 107 R_Sq "match" "I" ∈ wG := wG_of (List.mem_append_right _ (List.mem_of_getElem? (i := 196) (by decide +kernel))) rfl
theorem lf_Sq_116 : Cond.fieldLink R_Sq 116 R_Sq "literals" "I" ∈ wG := wG_of (List.mem_append_right _ (List.mem_of_getElem? (i := 192) (by decide +kernel))) rfl
theorem lf_Sq_18 : Cond.fieldLink R_Sq 18 R_Sq "literalTable" "LPackFrames$StateTable;" ∈ wG := wG_of (List.mem_append_right _ (List.mem_of_getElem? (i := 186) (by decide +kernel))) rfl
theorem lf_Sq_27 : Cond.fieldLink R_Sq 27 R_Sq "wayTable" "LPackFrames$StateTable;" ∈ wG := wG_of (List.mem_append_right _ (List.mem_of_getElem? (i := 187) (by decide +kernel))) rfl
theorem lf_Sq_30 : Cond.fieldLink R_Sq 30 R_Sq "matchTable" "LPackFrames$StateTable;" ∈ wG := wG_of (List.mem_append_right _ (List.mem_of_getElem? (i := 188) (by decide +kernel))) rfl
theorem lf_Sq_33 : Cond.fieldLink R_Sq 33 R_Sq "counts" "[I" ∈ wG := wG_of (List.mem_append_right _ (List.mem_of_getElem? (i := 189) (by decide +kernel))) rfl
theorem lf_Sq_36 : Cond.fieldLink R_Sq 36 R_Sq "reader" "LPackFrames$WireReader;" ∈ wG := wG_of (List.mem_append_right _ (List.mem_of_getElem? (i := 185) (by decide +kernel))) rfl
theorem lf_Sq_53 : Cond.fieldLink R_Sq 53 R_Sq "tablesKnown" "Z" ∈ wG := wG_of (List.mem_append_right _ (List.mem_of_getElem? (i := 190) (by decide +kernel))) rfl
theorem lf_Sq_57 : Cond.fieldLink R_Sq 57 R_ST "usualCounts" "[I" ∈ wG := wG_of (List.mem_append_right _ (List.mem_of_getElem? (i := 64) (by decide +kernel))) rfl
theorem lf_Sq_78 : Cond.fieldLink R_Sq 78 R_ST "stateBits" "I" ∈ wG := wG_of (List.mem_append_right _ (List.mem_of_getElem? (i := 75) (by decide +kernel))) rfl
theorem lf_Sq_86 : Cond.fieldLink R_Sq 86 R_ST "state" "I" ∈ wG := wG_of (List.mem_append_right _ (List.mem_of_getElem? (i := 77) (by decide +kernel))) rfl
theorem lf_Sq_98 : Cond.fieldLink R_Sq 98 R_Sq "value" "I" ∈ wG := wG_of (List.mem_append_right _ (List.mem_of_getElem? (i := 194) (by decide +kernel))) rfl
theorem lf_ST_15 : Cond.fieldLink R_ST 15 R_ST "widths" "[I" ∈ wG := wG_of (List.mem_append_right _ (List.mem_of_getElem? (i := 67) (by decide +kernel))) rfl
theorem lf_ST_18 : Cond.fieldLink R_ST 18 R_ST "bases" "[I" ∈ wG := wG_of (List.mem_append_right _ (List.mem_of_getElem? (i := 70) (by decide +kernel))) rfl
theorem lf_ST_21 : Cond.fieldLink R_ST 21 R_ST "usualCounts" "[I" ∈ wG := wG_of (List.mem_append_right _ (List.mem_of_getElem? (i := 63) (by decide +kernel))) rfl
theorem lf_ST_24 : Cond.fieldLink R_ST 24 R_ST "nextX" "[I" ∈ wG := wG_of (List.mem_append_right _ (List.mem_of_getElem? (i := 73) (by decide +kernel))) rfl
theorem lf_ST_31 : Cond.fieldLink R_ST 31 R_ST "stateBits" "I" ∈ wG := wG_of (List.mem_append_right _ (List.mem_of_getElem? (i := 74) (by decide +kernel))) rfl
theorem lf_ST_35 : Cond.fieldLink R_ST 35 R_ST "state" "I" ∈ wG := wG_of (List.mem_append_right _ (List.mem_of_getElem? (i := 76) (by decide +kernel))) rfl
theorem lf_ST_9 : Cond.fieldLink R_ST 9 R_ST "codes" "[I" ∈ wG := wG_of (List.mem_append_right _ (List.mem_of_getElem? (i := 65) (by decide +kernel))) rfl
theorem lf_Tr_15 : Cond.fieldLink R_Tr 15 R_Tr "starts" "[I" ∈ wG := wG_of (List.mem_append_right _ (List.mem_of_getElem? (i := 128) (by decide +kernel))) rfl
theorem lf_Tr_18 : Cond.fieldLink R_Tr 18 R_Tr "owners" "[I" ∈ wG := wG_of (List.mem_append_right _ (List.mem_of_getElem? (i := 129) (by decide +kernel))) rfl
theorem lf_Tr_30 : Cond.fieldLink R_Tr 30 R_Tr "depth" "I" ∈ wG := wG_of (List.mem_append_right _ (List.mem_of_getElem? (i := 133) (by decide +kernel))) rfl
theorem lf_Tr_9 : Cond.fieldLink R_Tr 9 R_Tr "weights" "[I" ∈ wG := wG_of (List.mem_append_right _ (List.mem_of_getElem? (i := 125) (by decide +kernel))) rfl
theorem lf_Wr_13 : Cond.fieldLink R_Wr 13 R_Wr "place" "I" ∈ wG := wG_of (List.mem_append_right _ (List.mem_of_getElem? (i := 154) (by decide +kernel))) rfl
theorem lf_Wr_17 : Cond.fieldLink R_Wr 17 R_Row "size" "I" ∈ wG := wG_of (List.mem_append_right _ (List.mem_of_getElem? (i := 41) (by decide +kernel))) rfl
theorem lf_Wr_22 : Cond.fieldLink R_Wr 22 R_Wr "limit" "I" ∈ wG := wG_of (List.mem_append_right _ (List.mem_of_getElem? (i := 156) (by decide +kernel))) rfl
theorem lf_Wr_25 : Cond.fieldLink R_Wr 25 R_Wr "sound" "Z" ∈ wG := wG_of (List.mem_append_right _ (List.mem_of_getElem? (i := 158) (by decide +kernel))) rfl
theorem lf_Wr_29 : Cond.fieldLink R_Wr 29 R_Wr "bitsLeft" "I" ∈ wG := wG_of (List.mem_append_right _ (List.mem_of_getElem? (i := 161) (by decide +kernel))) rfl
theorem lf_Wr_32 : Cond.fieldLink R_Wr 32 R_Row "bytes" "[I" ∈ wG := wG_of (List.mem_append_right _ (List.mem_of_getElem? (i := 35) (by decide +kernel))) rfl
theorem lf_Wr_43 : Cond.fieldLink R_Wr 43 R_Wr "streamStart" "I" ∈ wG := wG_of (List.mem_append_right _ (List.mem_of_getElem? (i := 160) (by decide +kernel))) rfl
theorem lf_Wr_7 : Cond.fieldLink R_Wr 7 R_Wr "row" "LPackFrames$Row;" ∈ wG := wG_of (List.mem_append_right _ (List.mem_of_getElem? (i := 152) (by decide +kernel))) rfl
theorem lf_PF_105 : Cond.fieldLink R_PF 105 R_Fr "out" "LPackFrames$Row;" ∈ wG := wG_of (List.mem_append_right _ (List.mem_of_getElem? (i := 218) (by decide +kernel))) rfl
theorem lf_PF_114 : Cond.fieldLink R_PF 114 R_ST "codes" "[I" ∈ wG := wG_of (List.mem_append_right _ (List.mem_of_getElem? (i := 66) (by decide +kernel))) rfl
theorem lf_PF_117 : Cond.fieldLink R_PF 117 R_ST "widths" "[I" ∈ wG := wG_of (List.mem_append_right _ (List.mem_of_getElem? (i := 69) (by decide +kernel))) rfl
theorem lf_PF_120 : Cond.fieldLink R_PF 120 R_ST "bases" "[I" ∈ wG := wG_of (List.mem_append_right _ (List.mem_of_getElem? (i := 72) (by decide +kernel))) rfl
theorem lf_PF_14 : Cond.fieldLink R_PF 14 R_PF "contentRow" "LPackFrames$Row;" ∈ wG := wG_of (List.mem_append_right _ (List.mem_of_getElem? (i := 380) (by decide +kernel))) rfl
theorem lf_PF_18 : Cond.fieldLink R_PF 18 R_PF "wireRow" "LPackFrames$Row;" ∈ wG := wG_of (List.mem_append_right _ (List.mem_of_getElem? (i := 381) (by decide +kernel))) rfl
theorem lf_PF_23 : Cond.fieldLink R_PF 23 "PackFrames" "USUAL_LENGTHS" "[I" ∈ wG := wG_of (List.mem_append_right _ (List.mem_of_getElem? (i := 53) (by decide +kernel))) rfl
theorem lf_PF_30 : Cond.fieldLink R_PF 30 R_PF "usualLengths" "LPackFrames$StateTable;" ∈ wG := wG_of (List.mem_append_right _ (List.mem_of_getElem? (i := 382) (by decide +kernel))) rfl
theorem lf_PF_34 : Cond.fieldLink R_PF 34 "PackFrames" "USUAL_WAYS" "[I" ∈ wG := wG_of (List.mem_append_right _ (List.mem_of_getElem? (i := 93) (by decide +kernel))) rfl
theorem lf_PF_37 : Cond.fieldLink R_PF 37 R_PF "usualWays" "LPackFrames$StateTable;" ∈ wG := wG_of (List.mem_append_right _ (List.mem_of_getElem? (i := 383) (by decide +kernel))) rfl
theorem lf_PF_45 : Cond.fieldLink R_PF 45 R_PF "frameReader" "LPackFrames$FrameReader;" ∈ wG := wG_of (List.mem_append_right _ (List.mem_of_getElem? (i := 384) (by decide +kernel))) rfl
theorem lf_PF_54 : Cond.fieldLink R_PF 54 R_PF "packer" "LPackFrames$Packer;" ∈ wG := wG_of (List.mem_append_right _ (List.mem_of_getElem? (i := 385) (by decide +kernel))) rfl
theorem lf_PF_62 : Cond.fieldLink R_PF 62 R_Row "size" "I" ∈ wG := wG_of (List.mem_append_right _ (List.mem_of_getElem? (i := 44) (by decide +kernel))) rfl
theorem lf_PF_70 : Cond.fieldLink R_PF 70 R_Row "bytes" "[I" ∈ wG := wG_of (List.mem_append_right _ (List.mem_of_getElem? (i := 36) (by decide +kernel))) rfl
theorem lf_PF_76 : Cond.fieldLink R_PF 76 R_Pk "body" "LPackFrames$Row;" ∈ wG := wG_of (List.mem_append_right _ (List.mem_of_getElem? (i := 342) (by decide +kernel))) rfl
theorem lf_PF_89 : Cond.fieldLink R_PF 89 R_Pk "blockLength" "I" ∈ wG := wG_of (List.mem_append_right _ (List.mem_of_getElem? (i := 352) (by decide +kernel))) rfl
theorem lf_PF_92 : Cond.fieldLink R_PF 92 R_Pk "blockType" "I" ∈ wG := wG_of (List.mem_append_right _ (List.mem_of_getElem? (i := 350) (by decide +kernel))) rfl
theorem lf_Md_102 : Cond.fieldLink R_Md 102 R_Md "bad" "Z" ∈ wG := wG_of (List.mem_append_right _ (List.mem_of_getElem? (i := 830) (by decide +kernel))) rfl
theorem lf_Md_106 : Cond.fieldLink R_Md 106 R_Md "made" "I" ∈ wG := wG_of (List.mem_append_right _ (List.mem_of_getElem? (i := 831) (by decide +kernel))) rfl
theorem lf_Md_109 : Cond.fieldLink R_Md 109 R_Md "begin" "I" ∈ wG := wG_of (List.mem_append_right _ (List.mem_of_getElem? (i := 833) (by decide +kernel))) rfl
theorem lf_Md_112 : Cond.fieldLink R_Md 112 R_Md "due" "I" ∈ wG := wG_of (List.mem_append_right _ (List.mem_of_getElem? (i := 834) (by decide +kernel))) rfl
theorem lf_Md_115 : Cond.fieldLink R_Md 115 R_Md "left" "I" ∈ wG := wG_of (List.mem_append_right _ (List.mem_of_getElem? (i := 837) (by decide +kernel))) rfl
theorem lf_Md_118 : Cond.fieldLink R_Md 118 R_Md "source" "I" ∈ wG := wG_of (List.mem_append_right _ (List.mem_of_getElem? (i := 836) (by decide +kernel))) rfl
theorem lf_Md_13 : Cond.fieldLink R_Md 13 R_Md "wire" "[I" ∈ wG := wG_of (List.mem_append_right _ (List.mem_of_getElem? (i := 827) (by decide +kernel))) rfl
theorem lf_Md_131 : Cond.fieldLink R_Md 131 R_Md "tree" "Z" ∈ wG := wG_of (List.mem_append_right _ (List.mem_of_getElem? (i := 840) (by decide +kernel))) rfl
theorem lf_Md_150 : Cond.fieldLink R_Md 150 R_Md "literals" "I" ∈ wG := wG_of (List.mem_append_right _ (List.mem_of_getElem? (i := 838) (by decide +kernel))) rfl
theorem lf_Md_16 : Cond.fieldLink R_Md 16 R_Md "out" "[I" ∈ wG := wG_of (List.mem_append_right _ (List.mem_of_getElem? (i := 832) (by decide +kernel))) rfl
theorem lf_Md_163 : Cond.fieldLink R_Md 163 R_Md "depth" "I" ∈ wG := wG_of (List.mem_append_right _ (List.mem_of_getElem? (i := 843) (by decide +kernel))) rfl
theorem lf_Md_166 : Cond.fieldLink R_Md 166 R_Md "first" "I" ∈ wG := wG_of (List.mem_append_right _ (List.mem_of_getElem? (i := 841) (by decide +kernel))) rfl
theorem lf_Md_172 : Cond.fieldLink R_Md 172 R_Md "many" "I" ∈ wG := wG_of (List.mem_append_right _ (List.mem_of_getElem? (i := 842) (by decide +kernel))) rfl
theorem lf_Md_178 : Cond.fieldLink R_Md 178 R_Md "sequences" "I" ∈ wG := wG_of (List.mem_append_right _ (List.mem_of_getElem? (i := 853) (by decide +kernel))) rfl
theorem lf_Md_19 : Cond.fieldLink R_Md 19 R_Md "recent" "[I" ∈ wG := wG_of (List.mem_append_right _ (List.mem_of_getElem? (i := 835) (by decide +kernel))) rfl
theorem lf_Md_209 : Cond.fieldLink R_Md 209 R_Md "packed" "I" ∈ wG := wG_of (List.mem_append_right _ (List.mem_of_getElem? (i := 859) (by decide +kernel))) rfl
theorem lf_Md_212 : Cond.fieldLink R_Md 212 R_Md "bits" "I" ∈ wG := wG_of (List.mem_append_right _ (List.mem_of_getElem? (i := 861) (by decide +kernel))) rfl
theorem lf_Md_22 : Cond.fieldLink R_Md 22 R_Md "literal" "[I" ∈ wG := wG_of (List.mem_append_right _ (List.mem_of_getElem? (i := 839) (by decide +kernel))) rfl
theorem lf_Md_25 : Cond.fieldLink R_Md 25 R_Md "weight" "[I" ∈ wG := wG_of (List.mem_append_right _ (List.mem_of_getElem? (i := 844) (by decide +kernel))) rfl
theorem lf_Md_28 : Cond.fieldLink R_Md 28 R_Md "cell" "[I" ∈ wG := wG_of (List.mem_append_right _ (List.mem_of_getElem? (i := 845) (by decide +kernel))) rfl
theorem lf_Md_31 : Cond.fieldLink R_Md 31 R_Md "there" "[Z" ∈ wG := wG_of (List.mem_append_right _ (List.mem_of_getElem? (i := 846) (by decide +kernel))) rfl
theorem lf_Md_35 : Cond.fieldLink R_Md 35 R_Md "single" "[Z" ∈ wG := wG_of (List.mem_append_right _ (List.mem_of_getElem? (i := 847) (by decide +kernel))) rfl
theorem lf_Md_38 : Cond.fieldLink R_Md 38 R_Md "code" "[I" ∈ wG := wG_of (List.mem_append_right _ (List.mem_of_getElem? (i := 848) (by decide +kernel))) rfl
theorem lf_Md_41 : Cond.fieldLink R_Md 41 R_Md "width" "[I" ∈ wG := wG_of (List.mem_append_right _ (List.mem_of_getElem? (i := 849) (by decide +kernel))) rfl
theorem lf_Md_44 : Cond.fieldLink R_Md 44 R_Md "base" "[I" ∈ wG := wG_of (List.mem_append_right _ (List.mem_of_getElem? (i := 850) (by decide +kernel))) rfl
theorem lf_Md_47 : Cond.fieldLink R_Md 47 R_Md "counts" "[I" ∈ wG := wG_of (List.mem_append_right _ (List.mem_of_getElem? (i := 851) (by decide +kernel))) rfl
theorem lf_Md_50 : Cond.fieldLink R_Md 50 R_Md "state" "[I" ∈ wG := wG_of (List.mem_append_right _ (List.mem_of_getElem? (i := 852) (by decide +kernel))) rfl
theorem lf_Md_53 : Cond.fieldLink R_Md 53 R_Md "ahead" "[I" ∈ wG := wG_of (List.mem_append_right _ (List.mem_of_getElem? (i := 854) (by decide +kernel))) rfl
theorem lf_Md_56 : Cond.fieldLink R_Md 56 R_Md "value" "[I" ∈ wG := wG_of (List.mem_append_right _ (List.mem_of_getElem? (i := 855) (by decide +kernel))) rfl
theorem lf_Md_59 : Cond.fieldLink R_Md 59 R_Md "match" "[I" ∈ wG := wG_of (List.mem_append_right _ (List.mem_of_getElem? (i := 856) (by decide +kernel))) rfl
theorem lf_Md_62 : Cond.fieldLink R_Md 62 R_Md "codes" "[I" ∈ wG := wG_of (List.mem_append_right _ (List.mem_of_getElem? (i := 857) (by decide +kernel))) rfl
theorem lf_Md_65 : Cond.fieldLink R_Md 65 R_Md "states" "[I" ∈ wG := wG_of (List.mem_append_right _ (List.mem_of_getElem? (i := 858) (by decide +kernel))) rfl
theorem lf_Md_68 : Cond.fieldLink R_Md 68 R_Md "pack" "[I" ∈ wG := wG_of (List.mem_append_right _ (List.mem_of_getElem? (i := 860) (by decide +kernel))) rfl
theorem lf_Md_7 : Cond.fieldLink R_Md 7 R_Md "content" "[I" ∈ wG := wG_of (List.mem_append_right _ (List.mem_of_getElem? (i := 825) (by decide +kernel))) rfl
theorem lf_Md_71 : Cond.fieldLink R_Md 71 R_Md "bit" "[I" ∈ wG := wG_of (List.mem_append_right _ (List.mem_of_getElem? (i := 862) (by decide +kernel))) rfl
theorem lf_Md_74 : Cond.fieldLink R_Md 74 R_Md "total" "[I" ∈ wG := wG_of (List.mem_append_right _ (List.mem_of_getElem? (i := 863) (by decide +kernel))) rfl
theorem lf_Md_77 : Cond.fieldLink R_Md 77 R_Md "group" "[I" ∈ wG := wG_of (List.mem_append_right _ (List.mem_of_getElem? (i := 864) (by decide +kernel))) rfl
theorem lf_Md_80 : Cond.fieldLink R_Md 80 R_Md "joined" "[I" ∈ wG := wG_of (List.mem_append_right _ (List.mem_of_getElem? (i := 865) (by decide +kernel))) rfl
theorem lf_Md_83 : Cond.fieldLink R_Md 83 R_Md "deep" "[I" ∈ wG := wG_of (List.mem_append_right _ (List.mem_of_getElem? (i := 866) (by decide +kernel))) rfl
theorem lf_Md_86 : Cond.fieldLink R_Md 86 R_Md "size" "I" ∈ wG := wG_of (List.mem_append_right _ (List.mem_of_getElem? (i := 826) (by decide +kernel))) rfl
theorem lf_Md_90 : Cond.fieldLink R_Md 90 R_Md "length" "I" ∈ wG := wG_of (List.mem_append_right _ (List.mem_of_getElem? (i := 828) (by decide +kernel))) rfl
theorem lf_Md_99 : Cond.fieldLink R_Md 99 R_Md "at" "I" ∈ wG := wG_of (List.mem_append_right _ (List.mem_of_getElem? (i := 829) (by decide +kernel))) rfl
theorem lk_Row_27 : Cond.constant R_Row 27 16777619 ∈ wG := wG_of (List.mem_append_right _ (List.mem_of_getElem? (i := 634) (by decide +kernel))) rfl
theorem lk_Row_28 : Cond.constant R_Row 28 65535 ∈ wG := wG_of (List.mem_append_right _ (List.mem_of_getElem? (i := 635) (by decide +kernel))) rfl
theorem lk_Md_93 : Cond.constant R_Md 93 16777619 ∈ wG := wG_of (List.mem_append_right _ (List.mem_of_getElem? (i := 988) (by decide +kernel))) rfl
theorem lk_Md_98 : Cond.constant R_Md 98 65535 ∈ wG := wG_of (List.mem_append_right _ (List.mem_of_getElem? (i := 989) (by decide +kernel))) rfl
theorem lk_Int_264 : Cond.constant R_Int 264 65536 ∈ wG := wG_of (List.mem_append_right _ (List.mem_of_getElem? (i := 534) (by decide +kernel))) rfl
theorem lk_Int_265 : Cond.constant R_Int 265 1431655765 ∈ wG := wG_of (List.mem_append_right _ (List.mem_of_getElem? (i := 538) (by decide +kernel))) rfl
theorem lk_Int_266 : Cond.constant R_Int 266 858993459 ∈ wG := wG_of (List.mem_append_right _ (List.mem_of_getElem? (i := 539) (by decide +kernel))) rfl
theorem lk_Int_267 : Cond.constant R_Int 267 252645135 ∈ wG := wG_of (List.mem_append_right _ (List.mem_of_getElem? (i := 540) (by decide +kernel))) rfl
