def RX0 : String := "TermRules$Meetings"
def TX0 : u_T := fun k => match k with
  | 0 => ("TermRules$Meetings", "isKnown", "Z", false)
  | 1 => ("TermRules$Meetings", "count", "I", false)
  | 2 => ("TermRules$Meetings", "outer", "[I", true)
  | 3 => ("TermRules$Meetings", "inner", "[I", true)
  | 4 => ("TermRules$Meetings", "at", "[I", true)
  | 5 => ("TermRules$Meetings", "codes", "[I", true)
  | 6 => ("TermRules$Meetings", "sizes", "[I", true)
  | 7 => ("TermRules$Meetings", "joined", "[I", true)
  | 8 => ("TermRules$Meetings", "symbolAt", "[I", true)
  | 9 => ("TermRules$Meetings", "isSeen", "[Z", true)
  | 10 => ("TermRules$Meetings", "numbers", "[I", true)
  | 11 => ("TermRules$Meetings", "numbered", "I", false)
  | 12 => ("TermRules$Meetings", "left", "[I", true)
  | 13 => ("TermRules$Meetings", "right", "[I", true)
  | 14 => ("TermRules$Meetings", "waiting", "I", false)
  | _ => ("TermRules$Meetings", "laid", "I", false)
def tyX0 : Nat → FieldType := fun k => match k with
  | 0 => .boolean
  | 1 => .int
  | 2 => .array .int
  | 3 => .array .int
  | 4 => .array .int
  | 5 => .array .int
  | 6 => .array .int
  | 7 => .array .int
  | 8 => .array .int
  | 9 => .array .boolean
  | 10 => .array .int
  | 11 => .int
  | 12 => .array .int
  | 13 => .array .int
  | 14 => .int
  | _ => .int
theorem nmX0 : ∀ a, a < 16 → ∀ b, b < 16 → a ≠ b → (TX0 a).2.1 ≠ (TX0 b).2.1 := by decide +kernel
theorem tyX0_ok : ∀ k, k < 16 → parseFieldDescriptor (TX0 k).2.2.1 = some (tyX0 k) := by decide +kernel
def RX1 : String := "TermRules$Names"
def TX1 : u_T := fun k => match k with
  | 0 => ("TermRules$Names", "heads", "[J", true)
  | 1 => ("TermRules$Names", "tails", "[I", true)
  | _ => ("TermRules$Names", "count", "I", false)
def tyX1 : Nat → FieldType := fun k => match k with
  | 0 => .array .long
  | 1 => .array .int
  | _ => .int
theorem nmX1 : ∀ a, a < 3 → ∀ b, b < 3 → a ≠ b → (TX1 a).2.1 ≠ (TX1 b).2.1 := by decide +kernel
theorem tyX1_ok : ∀ k, k < 3 → parseFieldDescriptor (TX1 k).2.2.1 = some (tyX1 k) := by decide +kernel
def RX2 : String := "TermRules$Orders"
def TX2 : u_T := fun k => match k with
  | 0 => ("TermRules$Orders", "isKnown", "Z", false)
  | 1 => ("TermRules$Orders", "exists", "Z", false)
  | 2 => ("TermRules$Orders", "first", "[I", true)
  | 3 => ("TermRules$Orders", "row", "[I", true)
  | 4 => ("TermRules$Orders", "tried", "[I", true)
  | 5 => ("TermRules$Orders", "before", "[J", true)
  | _ => ("TermRules$Orders", "above", "[J", true)
def tyX2 : Nat → FieldType := fun k => match k with
  | 0 => .boolean
  | 1 => .boolean
  | 2 => .array .int
  | 3 => .array .int
  | 4 => .array .int
  | 5 => .array .long
  | _ => .array .long
theorem nmX2 : ∀ a, a < 7 → ∀ b, b < 7 → a ≠ b → (TX2 a).2.1 ≠ (TX2 b).2.1 := by decide +kernel
theorem tyX2_ok : ∀ k, k < 7 → parseFieldDescriptor (TX2 k).2.2.1 = some (tyX2 k) := by decide +kernel
def RX3 : String := "TermRules$Reducer"
def TX3 : u_T := fun k => match k with
  | 0 => ("TermRules$Reducer", "size", "I", false)
  | 1 => ("TermRules$Reducer", "steps", "I", false)
  | 2 => ("TermRules$Reducer", "heap", "[I", false)
  | 3 => ("TermRules$Reducer", "spare", "[I", false)
  | 4 => ("TermRules$Reducer", "top", "I", false)
  | 5 => ("TermRules$Reducer", "todo", "[I", true)
  | 6 => ("TermRules$Reducer", "todoCount", "I", false)
  | 7 => ("TermRules$Reducer", "done", "[I", true)
  | 8 => ("TermRules$Reducer", "doneCount", "I", false)
  | 9 => ("TermRules$Reducer", "bound", "[I", true)
  | 10 => ("TermRules$Reducer", "waiting", "[I", true)
  | 11 => ("TermRules$Reducer", "left", "[I", true)
  | 12 => ("TermRules$Reducer", "right", "[I", true)
  | _ => ("TermRules$Reducer", "open", "[I", true)
def tyX3 : Nat → FieldType := fun k => match k with
  | 0 => .int
  | 1 => .int
  | 2 => .array .int
  | 3 => .array .int
  | 4 => .int
  | 5 => .array .int
  | 6 => .int
  | 7 => .array .int
  | 8 => .int
  | 9 => .array .int
  | 10 => .array .int
  | 11 => .array .int
  | 12 => .array .int
  | _ => .array .int
theorem nmX3 : ∀ a, a < 14 → ∀ b, b < 14 → a ≠ b → (TX3 a).2.1 ≠ (TX3 b).2.1 := by decide +kernel
theorem tyX3_ok : ∀ k, k < 14 → parseFieldDescriptor (TX3 k).2.2.1 = some (tyX3 k) := by decide +kernel
def RX4 : String := "TermRules$Rule"
def TX4 : u_T := fun k => match k with
  | 0 => ("TermRules$Rule", "front", "LTermRules$Side;", true)
  | 1 => ("TermRules$Rule", "other", "LTermRules$Side;", true)
  | 2 => ("TermRules$Rule", "turned", "[I", true)
  | 3 => ("TermRules$Rule", "firstAt", "[I", true)
  | _ => ("TermRules$Rule", "variables", "I", false)
def tyX4 : Nat → FieldType := fun k => match k with
  | 0 => .object "TermRules$Side"
  | 1 => .object "TermRules$Side"
  | 2 => .array .int
  | 3 => .array .int
  | _ => .int
theorem nmX4 : ∀ a, a < 5 → ∀ b, b < 5 → a ≠ b → (TX4 a).2.1 ≠ (TX4 b).2.1 := by decide +kernel
theorem tyX4_ok : ∀ k, k < 5 → parseFieldDescriptor (TX4 k).2.2.1 = some (tyX4 k) := by decide +kernel
def RX5 : String := "TermRules$RuleBook"
def TX5 : u_T := fun k => match k with
  | 0 => ("TermRules$RuleBook", "rules", "[LTermRules$Rule;", true)
  | 1 => ("TermRules$RuleBook", "symbols", "LTermRules$Names;", true)
  | 2 => ("TermRules$RuleBook", "parts", "[I", true)
  | 3 => ("TermRules$RuleBook", "count", "I", false)
  | 4 => ("TermRules$RuleBook", "ruleVariables", "LTermRules$Names;", true)
  | _ => ("TermRules$RuleBook", "open", "[I", true)
def tyX5 : Nat → FieldType := fun k => match k with
  | 0 => .array (.object "TermRules$Rule")
  | 1 => .object "TermRules$Names"
  | 2 => .array .int
  | 3 => .int
  | 4 => .object "TermRules$Names"
  | _ => .array .int
theorem nmX5 : ∀ a, a < 6 → ∀ b, b < 6 → a ≠ b → (TX5 a).2.1 ≠ (TX5 b).2.1 := by decide +kernel
theorem tyX5_ok : ∀ k, k < 6 → parseFieldDescriptor (TX5 k).2.2.1 = some (tyX5 k) := by decide +kernel
def RX6 : String := "TermRules$Side"
def TX6 : u_T := fun k => match k with
  | 0 => ("TermRules$Side", "codes", "[I", true)
  | 1 => ("TermRules$Side", "sizes", "[I", true)
  | _ => ("TermRules$Side", "count", "I", false)
def tyX6 : Nat → FieldType := fun k => match k with
  | 0 => .array .int
  | 1 => .array .int
  | _ => .int
theorem nmX6 : ∀ a, a < 3 → ∀ b, b < 3 → a ≠ b → (TX6 a).2.1 ≠ (TX6 b).2.1 := by decide +kernel
theorem tyX6_ok : ∀ k, k < 3 → parseFieldDescriptor (TX6 k).2.2.1 = some (tyX6 k) := by decide +kernel
def RX7 : String := "TermRules$Text"
def TX7 : u_T := fun k => match k with
  | 0 => ("TermRules$Text", "tokens", "LTermRules$Tokens;", true)
  | 1 => ("TermRules$Text", "open", "[I", true)
  | 2 => ("TermRules$Text", "depth", "I", false)
  | 3 => ("TermRules$Text", "state", "I", false)
  | 4 => ("TermRules$Text", "kind", "I", false)
  | 5 => ("TermRules$Text", "at", "[I", true)
  | 6 => ("TermRules$Text", "heads", "[J", true)
  | 7 => ("TermRules$Text", "tails", "[I", true)
  | 8 => ("TermRules$Text", "parts", "[I", true)
  | 9 => ("TermRules$Text", "sideOf", "[I", true)
  | 10 => ("TermRules$Text", "side", "I", false)
  | _ => ("TermRules$Text", "count", "I", false)
def tyX7 : Nat → FieldType := fun k => match k with
  | 0 => .object "TermRules$Tokens"
  | 1 => .array .int
  | 2 => .int
  | 3 => .int
  | 4 => .int
  | 5 => .array .int
  | 6 => .array .long
  | 7 => .array .int
  | 8 => .array .int
  | 9 => .array .int
  | 10 => .int
  | _ => .int
theorem nmX7 : ∀ a, a < 12 → ∀ b, b < 12 → a ≠ b → (TX7 a).2.1 ≠ (TX7 b).2.1 := by decide +kernel
theorem tyX7_ok : ∀ k, k < 12 → parseFieldDescriptor (TX7 k).2.2.1 = some (tyX7 k) := by decide +kernel
def RX8 : String := "TermRules$Tokens"
def TX8 : u_T := fun k => match k with
  | 0 => ("TermRules$Tokens", "tape", "[B", false)
  | 1 => ("TermRules$Tokens", "end", "I", false)
  | 2 => ("TermRules$Tokens", "next", "I", false)
  | 3 => ("TermRules$Tokens", "kind", "I", false)
  | 4 => ("TermRules$Tokens", "at", "I", false)
  | 5 => ("TermRules$Tokens", "head", "J", false)
  | _ => ("TermRules$Tokens", "tail", "I", false)
def tyX8 : Nat → FieldType := fun k => match k with
  | 0 => .array .byte
  | 1 => .int
  | 2 => .int
  | 3 => .int
  | 4 => .int
  | 5 => .long
  | _ => .int
theorem nmX8 : ∀ a, a < 7 → ∀ b, b < 7 → a ≠ b → (TX8 a).2.1 ≠ (TX8 b).2.1 := by decide +kernel
theorem tyX8_ok : ∀ k, k < 7 → parseFieldDescriptor (TX8 k).2.2.1 = some (tyX8 k) := by decide +kernel
def RX9 : String := "TermRules$Writer"
def TX9 : u_T := fun k => match k with
  | 0 => ("TermRules$Writer", "draft", "[B", true)
  | 1 => ("TermRules$Writer", "length", "I", false)
  | 2 => ("TermRules$Writer", "open", "[I", true)
  | _ => ("TermRules$Writer", "depth", "I", false)
def tyX9 : Nat → FieldType := fun k => match k with
  | 0 => .array .byte
  | 1 => .int
  | 2 => .array .int
  | _ => .int
theorem nmX9 : ∀ a, a < 4 → ∀ b, b < 4 → a ≠ b → (TX9 a).2.1 ≠ (TX9 b).2.1 := by decide +kernel
theorem tyX9_ok : ∀ k, k < 4 → parseFieldDescriptor (TX9 k).2.2.1 = some (tyX9 k) := by decide +kernel
def RX10 : String := "TermRules"
def TX10 : u_T := fun k => match k with
  | 0 => ("TermRules", "tape", "[B", true)
  | 1 => ("TermRules", "fed", "I", false)
  | 2 => ("TermRules", "metAt", "I", false)
  | 3 => ("TermRules", "text", "LTermRules$Text;", true)
  | 4 => ("TermRules", "book", "LTermRules$RuleBook;", true)
  | 5 => ("TermRules", "variables", "LTermRules$Names;", true)
  | 6 => ("TermRules", "term", "[I", true)
  | 7 => ("TermRules", "firstEnd", "[I", true)
  | 8 => ("TermRules", "secondEnd", "[I", true)
  | 9 => ("TermRules", "reducer", "LTermRules$Reducer;", true)
  | 10 => ("TermRules", "orders", "LTermRules$Orders;", true)
  | 11 => ("TermRules", "found", "LTermRules$Meetings;", true)
  | 12 => ("TermRules", "writer", "LTermRules$Writer;", true)
  | 13 => ("TermRules", "resultBytes", "[B", true)
  | 14 => ("TermRules", "resultLength", "I", false)
  | 15 => ("TermRules", "writtenBytes", "[B", true)
  | 16 => ("TermRules", "writtenLength", "I", false)
  | _ => ("TermRules", "sure", "I", false)
def tyX10 : Nat → FieldType := fun k => match k with
  | 0 => .array .byte
  | 1 => .int
  | 2 => .int
  | 3 => .object "TermRules$Text"
  | 4 => .object "TermRules$RuleBook"
  | 5 => .object "TermRules$Names"
  | 6 => .array .int
  | 7 => .array .int
  | 8 => .array .int
  | 9 => .object "TermRules$Reducer"
  | 10 => .object "TermRules$Orders"
  | 11 => .object "TermRules$Meetings"
  | 12 => .object "TermRules$Writer"
  | 13 => .array .byte
  | 14 => .int
  | 15 => .array .byte
  | 16 => .int
  | _ => .int
theorem nmX10 : ∀ a, a < 18 → ∀ b, b < 18 → a ≠ b → (TX10 a).2.1 ≠ (TX10 b).2.1 := by decide +kernel
theorem tyX10_ok : ∀ k, k < 18 → parseFieldDescriptor (TX10 k).2.2.1 = some (tyX10 k) := by decide +kernel
def RX11 : String := "TermRulesModel"
def TX11 : u_T := fun k => match k with
  | 0 => ("TermRulesModel", "tape", "[I", true)
  | 1 => ("TermRulesModel", "size", "I", false)
  | 2 => ("TermRulesModel", "place", "I", false)
  | 3 => ("TermRulesModel", "token", "[I", true)
  | 4 => ("TermRulesModel", "at", "[I", true)
  | 5 => ("TermRulesModel", "lengthOf", "[I", true)
  | 6 => ("TermRulesModel", "tokens", "I", false)
  | 7 => ("TermRulesModel", "t", "I", false)
  | 8 => ("TermRulesModel", "fault", "I", false)
  | 9 => ("TermRulesModel", "nodeToken", "[I", true)
  | 10 => ("TermRulesModel", "nodeParts", "[I", true)
  | 11 => ("TermRulesModel", "nodes", "I", false)
  | 12 => ("TermRulesModel", "waiting", "[I", true)
  | 13 => ("TermRulesModel", "frontAt", "[I", true)
  | 14 => ("TermRulesModel", "otherAt", "[I", true)
  | 15 => ("TermRulesModel", "read", "I", false)
  | 16 => ("TermRulesModel", "symbols", "I", false)
  | 17 => ("TermRulesModel", "symbolToken", "[I", true)
  | 18 => ("TermRulesModel", "parts", "[I", true)
  | 19 => ("TermRulesModel", "letters", "[I", true)
  | 20 => ("TermRulesModel", "letterCount", "[I", true)
  | 21 => ("TermRulesModel", "rules", "I", false)
  | 22 => ("TermRulesModel", "front", "[I", true)
  | 23 => ("TermRulesModel", "frontSize", "[I", true)
  | 24 => ("TermRulesModel", "other", "[I", true)
  | 25 => ("TermRulesModel", "otherSize", "[I", true)
  | 26 => ("TermRulesModel", "variableToken", "[I", true)
  | 27 => ("TermRulesModel", "variables", "I", false)
  | 28 => ("TermRulesModel", "isOrdered", "Z", false)
  | 29 => ("TermRulesModel", "hasOrder", "Z", false)
  | 30 => ("TermRulesModel", "order", "[I", true)
  | 31 => ("TermRulesModel", "rank", "[I", true)
  | 32 => ("TermRulesModel", "isAbove", "[Z", true)
  | 33 => ("TermRulesModel", "isLike", "[Z", true)
  | 34 => ("TermRulesModel", "frontEnd", "[I", true)
  | 35 => ("TermRulesModel", "otherEnd", "[I", true)
  | 36 => ("TermRulesModel", "row", "[I", true)
  | 37 => ("TermRulesModel", "next", "[I", true)
  | 38 => ("TermRulesModel", "end", "[I", true)
  | 39 => ("TermRulesModel", "count", "I", false)
  | 40 => ("TermRulesModel", "steps", "I", false)
  | 41 => ("TermRulesModel", "given", "[I", true)
  | 42 => ("TermRulesModel", "nameToken", "[I", true)
  | 43 => ("TermRulesModel", "names", "I", false)
  | 44 => ("TermRulesModel", "secondAt", "I", false)
  | 45 => ("TermRulesModel", "hasResult", "Z", false)
  | 46 => ("TermRulesModel", "result", "[I", true)
  | 47 => ("TermRulesModel", "resultCount", "I", false)
  | 48 => ("TermRulesModel", "resultTape", "[I", true)
  | 49 => ("TermRulesModel", "resultName", "[I", true)
  | 50 => ("TermRulesModel", "resultLength", "[I", true)
  | 51 => ("TermRulesModel", "kept", "[I", true)
  | 52 => ("TermRulesModel", "keptCount", "I", false)
  | 53 => ("TermRulesModel", "all", "[I", true)
  | 54 => ("TermRulesModel", "allEnd", "[I", true)
  | 55 => ("TermRulesModel", "bound", "[I", true)
  | 56 => ("TermRulesModel", "seen", "[Z", true)
  | 57 => ("TermRulesModel", "pile", "[I", true)
  | 58 => ("TermRulesModel", "top", "I", false)
  | 59 => ("TermRulesModel", "isMet", "Z", false)
  | 60 => ("TermRulesModel", "meetings", "I", false)
  | 61 => ("TermRulesModel", "meetingRule", "[I", true)
  | 62 => ("TermRulesModel", "meetingOther", "[I", true)
  | 63 => ("TermRulesModel", "meetingPart", "[I", true)
  | 64 => ("TermRulesModel", "number", "[I", true)
  | 65 => ("TermRulesModel", "numbers", "I", false)
  | 66 => ("TermRulesModel", "side", "[I", true)
  | 67 => ("TermRulesModel", "sideCount", "I", false)
  | 68 => ("TermRulesModel", "paper", "[I", true)
  | 69 => ("TermRulesModel", "written", "I", false)
  | 70 => ("TermRulesModel", "draft", "[I", true)
  | 71 => ("TermRulesModel", "drawn", "I", false)
  | _ => ("TermRulesModel", "open", "[I", true)
def tyX11 : Nat → FieldType := fun k => match k with
  | 0 => .array .int
  | 1 => .int
  | 2 => .int
  | 3 => .array .int
  | 4 => .array .int
  | 5 => .array .int
  | 6 => .int
  | 7 => .int
  | 8 => .int
  | 9 => .array .int
  | 10 => .array .int
  | 11 => .int
  | 12 => .array .int
  | 13 => .array .int
  | 14 => .array .int
  | 15 => .int
  | 16 => .int
  | 17 => .array .int
  | 18 => .array .int
  | 19 => .array .int
  | 20 => .array .int
  | 21 => .int
  | 22 => .array .int
  | 23 => .array .int
  | 24 => .array .int
  | 25 => .array .int
  | 26 => .array .int
  | 27 => .int
  | 28 => .boolean
  | 29 => .boolean
  | 30 => .array .int
  | 31 => .array .int
  | 32 => .array .boolean
  | 33 => .array .boolean
  | 34 => .array .int
  | 35 => .array .int
  | 36 => .array .int
  | 37 => .array .int
  | 38 => .array .int
  | 39 => .int
  | 40 => .int
  | 41 => .array .int
  | 42 => .array .int
  | 43 => .int
  | 44 => .int
  | 45 => .boolean
  | 46 => .array .int
  | 47 => .int
  | 48 => .array .int
  | 49 => .array .int
  | 50 => .array .int
  | 51 => .array .int
  | 52 => .int
  | 53 => .array .int
  | 54 => .array .int
  | 55 => .array .int
  | 56 => .array .boolean
  | 57 => .array .int
  | 58 => .int
  | 59 => .boolean
  | 60 => .int
  | 61 => .array .int
  | 62 => .array .int
  | 63 => .array .int
  | 64 => .array .int
  | 65 => .int
  | 66 => .array .int
  | 67 => .int
  | 68 => .array .int
  | 69 => .int
  | 70 => .array .int
  | 71 => .int
  | _ => .array .int
theorem nmX11 : ∀ a, a < 73 → ∀ b, b < 73 → a ≠ b → (TX11 a).2.1 ≠ (TX11 b).2.1 := by decide +kernel
theorem tyX11_ok : ∀ k, k < 73 → parseFieldDescriptor (TX11 k).2.2.1 = some (tyX11 k) := by decide +kernel
abbrev vwCl : List vw_C := [(RX0, TX0, 16), (RX1, TX1, 3), (RX2, TX2, 7), (RX3, TX3, 14), (RX4, TX4, 5), (RX5, TX5, 6), (RX6, TX6, 3), (RX7, TX7, 12), (RX8, TX8, 7), (RX9, TX9, 4), (RX10, TX10, 18), (RX11, TX11, 73)]
/-! the program's own tables, by program: classes by number, methods by number, links -/
def tm_cns : List String := [RX0, RX1, RX2, RX3, RX4, RX5, RX6, RX7, RX8, RX9, RX10, RX11, "TermRulesLaw", "java/lang/Math", "java/util/Arrays"]
def tm_cn (o : Nat) : String := tm_cns.getD o ""
def tm_gw : List Cond := lw_tbl.filter goodWord
def tm_ty (c : Nat) : Nat → FieldType := match c with
  | 0 => tyX0
  | 1 => tyX1
  | 2 => tyX2
  | 3 => tyX3
  | 4 => tyX4
  | 5 => tyX5
  | 6 => tyX6
  | 7 => tyX7
  | 8 => tyX8
  | 9 => tyX9
  | 10 => tyX10
  | _ => tyX11
theorem tm_in {w : Cond} (t : Nat) (h : lw_tbl[t]? = some w) (g : goodWord w = true) : w ∈ tm_gw := List.mem_filter.mpr ⟨List.mem_of_getElem? h, g⟩
abbrev tm_row : Type := MethodName × ByteArray × Nat × Option FieldType
def tm_rows_0 : List tm_row := [(⟨"TermRules", "<init>", "()V"⟩, prog_1_method_1_code, 1, none), (⟨"TermRules$Text", "<init>", "()V"⟩, prog_9_method_1_code, 1, none), (⟨"TermRules$Tokens", "<init>", "()V"⟩, prog_10_method_1_code, 1, none), (⟨"TermRules$RuleBook", "<init>", "()V"⟩, prog_7_method_1_code, 2, none), (⟨"TermRules$Names", "<init>", "(I)V"⟩, prog_3_method_1_code, 2, none), (⟨"TermRules$Rule", "<init>", "()V"⟩, prog_6_method_1_code, 1, none), (⟨"TermRules$Side", "<init>", "()V"⟩, prog_8_method_1_code, 1, none), (⟨"TermRules$Reducer", "<init>", "()V"⟩, prog_5_method_1_code, 1, none), (⟨"TermRules$Orders", "<init>", "()V"⟩, prog_4_method_1_code, 1, none), (⟨"TermRules$Meetings", "<init>", "()V"⟩, prog_2_method_1_code, 1, none), (⟨"TermRules$Writer", "<init>", "()V"⟩, prog_11_method_1_code, 1, none), (⟨"TermRules", "feed", "(IIIII)I"⟩, prog_1_method_2_code, 6, (some .int)), (⟨"TermRules", "layFour", "(I)V"⟩, prog_1_method_3_code, 3, none), (⟨"TermRules", "rules", "(I)I"⟩, prog_1_method_4_code, 2, (some .int)), (⟨"TermRules", "forgetRules", "()V"⟩, prog_1_method_5_code, 1, none), (⟨"TermRules$RuleBook", "clear", "()V"⟩, prog_7_method_2_code, 1, none)]
def tm_rows_1 : List tm_row := [(⟨"TermRules$Text", "findFault", "([BII)I"⟩, prog_9_method_2_code, 5, (some .int)), (⟨"TermRules$Tokens", "begin", "([BI)V"⟩, prog_10_method_2_code, 3, none), (⟨"TermRules$Tokens", "step", "()V"⟩, prog_10_method_3_code, 1, none), (⟨"TermRules$Tokens", "isBlank", "(I)Z"⟩, prog_10_method_5_code, 1, (some .boolean)), (⟨"TermRules$Tokens", "isLetter", "(I)Z"⟩, prog_10_method_6_code, 1, (some .boolean)), (⟨"TermRules$Tokens", "readName", "()I"⟩, prog_10_method_4_code, 2, (some .int)), (⟨"TermRules$Tokens", "isDigit", "(I)Z"⟩, prog_10_method_7_code, 1, (some .boolean)), (⟨"TermRules$Tokens", "isSign", "(I)Z"⟩, prog_10_method_8_code, 1, (some .boolean)), (⟨"TermRules$Text", "mayEnd", "()Z"⟩, prog_9_method_11_code, 1, (some .boolean)), (⟨"TermRules$Text", "isBehindTerm", "()Z"⟩, prog_9_method_9_code, 1, (some .boolean)), (⟨"TermRules$Text", "goesOn", "(I)Z"⟩, prog_9_method_3_code, 2, (some .boolean)), (⟨"TermRules$Text", "beginTerm", "()Z"⟩, prog_9_method_4_code, 2, (some .boolean)), (⟨"TermRules$Text", "isVariable", "(I)Z"⟩, prog_9_method_12_code, 4, (some .boolean)), (⟨"TermRules$Text", "openParts", "()Z"⟩, prog_9_method_5_code, 1, (some .boolean)), (⟨"TermRules$Text", "endTerm", "(ZI)Z"⟩, prog_9_method_8_code, 3, (some .boolean)), (⟨"TermRules$Text", "closeParts", "()Z"⟩, prog_9_method_6_code, 1, (some .boolean))]
def tm_rows_2 : List tm_row := [(⟨"TermRules$Text", "mayEqual", "()Z"⟩, prog_9_method_10_code, 1, (some .boolean)), (⟨"TermRules$Text", "endSide", "(ZI)Z"⟩, prog_9_method_7_code, 3, (some .boolean)), (⟨"TermRules$RuleBook", "takeRules", "(LTermRules$Text;)I"⟩, prog_7_method_3_code, 3, (some .int)), (⟨"TermRules$RuleBook", "takeNode", "(LTermRules$Text;I)Z"⟩, prog_7_method_4_code, 8, (some .boolean)), (⟨"TermRules$RuleBook", "variableCode", "(LTermRules$Text;ILTermRules$Rule;Z)I"⟩, prog_7_method_5_code, 7, (some .int)), (⟨"TermRules$Names", "find", "(JI)I"⟩, prog_3_method_2_code, 5, (some .int)), (⟨"TermRules$Names", "add", "(JI)I"⟩, prog_3_method_3_code, 4, (some .int)), (⟨"TermRules$RuleBook", "newSymbolCode", "(LTermRules$Text;I)I"⟩, prog_7_method_6_code, 4, (some .int)), (⟨"TermRules$RuleBook", "symbolCode", "(LTermRules$Text;I)I"⟩, prog_7_method_7_code, 4, (some .int)), (⟨"TermRules$RuleBook", "finish", "(LTermRules$Rule;)V"⟩, prog_7_method_8_code, 2, none), (⟨"TermRules$Side", "measure", "([I)V"⟩, prog_8_method_2_code, 5, none), (⟨"TermRules", "turnRound", "([I[III[I[I)V"⟩, prog_1_method_25_code, 10, none), (⟨"TermRules", "place", "()I"⟩, prog_1_method_6_code, 1, (some .int)), (⟨"TermRules", "symbols", "()I"⟩, prog_1_method_7_code, 1, (some .int)), (⟨"TermRules", "parts", "(I)I"⟩, prog_1_method_8_code, 2, (some .int)), (⟨"TermRules", "order", "(I)I"⟩, prog_1_method_9_code, 3, (some .int))]
def tm_rows_3 : List tm_row := [(⟨"TermRules$Orders", "find", "(LTermRules$RuleBook;)V"⟩, prog_4_method_2_code, 6, none), (⟨"java/util/Arrays", "fill", "([JJ)V"⟩, prog_16_method_101_code, 5, none), (⟨"TermRules$Orders", "tryRow", "(II)V"⟩, prog_4_method_3_code, 5, none), (⟨"TermRules$Orders", "stepRow", "(I)Z"⟩, prog_4_method_4_code, 6, (some .boolean)), (⟨"TermRules$Orders", "swap", "(II)V"⟩, prog_4_method_5_code, 4, none), (⟨"TermRules$Orders", "endBits", "(LTermRules$RuleBook;)J"⟩, prog_4_method_7_code, 9, (some .long)), (⟨"TermRules$Orders", "partBits", "(LTermRules$Side;ILTermRules$Side;I)J"⟩, prog_4_method_8_code, 8, (some .long)), (⟨"TermRules$Side", "hasSamePart", "(ILTermRules$Side;I)Z"⟩, prog_8_method_3_code, 5, (some .boolean)), (⟨"TermRules$Orders", "overPartsBits", "(LTermRules$Side;ILTermRules$Side;I)J"⟩, prog_4_method_9_code, 10, (some .long)), (⟨"TermRules$Orders", "differenceBits", "(LTermRules$Side;ILTermRules$Side;I)J"⟩, prog_4_method_10_code, 7, (some .long)), (⟨"TermRules$Orders", "keepFirst", "(JII)V"⟩, prog_4_method_6_code, 6, none), (⟨"TermRules", "reduce", "(I)I"⟩, prog_1_method_10_code, 4, (some .int)), (⟨"TermRules", "readTerms", "(II)I"⟩, prog_1_method_12_code, 3, (some .int)), (⟨"TermRules$RuleBook", "takeTerms", "(LTermRules$Text;LTermRules$Names;[I)I"⟩, prog_7_method_9_code, 6, (some .int)), (⟨"TermRules$Names", "findOrAdd", "(JI)I"⟩, prog_3_method_4_code, 5, (some .int)), (⟨"TermRules$Reducer", "run", "(LTermRules$RuleBook;[III[I)I"⟩, prog_5_method_2_code, 8, (some .int))]
def tm_rows_4 : List tm_row := [(⟨"TermRules$Reducer", "begin", "(LTermRules$RuleBook;[III)V"⟩, prog_5_method_3_code, 6, none), (⟨"TermRules$Reducer", "build", "(LTermRules$RuleBook;I)Z"⟩, prog_5_method_4_code, 6, (some .boolean)), (⟨"TermRules$Reducer", "makeNode", "(LTermRules$RuleBook;I)I"⟩, prog_5_method_5_code, 7, (some .int)), (⟨"TermRules$Reducer", "pack", "(LTermRules$RuleBook;)V"⟩, prog_5_method_6_code, 7, none), (⟨"TermRules$Reducer", "move", "(LTermRules$RuleBook;I)I"⟩, prog_5_method_7_code, 5, (some .int)), (⟨"TermRules$Reducer", "partsAt", "(LTermRules$RuleBook;I)I"⟩, prog_5_method_8_code, 2, (some .int)), (⟨"TermRules$Reducer", "matches", "(LTermRules$RuleBook;LTermRules$Rule;I)Z"⟩, prog_5_method_9_code, 8, (some .boolean)), (⟨"TermRules$Reducer", "layParts", "([IIII)I"⟩, prog_5_method_10_code, 6, (some .int)), (⟨"TermRules$Reducer", "isSameTerm", "(LTermRules$RuleBook;II)Z"⟩, prog_5_method_11_code, 9, (some .boolean)), (⟨"TermRules$Reducer", "doStep", "(LTermRules$Rule;I)Z"⟩, prog_5_method_12_code, 6, (some .boolean)), (⟨"TermRules$Reducer", "layEnd", "(LTermRules$RuleBook;[I)V"⟩, prog_5_method_13_code, 6, none), (⟨"TermRules$Writer", "draw", "(LTermRules$RuleBook;[IILTermRules$Names;)I"⟩, prog_11_method_2_code, 7, (some .int)), (⟨"TermRules$Writer", "putName", "(LTermRules$Names;I)V"⟩, prog_11_method_4_code, 7, none), (⟨"TermRules$Writer", "put", "(I)V"⟩, prog_11_method_6_code, 2, none), (⟨"TermRules$Writer", "putNumber", "(I)V"⟩, prog_11_method_5_code, 2, none), (⟨"TermRules$Writer", "putSigns", "(I)V"⟩, prog_11_method_3_code, 2, none)]
def tm_rows_5 : List tm_row := [(⟨"TermRules", "copyDraft", "([BI)V"⟩, prog_1_method_22_code, 3, none), (⟨"TermRules", "same", "(I)I"⟩, prog_1_method_11_code, 5, (some .int)), (⟨"TermRules$Text", "nodesOfSide", "(I)I"⟩, prog_9_method_13_code, 4, (some .int)), (⟨"TermRules", "haveSameEnd", "(II)Z"⟩, prog_1_method_13_code, 4, (some .boolean)), (⟨"TermRules", "meetings", "()I"⟩, prog_1_method_14_code, 1, (some .int)), (⟨"TermRules$Meetings", "find", "(LTermRules$RuleBook;)V"⟩, prog_2_method_2_code, 4, none), (⟨"TermRules$Meetings", "findAt", "(LTermRules$RuleBook;II)V"⟩, prog_2_method_3_code, 7, none), (⟨"TermRules$Meetings", "join", "(LTermRules$Rule;ILTermRules$Rule;)Z"⟩, prog_2_method_4_code, 5, (some .boolean)), (⟨"TermRules$Meetings", "beginClasses", "(LTermRules$Rule;I)V"⟩, prog_2_method_5_code, 5, none), (⟨"TermRules$Meetings", "classOf", "(I)I"⟩, prog_2_method_6_code, 4, (some .int)), (⟨"TermRules$Meetings", "joinClasses", "(II)Z"⟩, prog_2_method_7_code, 3, (some .boolean)), (⟨"TermRules$Meetings", "layParts", "([II)I"⟩, prog_2_method_8_code, 7, (some .int)), (⟨"TermRules$Meetings", "isFinite", "(I)Z"⟩, prog_2_method_9_code, 5, (some .boolean)), (⟨"TermRules$Meetings", "forgetSeen", "()V"⟩, prog_2_method_10_code, 2, none), (⟨"TermRules$Meetings", "hasSeenParts", "(I)Z"⟩, prog_2_method_11_code, 4, (some .boolean)), (⟨"TermRules", "meeting", "(II)I"⟩, prog_1_method_15_code, 3, (some .int))]
def tm_rows_6 : List tm_row := [(⟨"TermRules", "isMeeting", "(I)Z"⟩, prog_1_method_16_code, 2, (some .boolean)), (⟨"TermRules", "closes", "(I)I"⟩, prog_1_method_17_code, 2, (some .int)), (⟨"TermRules", "compareSides", "(I)I"⟩, prog_1_method_18_code, 5, (some .int)), (⟨"TermRules$Meetings", "laySide", "(LTermRules$RuleBook;II[I)I"⟩, prog_2_method_12_code, 7, (some .int)), (⟨"TermRules$Meetings", "walkSide", "(LTermRules$Rule;LTermRules$Rule;II[I)V"⟩, prog_2_method_13_code, 6, none), (⟨"TermRules$Meetings", "walk", "(LTermRules$Rule;LTermRules$Side;III[I)V"⟩, prog_2_method_14_code, 9, none), (⟨"TermRules$Meetings", "lay", "([II)V"⟩, prog_2_method_15_code, 3, none), (⟨"TermRules$Meetings", "numberVariables", "(I)V"⟩, prog_2_method_16_code, 4, none), (⟨"TermRules$Meetings", "layClass", "([II)V"⟩, prog_2_method_17_code, 5, none), (⟨"TermRules", "isSure", "()I"⟩, prog_1_method_19_code, 2, (some .int)), (⟨"TermRules", "write", "(IIZ)I"⟩, prog_1_method_20_code, 5, (some .int)), (⟨"TermRules", "drawSide", "([II)I"⟩, prog_1_method_21_code, 4, (some .int)), (⟨"TermRules", "result", "()I"⟩, prog_1_method_23_code, 1, (some .int)), (⟨"TermRules", "written", "(I)I"⟩, prog_1_method_24_code, 2, (some .int)), (⟨"TermRulesModel", "<init>", "()V"⟩, prog_13_method_1_code, 1, none), (⟨"TermRulesModel", "feed", "(IIIII)I"⟩, prog_13_method_2_code, 6, (some .int))]
def tm_rows_7 : List tm_row := [(⟨"TermRulesModel", "four", "(I)V"⟩, prog_13_method_3_code, 3, none), (⟨"TermRulesModel", "rules", "(I)I"⟩, prog_13_method_20_code, 5, (some .int)), (⟨"TermRulesModel", "forget", "()V"⟩, prog_13_method_19_code, 1, none), (⟨"TermRulesModel", "cutUp", "(I)V"⟩, prog_13_method_7_code, 7, none), (⟨"TermRulesModel", "sign", "(I)I"⟩, prog_13_method_6_code, 1, (some .int)), (⟨"TermRulesModel", "isLetter", "(I)Z"⟩, prog_13_method_4_code, 1, (some .boolean)), (⟨"TermRulesModel", "isDigit", "(I)Z"⟩, prog_13_method_5_code, 1, (some .boolean)), (⟨"TermRulesModel", "note", "(III)V"⟩, prog_13_method_8_code, 4, none), (⟨"TermRulesModel", "readRules", "()Z"⟩, prog_13_method_13_code, 1, (some .boolean)), (⟨"TermRulesModel", "readTerm", "()Z"⟩, prog_13_method_12_code, 3, (some .boolean)), (⟨"TermRulesModel", "fails", "()Z"⟩, prog_13_method_10_code, 1, (some .boolean)), (⟨"TermRulesModel", "takes", "(I)Z"⟩, prog_13_method_11_code, 2, (some .boolean)), (⟨"TermRulesModel", "wrongNode", "()I"⟩, prog_13_method_18_code, 4, (some .int)), (⟨"TermRulesModel", "isRight", "(IIZI)Z"⟩, prog_13_method_16_code, 8, (some .boolean)), (⟨"TermRulesModel", "variable", "(I)I"⟩, prog_13_method_15_code, 3, (some .int)), (⟨"TermRulesModel", "isNamed", "(II)Z"⟩, prog_13_method_9_code, 5, (some .boolean))]
def tm_rows_8 : List tm_row := [(⟨"TermRulesModel", "enter", "(IZII)V"⟩, prog_13_method_17_code, 5, none), (⟨"TermRulesModel", "known", "(I)I"⟩, prog_13_method_14_code, 3, (some .int)), (⟨"TermRulesModel", "place", "()I"⟩, prog_13_method_21_code, 1, (some .int)), (⟨"TermRulesModel", "symbols", "()I"⟩, prog_13_method_22_code, 1, (some .int)), (⟨"TermRulesModel", "parts", "(I)I"⟩, prog_13_method_23_code, 2, (some .int)), (⟨"TermRulesModel", "order", "(I)I"⟩, prog_13_method_33_code, 2, (some .int)), (⟨"TermRulesModel", "findOrder", "()V"⟩, prog_13_method_32_code, 2, none), (⟨"TermRulesModel", "allEnd", "()Z"⟩, prog_13_method_30_code, 3, (some .boolean)), (⟨"TermRulesModel", "isEnding", "(I)Z"⟩, prog_13_method_29_code, 4, (some .boolean)), (⟨"TermRulesModel", "ends", "([III[I)V"⟩, prog_13_method_25_code, 8, none), (⟨"TermRulesModel", "partsOf", "(I)I"⟩, prog_13_method_24_code, 2, (some .int)), (⟨"TermRulesModel", "findLike", "(III)Z"⟩, prog_13_method_28_code, 7, (some .boolean)), (⟨"TermRulesModel", "findAbove", "(III)Z"⟩, prog_13_method_27_code, 9, (some .boolean)), (⟨"TermRulesModel", "has", "(III)Z"⟩, prog_13_method_26_code, 6, (some .boolean)), (⟨"TermRulesModel", "goesOn", "()Z"⟩, prog_13_method_31_code, 6, (some .boolean)), (⟨"TermRulesModel", "reduce", "(I)I"⟩, prog_13_method_43_code, 5, (some .int))]
def tm_rows_9 : List tm_row := [(⟨"TermRulesModel", "readText", "(IZ)I"⟩, prog_13_method_42_code, 5, (some .int)), (⟨"TermRulesModel", "wrongInTerm", "()I"⟩, prog_13_method_40_code, 3, (some .int)), (⟨"TermRulesModel", "codeOf", "(I)I"⟩, prog_13_method_39_code, 6, (some .int)), (⟨"TermRulesModel", "load", "(II)Z"⟩, prog_13_method_41_code, 4, (some .boolean)), (⟨"TermRulesModel", "reduces", "()Z"⟩, prog_13_method_38_code, 2, (some .boolean)), (⟨"TermRulesModel", "step", "()I"⟩, prog_13_method_37_code, 9, (some .int)), (⟨"TermRulesModel", "ruleAt", "(I)I"⟩, prog_13_method_36_code, 3, (some .int)), (⟨"TermRulesModel", "matches", "(II)Z"⟩, prog_13_method_35_code, 7, (some .boolean)), (⟨"TermRulesModel", "isSame", "(II)Z"⟩, prog_13_method_34_code, 5, (some .boolean)), (⟨"TermRulesModel", "same", "(I)I"⟩, prog_13_method_46_code, 3, (some .int)), (⟨"TermRulesModel", "keep", "()V"⟩, prog_13_method_44_code, 2, none), (⟨"TermRulesModel", "isKept", "()Z"⟩, prog_13_method_45_code, 3, (some .boolean)), (⟨"TermRulesModel", "meetings", "()I"⟩, prog_13_method_55_code, 1, (some .int)), (⟨"TermRulesModel", "findMeetings", "()V"⟩, prog_13_method_54_code, 5, none), (⟨"TermRulesModel", "layBoth", "(II)V"⟩, prog_13_method_48_code, 4, none), (⟨"TermRulesModel", "lay", "(I[IIII)V"⟩, prog_13_method_47_code, 9, none)]
def tm_rows_10 : List tm_row := [(⟨"TermRulesModel", "joins", "(II)Z"⟩, prog_13_method_53_code, 8, (some .boolean)), (⟨"TermRulesModel", "push", "(II)V"⟩, prog_13_method_52_code, 3, none), (⟨"TermRulesModel", "real", "(I)I"⟩, prog_13_method_49_code, 3, (some .int)), (⟨"TermRulesModel", "occurs", "(II)Z"⟩, prog_13_method_51_code, 7, (some .boolean)), (⟨"TermRulesModel", "clearSeen", "()V"⟩, prog_13_method_50_code, 2, none), (⟨"TermRulesModel", "meeting", "(II)I"⟩, prog_13_method_57_code, 3, (some .int)), (⟨"TermRulesModel", "isMeeting", "(I)Z"⟩, prog_13_method_56_code, 2, (some .boolean)), (⟨"TermRulesModel", "closes", "(I)I"⟩, prog_13_method_62_code, 2, (some .int)), (⟨"TermRulesModel", "reducedSide", "(II)Z"⟩, prog_13_method_61_code, 4, (some .boolean)), (⟨"TermRulesModel", "laySide", "(II)Z"⟩, prog_13_method_60_code, 7, (some .boolean)), (⟨"TermRulesModel", "count", "(II)V"⟩, prog_13_method_58_code, 5, none), (⟨"TermRulesModel", "spread", "(II)V"⟩, prog_13_method_59_code, 5, none), (⟨"TermRulesModel", "isSure", "()I"⟩, prog_13_method_63_code, 3, (some .int)), (⟨"TermRulesModel", "write", "(IIZ)I"⟩, prog_13_method_68_code, 4, (some .int)), (⟨"TermRulesModel", "onPaper", "([IIZ)I"⟩, prog_13_method_67_code, 6, (some .int)), (⟨"TermRulesModel", "putCode", "(IZ)V"⟩, prog_13_method_66_code, 4, none)]
def tm_rows_11 : List tm_row := [(⟨"TermRulesModel", "putNumber", "(I)V"⟩, prog_13_method_65_code, 3, none), (⟨"TermRulesModel", "put", "(I)V"⟩, prog_13_method_64_code, 2, none), (⟨"TermRulesModel", "result", "()I"⟩, prog_13_method_69_code, 1, (some .int)), (⟨"TermRulesModel", "written", "(I)I"⟩, prog_13_method_70_code, 2, (some .int))]
def tm_rowsA : List tm_row := tm_rows_0 ++ (tm_rows_1 ++ (tm_rows_2 ++ (tm_rows_3 ++ (tm_rows_4 ++ (tm_rows_5 ++ (tm_rows_6 ++ (tm_rows_7 ++ (tm_rows_8 ++ (tm_rows_9 ++ (tm_rows_10 ++ (tm_rows_11)))))))))))
def tm_rows : List tm_row := tm_rowsA ++ [(⟨"TermRulesLaw", "law", "([I)Z"⟩, code, 4, (some .boolean))]
def tm_mrow (m : Nat) : tm_row := tm_rows.getD m (⟨"", "", ""⟩, ⟨#[]⟩, 0, none)
def mY (m : Nat) : MethodName := (tm_mrow m).1
def mB (m : Nat) : ByteArray := (tm_mrow m).2.1
def mL (m : Nat) : Nat := (tm_mrow m).2.2.1
def mT (m : Nat) : Option FieldType := (tm_mrow m).2.2.2
/-- a method's numbers: its class, how many arguments, frames and words that it needs, its kind (0 an object's, 1 static, 2 a constructor) -/
def tm_nums : List (Nat × Nat × Nat × Nat × Nat) := [(10, 0, 4, 81, 2), (7, 0, 2, 40, 2), (8, 0, 1, 20, 2), (5, 0, 3, 60, 2), (1, 1, 1, 20, 2), (4, 0, 2, 40, 2), (6, 0, 1, 20, 2), (3, 0, 1, 20, 2), (2, 0, 1, 20, 2), (0, 0, 1, 20, 2), (9, 0, 1, 20, 2), (10, 5, 1, 22, 0), (10, 1, 0, 0, 0), (10, 1, 5, 119, 0), (10, 0, 1, 20, 0), (5, 0, 0, 0, 0), (7, 3, 4, 85, 0), (8, 2, 1, 21, 0), (8, 0, 2, 41, 0), (8, 1, 0, 0, 1), (8, 1, 0, 0, 1), (8, 0, 1, 20, 0), (8, 1, 0, 0, 1), (8, 1, 0, 0, 1), (7, 0, 1, 20, 0), (7, 0, 0, 0, 0), (7, 1, 3, 64, 0), (7, 0, 1, 23, 0), (7, 1, 0, 0, 0), (7, 0, 0, 0, 0), (7, 2, 1, 20, 0), (7, 0, 2, 42, 0), (7, 0, 0, 0, 0), (7, 2, 2, 42, 0), (5, 1, 4, 97, 0), (5, 2, 3, 70, 0), (5, 4, 1, 24, 0), (1, 2, 0, 0, 0), (1, 2, 0, 0, 0), (5, 2, 2, 47, 0), (5, 2, 1, 24, 0), (5, 1, 1, 29, 0), (6, 1, 0, 0, 0), (10, 6, 0, 0, 1), (10, 0, 0, 0, 0), (10, 0, 0, 0, 0), (10, 1, 0, 0, 0), (10, 1, 6, 159, 0), (2, 1, 5, 134, 0), (14, 2, 0, 0, 1), (2, 2, 0, 0, 0), (2, 1, 1, 23, 0), (2, 2, 0, 0, 0), (2, 1, 4, 106, 0), (2, 4, 3, 79, 0), (6, 3, 0, 0, 0), (2, 4, 2, 50, 0), (2, 4, 1, 24, 0), (2, 3, 1, 26, 0), (10, 1, 6, 154, 0), (10, 2, 5, 109, 0), (5, 3, 2, 48, 0), (1, 2, 1, 24, 0), (3, 5, 5, 127, 0), (3, 4, 1, 29, 0), (3, 2, 4, 102, 0), (3, 2, 3, 76, 0), (3, 1, 2, 50, 0), (3, 2, 1, 26, 0), (3, 2, 0, 0, 1), (3, 3, 2, 53, 0), (3, 4, 0, 0, 0), (3, 3, 1, 25, 0), (3, 2, 0, 0, 0), (3, 2, 1, 25, 0), (9, 4, 2, 47, 0), (9, 2, 1, 21, 0), (9, 1, 0, 0, 0), (9, 1, 1, 21, 0), (9, 1, 1, 21, 0), (10, 2, 1, 26, 0), (10, 1, 6, 154, 0), (7, 1, 0, 0, 0), (10, 2, 0, 0, 0), (10, 0, 6, 143, 0), (0, 1, 5, 120, 0), (0, 3, 4, 94, 0), (0, 3, 3, 70, 0), (0, 2, 0, 0, 0), (0, 1, 0, 0, 0), (0, 2, 2, 47, 0), (0, 2, 1, 21, 0), (0, 1, 2, 46, 0), (0, 0, 0, 0, 0), (0, 1, 1, 23, 0), (10, 2, 7, 164, 0), (10, 1, 6, 143, 0), (10, 1, 7, 178, 0), (10, 1, 6, 154, 0), (0, 4, 5, 124, 0), (0, 5, 4, 99, 0), (0, 6, 3, 71, 0), (0, 2, 0, 0, 0), (0, 1, 2, 47, 0), (0, 2, 2, 47, 0), (10, 0, 7, 178, 0), (10, 3, 7, 164, 0), (10, 2, 3, 73, 0), (10, 0, 1, 26, 0), (10, 1, 0, 0, 0), (11, 0, 1, 20, 2), (11, 5, 1, 22, 0), (11, 1, 0, 0, 0), (11, 1, 4, 96, 0), (11, 0, 0, 0, 0), (11, 1, 1, 23, 0), (11, 1, 0, 0, 1), (11, 1, 0, 0, 1), (11, 1, 0, 0, 1), (11, 3, 0, 0, 0), (11, 0, 3, 63, 0), (11, 0, 2, 41, 0), (11, 0, 0, 0, 0), (11, 1, 1, 20, 0), (11, 0, 3, 73, 0), (11, 4, 2, 46, 0), (11, 1, 1, 24, 0), (11, 2, 0, 0, 0), (11, 4, 0, 0, 0), (11, 1, 1, 24, 0), (11, 0, 0, 0, 0), (11, 0, 0, 0, 0), (11, 1, 0, 0, 0), (11, 1, 5, 119, 0), (11, 0, 4, 98, 0), (11, 0, 3, 76, 0), (11, 1, 2, 53, 0), (11, 4, 1, 21, 0), (11, 1, 0, 0, 0), (11, 3, 0, 0, 0), (11, 3, 1, 25, 0), (11, 3, 0, 0, 0), (11, 0, 0, 0, 0), (11, 1, 5, 121, 0), (11, 2, 3, 71, 0), (11, 0, 2, 49, 0), (11, 1, 1, 24, 0), (11, 2, 2, 49, 0), (11, 0, 4, 100, 0), (11, 0, 3, 72, 0), (11, 1, 2, 50, 0), (11, 2, 1, 24, 0), (11, 2, 0, 0, 0), (11, 1, 5, 121, 0), (11, 0, 0, 0, 0), (11, 0, 0, 0, 0), (11, 0, 4, 99, 0), (11, 0, 3, 75, 0), (11, 2, 2, 49, 0), (11, 5, 1, 21, 0), (11, 2, 2, 48, 0), (11, 2, 0, 0, 0), (11, 1, 0, 0, 0), (11, 2, 1, 22, 0), (11, 0, 0, 0, 0), (11, 2, 5, 120, 0), (11, 1, 4, 99, 0), (11, 1, 6, 144, 0), (11, 2, 5, 121, 0), (11, 2, 3, 75, 0), (11, 2, 1, 22, 0), (11, 2, 1, 22, 0), (11, 0, 7, 165, 0), (11, 3, 6, 144, 0), (11, 3, 3, 66, 0), (11, 2, 2, 43, 0), (11, 1, 1, 21, 0), (11, 1, 0, 0, 0), (11, 0, 4, 91, 0), (11, 1, 0, 0, 0), (12, 1, 8, 199, 1)]
def tm_num (m : Nat) : Nat × Nat × Nat × Nat × Nat := tm_nums.getD m (0, 0, 0, 0, 9)
def mO (m : Nat) : Nat := (tm_num m).1
def mA (m : Nat) : Nat := (tm_num m).2.1
def mF (m : Nat) : Nat := (tm_num m).2.2.1
def mN (m : Nat) : Nat := (tm_num m).2.2.2.1
def mK (m : Nat) : Nat := (tm_num m).2.2.2.2
/-- where a method's words stand: its class initialised, an object's method or static, its selection -/
def tm_pos : List (Nat × Nat × Nat) := [(111, 129, 0), (112, 137, 0), (113, 143, 0), (114, 223, 0), (115, 231, 0), (116, 251, 0), (117, 257, 0), (118, 347, 0), (119, 397, 0), (120, 428, 0), (121, 489, 0), (111, 562, 563), (111, 567, 0), (111, 570, 571), (111, 575, 1), (114, 578, 579), (112, 582, 583), (113, 586, 587), (113, 593, 594), (113, 597, 0), (113, 600, 0), (113, 604, 2), (113, 607, 0), (113, 610, 0), (112, 614, 3), (112, 618, 4), (112, 622, 5), (112, 626, 6), (112, 629, 630), (112, 636, 7), (112, 640, 8), (112, 644, 9), (112, 648, 10), (112, 652, 11), (114, 655, 656), (114, 661, 12), (114, 666, 13), (115, 669, 670), (115, 674, 675), (114, 679, 14), (114, 683, 15), (114, 688, 16), (117, 691, 692), (111, 695, 0), (111, 698, 699), (111, 702, 703), (111, 706, 707), (111, 710, 711), (119, 714, 715), (124, 718, 0), (119, 722, 17), (119, 726, 18), (119, 730, 19), (119, 734, 20), (119, 739, 21), (117, 742, 743), (119, 750, 22), (119, 754, 23), (119, 758, 24), (111, 764, 765), (111, 769, 25), (114, 772, 773), (115, 776, 777), (118, 782, 783), (118, 787, 26), (118, 793, 27), (118, 797, 28), (118, 801, 29), (118, 805, 30), (118, 808, 0), (118, 813, 31), (118, 817, 32), (118, 821, 33), (118, 825, 34), (118, 829, 35), (121, 832, 833), (121, 837, 36), (121, 841, 37), (121, 845, 38), (121, 849, 39), (111, 853, 40), (111, 857, 858), (112, 861, 862), (111, 866, 41), (111, 869, 870), (120, 873, 874), (120, 878, 42), (120, 882, 43), (120, 886, 44), (120, 890, 45), (120, 894, 46), (120, 898, 47), (120, 903, 48), (120, 907, 49), (120, 911, 50), (111, 914, 915), (111, 919, 51), (111, 922, 923), (111, 927, 52), (120, 930, 931), (120, 935, 53), (120, 939, 54), (120, 943, 55), (120, 947, 56), (120, 951, 57), (111, 954, 955), (111, 958, 959), (111, 963, 58), (111, 966, 967), (111, 970, 971), (122, 976, 0), (122, 1200, 1201), (122, 1205, 59), (122, 1208, 1209), (122, 1213, 60), (122, 1217, 61), (122, 1220, 0), (122, 1223, 0), (122, 1226, 0), (122, 1230, 62), (122, 1234, 63), (122, 1238, 64), (122, 1242, 65), (122, 1246, 66), (122, 1250, 67), (122, 1254, 68), (122, 1258, 69), (122, 1262, 70), (122, 1266, 71), (122, 1270, 72), (122, 1273, 1274), (122, 1277, 1278), (122, 1281, 1282), (122, 1285, 1286), (122, 1290, 73), (122, 1294, 74), (122, 1298, 75), (122, 1302, 76), (122, 1306, 77), (122, 1310, 78), (122, 1314, 79), (122, 1318, 80), (122, 1322, 81), (122, 1325, 1326), (122, 1330, 82), (122, 1334, 83), (122, 1338, 84), (122, 1342, 85), (122, 1346, 86), (122, 1350, 87), (122, 1354, 88), (122, 1358, 89), (122, 1362, 90), (122, 1365, 1366), (122, 1370, 91), (122, 1374, 92), (122, 1377, 1378), (122, 1382, 93), (122, 1386, 94), (122, 1390, 95), (122, 1394, 96), (122, 1398, 97), (122, 1402, 98), (122, 1406, 99), (122, 1410, 100), (122, 1413, 1414), (122, 1418, 101), (122, 1421, 1422), (122, 1426, 102), (122, 1430, 103), (122, 1434, 104), (122, 1438, 105), (122, 1441, 1442), (122, 1446, 1447), (122, 1451, 106), (122, 1455, 107), (122, 1459, 108), (122, 1463, 109), (122, 1466, 1467), (122, 1470, 1471), (110, 0, 0)]
def tm_chk (m : Nat) : Bool := match tm_pos.getD m (0, 0, 0) with
  | (i, a, s) => decide (lw_tbl[i]? = some (Cond.initialized (mY m).cls)) && decide ((mY m).cls = tm_cn (mO m)) && plainName (mY m).cls && decide ((mY m).cls ≠ "java/lang/invoke/MethodHandle") && decide ((mY m).cls ≠ "java/lang/invoke/VarHandle") && decide ((parseMethodDescriptor (mY m).desc).map (fun d => d.parameters.length) = some (mA m)) && (if mK m = 1 then decide (lw_tbl[a]? = some (Cond.static (mY m))) else decide (lw_tbl[a]? = some (Cond.instanceMethod (mY m))) && (if mK m = 2 then decide ((mY m).name = "<init>") && decide (mT m = none) else decide (mK m = 0) && decide (lw_tbl[s]? = some (Cond.selects (mY m).cls (mY m) (mY m)))))
set_option maxRecDepth 100000 in
theorem tm_chk_all : (List.range 180).all tm_chk = true := by decide +kernel
set_option maxRecDepth 100000 in
theorem tm_c0 : Cond.code ⟨"TermRules", "<init>", "()V"⟩ prog_1_method_1_code 1 none ∈ tm_gw := tm_in 130 rfl rfl
set_option maxRecDepth 100000 in
theorem tm_c1 : Cond.code ⟨"TermRules$Text", "<init>", "()V"⟩ prog_9_method_1_code 1 none ∈ tm_gw := tm_in 138 rfl rfl
set_option maxRecDepth 100000 in
theorem tm_c2 : Cond.code ⟨"TermRules$Tokens", "<init>", "()V"⟩ prog_10_method_1_code 1 none ∈ tm_gw := tm_in 144 rfl rfl
set_option maxRecDepth 100000 in
theorem tm_c3 : Cond.code ⟨"TermRules$RuleBook", "<init>", "()V"⟩ prog_7_method_1_code 2 none ∈ tm_gw := tm_in 224 rfl rfl
set_option maxRecDepth 100000 in
theorem tm_c4 : Cond.code ⟨"TermRules$Names", "<init>", "(I)V"⟩ prog_3_method_1_code 2 none ∈ tm_gw := tm_in 232 rfl rfl
set_option maxRecDepth 100000 in
theorem tm_c5 : Cond.code ⟨"TermRules$Rule", "<init>", "()V"⟩ prog_6_method_1_code 1 none ∈ tm_gw := tm_in 252 rfl rfl
set_option maxRecDepth 100000 in
theorem tm_c6 : Cond.code ⟨"TermRules$Side", "<init>", "()V"⟩ prog_8_method_1_code 1 none ∈ tm_gw := tm_in 258 rfl rfl
set_option maxRecDepth 100000 in
theorem tm_c7 : Cond.code ⟨"TermRules$Reducer", "<init>", "()V"⟩ prog_5_method_1_code 1 none ∈ tm_gw := tm_in 348 rfl rfl
set_option maxRecDepth 100000 in
theorem tm_c8 : Cond.code ⟨"TermRules$Orders", "<init>", "()V"⟩ prog_4_method_1_code 1 none ∈ tm_gw := tm_in 398 rfl rfl
set_option maxRecDepth 100000 in
theorem tm_c9 : Cond.code ⟨"TermRules$Meetings", "<init>", "()V"⟩ prog_2_method_1_code 1 none ∈ tm_gw := tm_in 429 rfl rfl
set_option maxRecDepth 100000 in
theorem tm_c10 : Cond.code ⟨"TermRules$Writer", "<init>", "()V"⟩ prog_11_method_1_code 1 none ∈ tm_gw := tm_in 490 rfl rfl
set_option maxRecDepth 100000 in
theorem tm_c11 : Cond.code ⟨"TermRules", "feed", "(IIIII)I"⟩ prog_1_method_2_code 6 (some .int) ∈ tm_gw := tm_in 564 rfl rfl
set_option maxRecDepth 100000 in
theorem tm_c12 : Cond.code ⟨"TermRules", "layFour", "(I)V"⟩ prog_1_method_3_code 3 none ∈ tm_gw := tm_in 568 rfl rfl
set_option maxRecDepth 100000 in
theorem tm_c13 : Cond.code ⟨"TermRules", "rules", "(I)I"⟩ prog_1_method_4_code 2 (some .int) ∈ tm_gw := tm_in 572 rfl rfl
set_option maxRecDepth 100000 in
theorem tm_c14 : Cond.code ⟨"TermRules", "forgetRules", "()V"⟩ prog_1_method_5_code 1 none ∈ tm_gw := tm_in 576 rfl rfl
set_option maxRecDepth 100000 in
theorem tm_c15 : Cond.code ⟨"TermRules$RuleBook", "clear", "()V"⟩ prog_7_method_2_code 1 none ∈ tm_gw := tm_in 580 rfl rfl
set_option maxRecDepth 100000 in
theorem tm_c16 : Cond.code ⟨"TermRules$Text", "findFault", "([BII)I"⟩ prog_9_method_2_code 5 (some .int) ∈ tm_gw := tm_in 584 rfl rfl
set_option maxRecDepth 100000 in
theorem tm_c17 : Cond.code ⟨"TermRules$Tokens", "begin", "([BI)V"⟩ prog_10_method_2_code 3 none ∈ tm_gw := tm_in 588 rfl rfl
set_option maxRecDepth 100000 in
theorem tm_c18 : Cond.code ⟨"TermRules$Tokens", "step", "()V"⟩ prog_10_method_3_code 1 none ∈ tm_gw := tm_in 595 rfl rfl
set_option maxRecDepth 100000 in
theorem tm_c19 : Cond.code ⟨"TermRules$Tokens", "isBlank", "(I)Z"⟩ prog_10_method_5_code 1 (some .boolean) ∈ tm_gw := tm_in 598 rfl rfl
set_option maxRecDepth 100000 in
theorem tm_c20 : Cond.code ⟨"TermRules$Tokens", "isLetter", "(I)Z"⟩ prog_10_method_6_code 1 (some .boolean) ∈ tm_gw := tm_in 601 rfl rfl
set_option maxRecDepth 100000 in
theorem tm_c21 : Cond.code ⟨"TermRules$Tokens", "readName", "()I"⟩ prog_10_method_4_code 2 (some .int) ∈ tm_gw := tm_in 605 rfl rfl
set_option maxRecDepth 100000 in
theorem tm_c22 : Cond.code ⟨"TermRules$Tokens", "isDigit", "(I)Z"⟩ prog_10_method_7_code 1 (some .boolean) ∈ tm_gw := tm_in 608 rfl rfl
set_option maxRecDepth 100000 in
theorem tm_c23 : Cond.code ⟨"TermRules$Tokens", "isSign", "(I)Z"⟩ prog_10_method_8_code 1 (some .boolean) ∈ tm_gw := tm_in 611 rfl rfl
set_option maxRecDepth 100000 in
theorem tm_c24 : Cond.code ⟨"TermRules$Text", "mayEnd", "()Z"⟩ prog_9_method_11_code 1 (some .boolean) ∈ tm_gw := tm_in 615 rfl rfl
set_option maxRecDepth 100000 in
theorem tm_c25 : Cond.code ⟨"TermRules$Text", "isBehindTerm", "()Z"⟩ prog_9_method_9_code 1 (some .boolean) ∈ tm_gw := tm_in 619 rfl rfl
set_option maxRecDepth 100000 in
theorem tm_c26 : Cond.code ⟨"TermRules$Text", "goesOn", "(I)Z"⟩ prog_9_method_3_code 2 (some .boolean) ∈ tm_gw := tm_in 623 rfl rfl
set_option maxRecDepth 100000 in
theorem tm_c27 : Cond.code ⟨"TermRules$Text", "beginTerm", "()Z"⟩ prog_9_method_4_code 2 (some .boolean) ∈ tm_gw := tm_in 627 rfl rfl
set_option maxRecDepth 100000 in
theorem tm_c28 : Cond.code ⟨"TermRules$Text", "isVariable", "(I)Z"⟩ prog_9_method_12_code 4 (some .boolean) ∈ tm_gw := tm_in 631 rfl rfl
set_option maxRecDepth 100000 in
theorem tm_c29 : Cond.code ⟨"TermRules$Text", "openParts", "()Z"⟩ prog_9_method_5_code 1 (some .boolean) ∈ tm_gw := tm_in 637 rfl rfl
set_option maxRecDepth 100000 in
theorem tm_c30 : Cond.code ⟨"TermRules$Text", "endTerm", "(ZI)Z"⟩ prog_9_method_8_code 3 (some .boolean) ∈ tm_gw := tm_in 641 rfl rfl
set_option maxRecDepth 100000 in
theorem tm_c31 : Cond.code ⟨"TermRules$Text", "closeParts", "()Z"⟩ prog_9_method_6_code 1 (some .boolean) ∈ tm_gw := tm_in 645 rfl rfl
set_option maxRecDepth 100000 in
theorem tm_c32 : Cond.code ⟨"TermRules$Text", "mayEqual", "()Z"⟩ prog_9_method_10_code 1 (some .boolean) ∈ tm_gw := tm_in 649 rfl rfl
set_option maxRecDepth 100000 in
theorem tm_c33 : Cond.code ⟨"TermRules$Text", "endSide", "(ZI)Z"⟩ prog_9_method_7_code 3 (some .boolean) ∈ tm_gw := tm_in 653 rfl rfl
set_option maxRecDepth 100000 in
theorem tm_c34 : Cond.code ⟨"TermRules$RuleBook", "takeRules", "(LTermRules$Text;)I"⟩ prog_7_method_3_code 3 (some .int) ∈ tm_gw := tm_in 657 rfl rfl
set_option maxRecDepth 100000 in
theorem tm_c35 : Cond.code ⟨"TermRules$RuleBook", "takeNode", "(LTermRules$Text;I)Z"⟩ prog_7_method_4_code 8 (some .boolean) ∈ tm_gw := tm_in 662 rfl rfl
set_option maxRecDepth 100000 in
theorem tm_c36 : Cond.code ⟨"TermRules$RuleBook", "variableCode", "(LTermRules$Text;ILTermRules$Rule;Z)I"⟩ prog_7_method_5_code 7 (some .int) ∈ tm_gw := tm_in 667 rfl rfl
set_option maxRecDepth 100000 in
theorem tm_c37 : Cond.code ⟨"TermRules$Names", "find", "(JI)I"⟩ prog_3_method_2_code 5 (some .int) ∈ tm_gw := tm_in 671 rfl rfl
set_option maxRecDepth 100000 in
theorem tm_c38 : Cond.code ⟨"TermRules$Names", "add", "(JI)I"⟩ prog_3_method_3_code 4 (some .int) ∈ tm_gw := tm_in 676 rfl rfl
set_option maxRecDepth 100000 in
theorem tm_c39 : Cond.code ⟨"TermRules$RuleBook", "newSymbolCode", "(LTermRules$Text;I)I"⟩ prog_7_method_6_code 4 (some .int) ∈ tm_gw := tm_in 680 rfl rfl
set_option maxRecDepth 100000 in
theorem tm_c40 : Cond.code ⟨"TermRules$RuleBook", "symbolCode", "(LTermRules$Text;I)I"⟩ prog_7_method_7_code 4 (some .int) ∈ tm_gw := tm_in 684 rfl rfl
set_option maxRecDepth 100000 in
theorem tm_c41 : Cond.code ⟨"TermRules$RuleBook", "finish", "(LTermRules$Rule;)V"⟩ prog_7_method_8_code 2 none ∈ tm_gw := tm_in 689 rfl rfl
set_option maxRecDepth 100000 in
theorem tm_c42 : Cond.code ⟨"TermRules$Side", "measure", "([I)V"⟩ prog_8_method_2_code 5 none ∈ tm_gw := tm_in 693 rfl rfl
set_option maxRecDepth 100000 in
theorem tm_c43 : Cond.code ⟨"TermRules", "turnRound", "([I[III[I[I)V"⟩ prog_1_method_25_code 10 none ∈ tm_gw := tm_in 696 rfl rfl
set_option maxRecDepth 100000 in
theorem tm_c44 : Cond.code ⟨"TermRules", "place", "()I"⟩ prog_1_method_6_code 1 (some .int) ∈ tm_gw := tm_in 700 rfl rfl
set_option maxRecDepth 100000 in
theorem tm_c45 : Cond.code ⟨"TermRules", "symbols", "()I"⟩ prog_1_method_7_code 1 (some .int) ∈ tm_gw := tm_in 704 rfl rfl
set_option maxRecDepth 100000 in
theorem tm_c46 : Cond.code ⟨"TermRules", "parts", "(I)I"⟩ prog_1_method_8_code 2 (some .int) ∈ tm_gw := tm_in 708 rfl rfl
set_option maxRecDepth 100000 in
theorem tm_c47 : Cond.code ⟨"TermRules", "order", "(I)I"⟩ prog_1_method_9_code 3 (some .int) ∈ tm_gw := tm_in 712 rfl rfl
set_option maxRecDepth 100000 in
theorem tm_c48 : Cond.code ⟨"TermRules$Orders", "find", "(LTermRules$RuleBook;)V"⟩ prog_4_method_2_code 6 none ∈ tm_gw := tm_in 716 rfl rfl
set_option maxRecDepth 100000 in
theorem tm_c49 : Cond.code ⟨"java/util/Arrays", "fill", "([JJ)V"⟩ prog_16_method_101_code 5 none ∈ tm_gw := tm_in 719 rfl rfl
set_option maxRecDepth 100000 in
theorem tm_c50 : Cond.code ⟨"TermRules$Orders", "tryRow", "(II)V"⟩ prog_4_method_3_code 5 none ∈ tm_gw := tm_in 723 rfl rfl
set_option maxRecDepth 100000 in
theorem tm_c51 : Cond.code ⟨"TermRules$Orders", "stepRow", "(I)Z"⟩ prog_4_method_4_code 6 (some .boolean) ∈ tm_gw := tm_in 727 rfl rfl
set_option maxRecDepth 100000 in
theorem tm_c52 : Cond.code ⟨"TermRules$Orders", "swap", "(II)V"⟩ prog_4_method_5_code 4 none ∈ tm_gw := tm_in 731 rfl rfl
set_option maxRecDepth 100000 in
theorem tm_c53 : Cond.code ⟨"TermRules$Orders", "endBits", "(LTermRules$RuleBook;)J"⟩ prog_4_method_7_code 9 (some .long) ∈ tm_gw := tm_in 735 rfl rfl
set_option maxRecDepth 100000 in
theorem tm_c54 : Cond.code ⟨"TermRules$Orders", "partBits", "(LTermRules$Side;ILTermRules$Side;I)J"⟩ prog_4_method_8_code 8 (some .long) ∈ tm_gw := tm_in 740 rfl rfl
set_option maxRecDepth 100000 in
theorem tm_c55 : Cond.code ⟨"TermRules$Side", "hasSamePart", "(ILTermRules$Side;I)Z"⟩ prog_8_method_3_code 5 (some .boolean) ∈ tm_gw := tm_in 744 rfl rfl
set_option maxRecDepth 100000 in
theorem tm_c56 : Cond.code ⟨"TermRules$Orders", "overPartsBits", "(LTermRules$Side;ILTermRules$Side;I)J"⟩ prog_4_method_9_code 10 (some .long) ∈ tm_gw := tm_in 751 rfl rfl
set_option maxRecDepth 100000 in
theorem tm_c57 : Cond.code ⟨"TermRules$Orders", "differenceBits", "(LTermRules$Side;ILTermRules$Side;I)J"⟩ prog_4_method_10_code 7 (some .long) ∈ tm_gw := tm_in 755 rfl rfl
set_option maxRecDepth 100000 in
theorem tm_c58 : Cond.code ⟨"TermRules$Orders", "keepFirst", "(JII)V"⟩ prog_4_method_6_code 6 none ∈ tm_gw := tm_in 759 rfl rfl
set_option maxRecDepth 100000 in
theorem tm_c59 : Cond.code ⟨"TermRules", "reduce", "(I)I"⟩ prog_1_method_10_code 4 (some .int) ∈ tm_gw := tm_in 766 rfl rfl
set_option maxRecDepth 100000 in
theorem tm_c60 : Cond.code ⟨"TermRules", "readTerms", "(II)I"⟩ prog_1_method_12_code 3 (some .int) ∈ tm_gw := tm_in 770 rfl rfl
set_option maxRecDepth 100000 in
theorem tm_c61 : Cond.code ⟨"TermRules$RuleBook", "takeTerms", "(LTermRules$Text;LTermRules$Names;[I)I"⟩ prog_7_method_9_code 6 (some .int) ∈ tm_gw := tm_in 774 rfl rfl
set_option maxRecDepth 100000 in
theorem tm_c62 : Cond.code ⟨"TermRules$Names", "findOrAdd", "(JI)I"⟩ prog_3_method_4_code 5 (some .int) ∈ tm_gw := tm_in 778 rfl rfl
set_option maxRecDepth 100000 in
theorem tm_c63 : Cond.code ⟨"TermRules$Reducer", "run", "(LTermRules$RuleBook;[III[I)I"⟩ prog_5_method_2_code 8 (some .int) ∈ tm_gw := tm_in 784 rfl rfl
set_option maxRecDepth 100000 in
theorem tm_c64 : Cond.code ⟨"TermRules$Reducer", "begin", "(LTermRules$RuleBook;[III)V"⟩ prog_5_method_3_code 6 none ∈ tm_gw := tm_in 788 rfl rfl
set_option maxRecDepth 100000 in
theorem tm_c65 : Cond.code ⟨"TermRules$Reducer", "build", "(LTermRules$RuleBook;I)Z"⟩ prog_5_method_4_code 6 (some .boolean) ∈ tm_gw := tm_in 794 rfl rfl
set_option maxRecDepth 100000 in
theorem tm_c66 : Cond.code ⟨"TermRules$Reducer", "makeNode", "(LTermRules$RuleBook;I)I"⟩ prog_5_method_5_code 7 (some .int) ∈ tm_gw := tm_in 798 rfl rfl
set_option maxRecDepth 100000 in
theorem tm_c67 : Cond.code ⟨"TermRules$Reducer", "pack", "(LTermRules$RuleBook;)V"⟩ prog_5_method_6_code 7 none ∈ tm_gw := tm_in 802 rfl rfl
set_option maxRecDepth 100000 in
theorem tm_c68 : Cond.code ⟨"TermRules$Reducer", "move", "(LTermRules$RuleBook;I)I"⟩ prog_5_method_7_code 5 (some .int) ∈ tm_gw := tm_in 806 rfl rfl
set_option maxRecDepth 100000 in
theorem tm_c69 : Cond.code ⟨"TermRules$Reducer", "partsAt", "(LTermRules$RuleBook;I)I"⟩ prog_5_method_8_code 2 (some .int) ∈ tm_gw := tm_in 809 rfl rfl
set_option maxRecDepth 100000 in
theorem tm_c70 : Cond.code ⟨"TermRules$Reducer", "matches", "(LTermRules$RuleBook;LTermRules$Rule;I)Z"⟩ prog_5_method_9_code 8 (some .boolean) ∈ tm_gw := tm_in 814 rfl rfl
set_option maxRecDepth 100000 in
theorem tm_c71 : Cond.code ⟨"TermRules$Reducer", "layParts", "([IIII)I"⟩ prog_5_method_10_code 6 (some .int) ∈ tm_gw := tm_in 818 rfl rfl
set_option maxRecDepth 100000 in
theorem tm_c72 : Cond.code ⟨"TermRules$Reducer", "isSameTerm", "(LTermRules$RuleBook;II)Z"⟩ prog_5_method_11_code 9 (some .boolean) ∈ tm_gw := tm_in 822 rfl rfl
set_option maxRecDepth 100000 in
theorem tm_c73 : Cond.code ⟨"TermRules$Reducer", "doStep", "(LTermRules$Rule;I)Z"⟩ prog_5_method_12_code 6 (some .boolean) ∈ tm_gw := tm_in 826 rfl rfl
set_option maxRecDepth 100000 in
theorem tm_c74 : Cond.code ⟨"TermRules$Reducer", "layEnd", "(LTermRules$RuleBook;[I)V"⟩ prog_5_method_13_code 6 none ∈ tm_gw := tm_in 830 rfl rfl
set_option maxRecDepth 100000 in
theorem tm_c75 : Cond.code ⟨"TermRules$Writer", "draw", "(LTermRules$RuleBook;[IILTermRules$Names;)I"⟩ prog_11_method_2_code 7 (some .int) ∈ tm_gw := tm_in 834 rfl rfl
set_option maxRecDepth 100000 in
theorem tm_c76 : Cond.code ⟨"TermRules$Writer", "putName", "(LTermRules$Names;I)V"⟩ prog_11_method_4_code 7 none ∈ tm_gw := tm_in 838 rfl rfl
set_option maxRecDepth 100000 in
theorem tm_c77 : Cond.code ⟨"TermRules$Writer", "put", "(I)V"⟩ prog_11_method_6_code 2 none ∈ tm_gw := tm_in 842 rfl rfl
set_option maxRecDepth 100000 in
theorem tm_c78 : Cond.code ⟨"TermRules$Writer", "putNumber", "(I)V"⟩ prog_11_method_5_code 2 none ∈ tm_gw := tm_in 846 rfl rfl
set_option maxRecDepth 100000 in
theorem tm_c79 : Cond.code ⟨"TermRules$Writer", "putSigns", "(I)V"⟩ prog_11_method_3_code 2 none ∈ tm_gw := tm_in 850 rfl rfl
set_option maxRecDepth 100000 in
theorem tm_c80 : Cond.code ⟨"TermRules", "copyDraft", "([BI)V"⟩ prog_1_method_22_code 3 none ∈ tm_gw := tm_in 854 rfl rfl
set_option maxRecDepth 100000 in
theorem tm_c81 : Cond.code ⟨"TermRules", "same", "(I)I"⟩ prog_1_method_11_code 5 (some .int) ∈ tm_gw := tm_in 859 rfl rfl
set_option maxRecDepth 100000 in
theorem tm_c82 : Cond.code ⟨"TermRules$Text", "nodesOfSide", "(I)I"⟩ prog_9_method_13_code 4 (some .int) ∈ tm_gw := tm_in 863 rfl rfl
set_option maxRecDepth 100000 in
theorem tm_c83 : Cond.code ⟨"TermRules", "haveSameEnd", "(II)Z"⟩ prog_1_method_13_code 4 (some .boolean) ∈ tm_gw := tm_in 867 rfl rfl
set_option maxRecDepth 100000 in
theorem tm_c84 : Cond.code ⟨"TermRules", "meetings", "()I"⟩ prog_1_method_14_code 1 (some .int) ∈ tm_gw := tm_in 871 rfl rfl
set_option maxRecDepth 100000 in
theorem tm_c85 : Cond.code ⟨"TermRules$Meetings", "find", "(LTermRules$RuleBook;)V"⟩ prog_2_method_2_code 4 none ∈ tm_gw := tm_in 875 rfl rfl
set_option maxRecDepth 100000 in
theorem tm_c86 : Cond.code ⟨"TermRules$Meetings", "findAt", "(LTermRules$RuleBook;II)V"⟩ prog_2_method_3_code 7 none ∈ tm_gw := tm_in 879 rfl rfl
set_option maxRecDepth 100000 in
theorem tm_c87 : Cond.code ⟨"TermRules$Meetings", "join", "(LTermRules$Rule;ILTermRules$Rule;)Z"⟩ prog_2_method_4_code 5 (some .boolean) ∈ tm_gw := tm_in 883 rfl rfl
set_option maxRecDepth 100000 in
theorem tm_c88 : Cond.code ⟨"TermRules$Meetings", "beginClasses", "(LTermRules$Rule;I)V"⟩ prog_2_method_5_code 5 none ∈ tm_gw := tm_in 887 rfl rfl
set_option maxRecDepth 100000 in
theorem tm_c89 : Cond.code ⟨"TermRules$Meetings", "classOf", "(I)I"⟩ prog_2_method_6_code 4 (some .int) ∈ tm_gw := tm_in 891 rfl rfl
set_option maxRecDepth 100000 in
theorem tm_c90 : Cond.code ⟨"TermRules$Meetings", "joinClasses", "(II)Z"⟩ prog_2_method_7_code 3 (some .boolean) ∈ tm_gw := tm_in 895 rfl rfl
set_option maxRecDepth 100000 in
theorem tm_c91 : Cond.code ⟨"TermRules$Meetings", "layParts", "([II)I"⟩ prog_2_method_8_code 7 (some .int) ∈ tm_gw := tm_in 899 rfl rfl
set_option maxRecDepth 100000 in
theorem tm_c92 : Cond.code ⟨"TermRules$Meetings", "isFinite", "(I)Z"⟩ prog_2_method_9_code 5 (some .boolean) ∈ tm_gw := tm_in 904 rfl rfl
set_option maxRecDepth 100000 in
theorem tm_c93 : Cond.code ⟨"TermRules$Meetings", "forgetSeen", "()V"⟩ prog_2_method_10_code 2 none ∈ tm_gw := tm_in 908 rfl rfl
set_option maxRecDepth 100000 in
theorem tm_c94 : Cond.code ⟨"TermRules$Meetings", "hasSeenParts", "(I)Z"⟩ prog_2_method_11_code 4 (some .boolean) ∈ tm_gw := tm_in 912 rfl rfl
set_option maxRecDepth 100000 in
theorem tm_c95 : Cond.code ⟨"TermRules", "meeting", "(II)I"⟩ prog_1_method_15_code 3 (some .int) ∈ tm_gw := tm_in 916 rfl rfl
set_option maxRecDepth 100000 in
theorem tm_c96 : Cond.code ⟨"TermRules", "isMeeting", "(I)Z"⟩ prog_1_method_16_code 2 (some .boolean) ∈ tm_gw := tm_in 920 rfl rfl
set_option maxRecDepth 100000 in
theorem tm_c97 : Cond.code ⟨"TermRules", "closes", "(I)I"⟩ prog_1_method_17_code 2 (some .int) ∈ tm_gw := tm_in 924 rfl rfl
set_option maxRecDepth 100000 in
theorem tm_c98 : Cond.code ⟨"TermRules", "compareSides", "(I)I"⟩ prog_1_method_18_code 5 (some .int) ∈ tm_gw := tm_in 928 rfl rfl
set_option maxRecDepth 100000 in
theorem tm_c99 : Cond.code ⟨"TermRules$Meetings", "laySide", "(LTermRules$RuleBook;II[I)I"⟩ prog_2_method_12_code 7 (some .int) ∈ tm_gw := tm_in 932 rfl rfl
set_option maxRecDepth 100000 in
theorem tm_c100 : Cond.code ⟨"TermRules$Meetings", "walkSide", "(LTermRules$Rule;LTermRules$Rule;II[I)V"⟩ prog_2_method_13_code 6 none ∈ tm_gw := tm_in 936 rfl rfl
set_option maxRecDepth 100000 in
theorem tm_c101 : Cond.code ⟨"TermRules$Meetings", "walk", "(LTermRules$Rule;LTermRules$Side;III[I)V"⟩ prog_2_method_14_code 9 none ∈ tm_gw := tm_in 940 rfl rfl
set_option maxRecDepth 100000 in
theorem tm_c102 : Cond.code ⟨"TermRules$Meetings", "lay", "([II)V"⟩ prog_2_method_15_code 3 none ∈ tm_gw := tm_in 944 rfl rfl
set_option maxRecDepth 100000 in
theorem tm_c103 : Cond.code ⟨"TermRules$Meetings", "numberVariables", "(I)V"⟩ prog_2_method_16_code 4 none ∈ tm_gw := tm_in 948 rfl rfl
set_option maxRecDepth 100000 in
theorem tm_c104 : Cond.code ⟨"TermRules$Meetings", "layClass", "([II)V"⟩ prog_2_method_17_code 5 none ∈ tm_gw := tm_in 952 rfl rfl
set_option maxRecDepth 100000 in
theorem tm_c105 : Cond.code ⟨"TermRules", "isSure", "()I"⟩ prog_1_method_19_code 2 (some .int) ∈ tm_gw := tm_in 956 rfl rfl
set_option maxRecDepth 100000 in
theorem tm_c106 : Cond.code ⟨"TermRules", "write", "(IIZ)I"⟩ prog_1_method_20_code 5 (some .int) ∈ tm_gw := tm_in 960 rfl rfl
set_option maxRecDepth 100000 in
theorem tm_c107 : Cond.code ⟨"TermRules", "drawSide", "([II)I"⟩ prog_1_method_21_code 4 (some .int) ∈ tm_gw := tm_in 964 rfl rfl
set_option maxRecDepth 100000 in
theorem tm_c108 : Cond.code ⟨"TermRules", "result", "()I"⟩ prog_1_method_23_code 1 (some .int) ∈ tm_gw := tm_in 968 rfl rfl
set_option maxRecDepth 100000 in
theorem tm_c109 : Cond.code ⟨"TermRules", "written", "(I)I"⟩ prog_1_method_24_code 2 (some .int) ∈ tm_gw := tm_in 972 rfl rfl
set_option maxRecDepth 100000 in
theorem tm_c110 : Cond.code ⟨"TermRulesModel", "<init>", "()V"⟩ prog_13_method_1_code 1 none ∈ tm_gw := tm_in 977 rfl rfl
set_option maxRecDepth 100000 in
theorem tm_c111 : Cond.code ⟨"TermRulesModel", "feed", "(IIIII)I"⟩ prog_13_method_2_code 6 (some .int) ∈ tm_gw := tm_in 1202 rfl rfl
set_option maxRecDepth 100000 in
theorem tm_c112 : Cond.code ⟨"TermRulesModel", "four", "(I)V"⟩ prog_13_method_3_code 3 none ∈ tm_gw := tm_in 1206 rfl rfl
set_option maxRecDepth 100000 in
theorem tm_c113 : Cond.code ⟨"TermRulesModel", "rules", "(I)I"⟩ prog_13_method_20_code 5 (some .int) ∈ tm_gw := tm_in 1210 rfl rfl
set_option maxRecDepth 100000 in
theorem tm_c114 : Cond.code ⟨"TermRulesModel", "forget", "()V"⟩ prog_13_method_19_code 1 none ∈ tm_gw := tm_in 1214 rfl rfl
set_option maxRecDepth 100000 in
theorem tm_c115 : Cond.code ⟨"TermRulesModel", "cutUp", "(I)V"⟩ prog_13_method_7_code 7 none ∈ tm_gw := tm_in 1218 rfl rfl
set_option maxRecDepth 100000 in
theorem tm_c116 : Cond.code ⟨"TermRulesModel", "sign", "(I)I"⟩ prog_13_method_6_code 1 (some .int) ∈ tm_gw := tm_in 1221 rfl rfl
set_option maxRecDepth 100000 in
theorem tm_c117 : Cond.code ⟨"TermRulesModel", "isLetter", "(I)Z"⟩ prog_13_method_4_code 1 (some .boolean) ∈ tm_gw := tm_in 1224 rfl rfl
set_option maxRecDepth 100000 in
theorem tm_c118 : Cond.code ⟨"TermRulesModel", "isDigit", "(I)Z"⟩ prog_13_method_5_code 1 (some .boolean) ∈ tm_gw := tm_in 1227 rfl rfl
set_option maxRecDepth 100000 in
theorem tm_c119 : Cond.code ⟨"TermRulesModel", "note", "(III)V"⟩ prog_13_method_8_code 4 none ∈ tm_gw := tm_in 1231 rfl rfl
set_option maxRecDepth 100000 in
theorem tm_c120 : Cond.code ⟨"TermRulesModel", "readRules", "()Z"⟩ prog_13_method_13_code 1 (some .boolean) ∈ tm_gw := tm_in 1235 rfl rfl
set_option maxRecDepth 100000 in
theorem tm_c121 : Cond.code ⟨"TermRulesModel", "readTerm", "()Z"⟩ prog_13_method_12_code 3 (some .boolean) ∈ tm_gw := tm_in 1239 rfl rfl
set_option maxRecDepth 100000 in
theorem tm_c122 : Cond.code ⟨"TermRulesModel", "fails", "()Z"⟩ prog_13_method_10_code 1 (some .boolean) ∈ tm_gw := tm_in 1243 rfl rfl
set_option maxRecDepth 100000 in
theorem tm_c123 : Cond.code ⟨"TermRulesModel", "takes", "(I)Z"⟩ prog_13_method_11_code 2 (some .boolean) ∈ tm_gw := tm_in 1247 rfl rfl
set_option maxRecDepth 100000 in
theorem tm_c124 : Cond.code ⟨"TermRulesModel", "wrongNode", "()I"⟩ prog_13_method_18_code 4 (some .int) ∈ tm_gw := tm_in 1251 rfl rfl
set_option maxRecDepth 100000 in
theorem tm_c125 : Cond.code ⟨"TermRulesModel", "isRight", "(IIZI)Z"⟩ prog_13_method_16_code 8 (some .boolean) ∈ tm_gw := tm_in 1255 rfl rfl
set_option maxRecDepth 100000 in
theorem tm_c126 : Cond.code ⟨"TermRulesModel", "variable", "(I)I"⟩ prog_13_method_15_code 3 (some .int) ∈ tm_gw := tm_in 1259 rfl rfl
set_option maxRecDepth 100000 in
theorem tm_c127 : Cond.code ⟨"TermRulesModel", "isNamed", "(II)Z"⟩ prog_13_method_9_code 5 (some .boolean) ∈ tm_gw := tm_in 1263 rfl rfl
set_option maxRecDepth 100000 in
theorem tm_c128 : Cond.code ⟨"TermRulesModel", "enter", "(IZII)V"⟩ prog_13_method_17_code 5 none ∈ tm_gw := tm_in 1267 rfl rfl
set_option maxRecDepth 100000 in
theorem tm_c129 : Cond.code ⟨"TermRulesModel", "known", "(I)I"⟩ prog_13_method_14_code 3 (some .int) ∈ tm_gw := tm_in 1271 rfl rfl
set_option maxRecDepth 100000 in
theorem tm_c130 : Cond.code ⟨"TermRulesModel", "place", "()I"⟩ prog_13_method_21_code 1 (some .int) ∈ tm_gw := tm_in 1275 rfl rfl
set_option maxRecDepth 100000 in
theorem tm_c131 : Cond.code ⟨"TermRulesModel", "symbols", "()I"⟩ prog_13_method_22_code 1 (some .int) ∈ tm_gw := tm_in 1279 rfl rfl
set_option maxRecDepth 100000 in
theorem tm_c132 : Cond.code ⟨"TermRulesModel", "parts", "(I)I"⟩ prog_13_method_23_code 2 (some .int) ∈ tm_gw := tm_in 1283 rfl rfl
set_option maxRecDepth 100000 in
theorem tm_c133 : Cond.code ⟨"TermRulesModel", "order", "(I)I"⟩ prog_13_method_33_code 2 (some .int) ∈ tm_gw := tm_in 1287 rfl rfl
set_option maxRecDepth 100000 in
theorem tm_c134 : Cond.code ⟨"TermRulesModel", "findOrder", "()V"⟩ prog_13_method_32_code 2 none ∈ tm_gw := tm_in 1291 rfl rfl
set_option maxRecDepth 100000 in
theorem tm_c135 : Cond.code ⟨"TermRulesModel", "allEnd", "()Z"⟩ prog_13_method_30_code 3 (some .boolean) ∈ tm_gw := tm_in 1295 rfl rfl
set_option maxRecDepth 100000 in
theorem tm_c136 : Cond.code ⟨"TermRulesModel", "isEnding", "(I)Z"⟩ prog_13_method_29_code 4 (some .boolean) ∈ tm_gw := tm_in 1299 rfl rfl
set_option maxRecDepth 100000 in
theorem tm_c137 : Cond.code ⟨"TermRulesModel", "ends", "([III[I)V"⟩ prog_13_method_25_code 8 none ∈ tm_gw := tm_in 1303 rfl rfl
set_option maxRecDepth 100000 in
theorem tm_c138 : Cond.code ⟨"TermRulesModel", "partsOf", "(I)I"⟩ prog_13_method_24_code 2 (some .int) ∈ tm_gw := tm_in 1307 rfl rfl
set_option maxRecDepth 100000 in
theorem tm_c139 : Cond.code ⟨"TermRulesModel", "findLike", "(III)Z"⟩ prog_13_method_28_code 7 (some .boolean) ∈ tm_gw := tm_in 1311 rfl rfl
set_option maxRecDepth 100000 in
theorem tm_c140 : Cond.code ⟨"TermRulesModel", "findAbove", "(III)Z"⟩ prog_13_method_27_code 9 (some .boolean) ∈ tm_gw := tm_in 1315 rfl rfl
set_option maxRecDepth 100000 in
theorem tm_c141 : Cond.code ⟨"TermRulesModel", "has", "(III)Z"⟩ prog_13_method_26_code 6 (some .boolean) ∈ tm_gw := tm_in 1319 rfl rfl
set_option maxRecDepth 100000 in
theorem tm_c142 : Cond.code ⟨"TermRulesModel", "goesOn", "()Z"⟩ prog_13_method_31_code 6 (some .boolean) ∈ tm_gw := tm_in 1323 rfl rfl
set_option maxRecDepth 100000 in
theorem tm_c143 : Cond.code ⟨"TermRulesModel", "reduce", "(I)I"⟩ prog_13_method_43_code 5 (some .int) ∈ tm_gw := tm_in 1327 rfl rfl
set_option maxRecDepth 100000 in
theorem tm_c144 : Cond.code ⟨"TermRulesModel", "readText", "(IZ)I"⟩ prog_13_method_42_code 5 (some .int) ∈ tm_gw := tm_in 1331 rfl rfl
set_option maxRecDepth 100000 in
theorem tm_c145 : Cond.code ⟨"TermRulesModel", "wrongInTerm", "()I"⟩ prog_13_method_40_code 3 (some .int) ∈ tm_gw := tm_in 1335 rfl rfl
set_option maxRecDepth 100000 in
theorem tm_c146 : Cond.code ⟨"TermRulesModel", "codeOf", "(I)I"⟩ prog_13_method_39_code 6 (some .int) ∈ tm_gw := tm_in 1339 rfl rfl
set_option maxRecDepth 100000 in
theorem tm_c147 : Cond.code ⟨"TermRulesModel", "load", "(II)Z"⟩ prog_13_method_41_code 4 (some .boolean) ∈ tm_gw := tm_in 1343 rfl rfl
set_option maxRecDepth 100000 in
theorem tm_c148 : Cond.code ⟨"TermRulesModel", "reduces", "()Z"⟩ prog_13_method_38_code 2 (some .boolean) ∈ tm_gw := tm_in 1347 rfl rfl
set_option maxRecDepth 100000 in
theorem tm_c149 : Cond.code ⟨"TermRulesModel", "step", "()I"⟩ prog_13_method_37_code 9 (some .int) ∈ tm_gw := tm_in 1351 rfl rfl
set_option maxRecDepth 100000 in
theorem tm_c150 : Cond.code ⟨"TermRulesModel", "ruleAt", "(I)I"⟩ prog_13_method_36_code 3 (some .int) ∈ tm_gw := tm_in 1355 rfl rfl
set_option maxRecDepth 100000 in
theorem tm_c151 : Cond.code ⟨"TermRulesModel", "matches", "(II)Z"⟩ prog_13_method_35_code 7 (some .boolean) ∈ tm_gw := tm_in 1359 rfl rfl
set_option maxRecDepth 100000 in
theorem tm_c152 : Cond.code ⟨"TermRulesModel", "isSame", "(II)Z"⟩ prog_13_method_34_code 5 (some .boolean) ∈ tm_gw := tm_in 1363 rfl rfl
set_option maxRecDepth 100000 in
theorem tm_c153 : Cond.code ⟨"TermRulesModel", "same", "(I)I"⟩ prog_13_method_46_code 3 (some .int) ∈ tm_gw := tm_in 1367 rfl rfl
set_option maxRecDepth 100000 in
theorem tm_c154 : Cond.code ⟨"TermRulesModel", "keep", "()V"⟩ prog_13_method_44_code 2 none ∈ tm_gw := tm_in 1371 rfl rfl
set_option maxRecDepth 100000 in
theorem tm_c155 : Cond.code ⟨"TermRulesModel", "isKept", "()Z"⟩ prog_13_method_45_code 3 (some .boolean) ∈ tm_gw := tm_in 1375 rfl rfl
set_option maxRecDepth 100000 in
theorem tm_c156 : Cond.code ⟨"TermRulesModel", "meetings", "()I"⟩ prog_13_method_55_code 1 (some .int) ∈ tm_gw := tm_in 1379 rfl rfl
set_option maxRecDepth 100000 in
theorem tm_c157 : Cond.code ⟨"TermRulesModel", "findMeetings", "()V"⟩ prog_13_method_54_code 5 none ∈ tm_gw := tm_in 1383 rfl rfl
set_option maxRecDepth 100000 in
theorem tm_c158 : Cond.code ⟨"TermRulesModel", "layBoth", "(II)V"⟩ prog_13_method_48_code 4 none ∈ tm_gw := tm_in 1387 rfl rfl
set_option maxRecDepth 100000 in
theorem tm_c159 : Cond.code ⟨"TermRulesModel", "lay", "(I[IIII)V"⟩ prog_13_method_47_code 9 none ∈ tm_gw := tm_in 1391 rfl rfl
set_option maxRecDepth 100000 in
theorem tm_c160 : Cond.code ⟨"TermRulesModel", "joins", "(II)Z"⟩ prog_13_method_53_code 8 (some .boolean) ∈ tm_gw := tm_in 1395 rfl rfl
set_option maxRecDepth 100000 in
theorem tm_c161 : Cond.code ⟨"TermRulesModel", "push", "(II)V"⟩ prog_13_method_52_code 3 none ∈ tm_gw := tm_in 1399 rfl rfl
set_option maxRecDepth 100000 in
theorem tm_c162 : Cond.code ⟨"TermRulesModel", "real", "(I)I"⟩ prog_13_method_49_code 3 (some .int) ∈ tm_gw := tm_in 1403 rfl rfl
set_option maxRecDepth 100000 in
theorem tm_c163 : Cond.code ⟨"TermRulesModel", "occurs", "(II)Z"⟩ prog_13_method_51_code 7 (some .boolean) ∈ tm_gw := tm_in 1407 rfl rfl
set_option maxRecDepth 100000 in
theorem tm_c164 : Cond.code ⟨"TermRulesModel", "clearSeen", "()V"⟩ prog_13_method_50_code 2 none ∈ tm_gw := tm_in 1411 rfl rfl
set_option maxRecDepth 100000 in
theorem tm_c165 : Cond.code ⟨"TermRulesModel", "meeting", "(II)I"⟩ prog_13_method_57_code 3 (some .int) ∈ tm_gw := tm_in 1415 rfl rfl
set_option maxRecDepth 100000 in
theorem tm_c166 : Cond.code ⟨"TermRulesModel", "isMeeting", "(I)Z"⟩ prog_13_method_56_code 2 (some .boolean) ∈ tm_gw := tm_in 1419 rfl rfl
set_option maxRecDepth 100000 in
theorem tm_c167 : Cond.code ⟨"TermRulesModel", "closes", "(I)I"⟩ prog_13_method_62_code 2 (some .int) ∈ tm_gw := tm_in 1423 rfl rfl
set_option maxRecDepth 100000 in
theorem tm_c168 : Cond.code ⟨"TermRulesModel", "reducedSide", "(II)Z"⟩ prog_13_method_61_code 4 (some .boolean) ∈ tm_gw := tm_in 1427 rfl rfl
set_option maxRecDepth 100000 in
theorem tm_c169 : Cond.code ⟨"TermRulesModel", "laySide", "(II)Z"⟩ prog_13_method_60_code 7 (some .boolean) ∈ tm_gw := tm_in 1431 rfl rfl
set_option maxRecDepth 100000 in
theorem tm_c170 : Cond.code ⟨"TermRulesModel", "count", "(II)V"⟩ prog_13_method_58_code 5 none ∈ tm_gw := tm_in 1435 rfl rfl
set_option maxRecDepth 100000 in
theorem tm_c171 : Cond.code ⟨"TermRulesModel", "spread", "(II)V"⟩ prog_13_method_59_code 5 none ∈ tm_gw := tm_in 1439 rfl rfl
set_option maxRecDepth 100000 in
theorem tm_c172 : Cond.code ⟨"TermRulesModel", "isSure", "()I"⟩ prog_13_method_63_code 3 (some .int) ∈ tm_gw := tm_in 1443 rfl rfl
set_option maxRecDepth 100000 in
theorem tm_c173 : Cond.code ⟨"TermRulesModel", "write", "(IIZ)I"⟩ prog_13_method_68_code 4 (some .int) ∈ tm_gw := tm_in 1448 rfl rfl
set_option maxRecDepth 100000 in
theorem tm_c174 : Cond.code ⟨"TermRulesModel", "onPaper", "([IIZ)I"⟩ prog_13_method_67_code 6 (some .int) ∈ tm_gw := tm_in 1452 rfl rfl
set_option maxRecDepth 100000 in
theorem tm_c175 : Cond.code ⟨"TermRulesModel", "putCode", "(IZ)V"⟩ prog_13_method_66_code 4 none ∈ tm_gw := tm_in 1456 rfl rfl
set_option maxRecDepth 100000 in
theorem tm_c176 : Cond.code ⟨"TermRulesModel", "putNumber", "(I)V"⟩ prog_13_method_65_code 3 none ∈ tm_gw := tm_in 1460 rfl rfl
set_option maxRecDepth 100000 in
theorem tm_c177 : Cond.code ⟨"TermRulesModel", "put", "(I)V"⟩ prog_13_method_64_code 2 none ∈ tm_gw := tm_in 1464 rfl rfl
set_option maxRecDepth 100000 in
theorem tm_c178 : Cond.code ⟨"TermRulesModel", "result", "()I"⟩ prog_13_method_69_code 1 (some .int) ∈ tm_gw := tm_in 1468 rfl rfl
set_option maxRecDepth 100000 in
theorem tm_c179 : Cond.code ⟨"TermRulesModel", "written", "(I)I"⟩ prog_13_method_70_code 2 (some .int) ∈ tm_gw := tm_in 1472 rfl rfl
theorem tm_cc0 : ∀ q ∈ tm_rows_0, Cond.code q.1 q.2.1 q.2.2.1 q.2.2.2 ∈ tm_gw := List.forall_mem_cons.mpr ⟨tm_c0, List.forall_mem_cons.mpr ⟨tm_c1, List.forall_mem_cons.mpr ⟨tm_c2, List.forall_mem_cons.mpr ⟨tm_c3, List.forall_mem_cons.mpr ⟨tm_c4, List.forall_mem_cons.mpr ⟨tm_c5, List.forall_mem_cons.mpr ⟨tm_c6, List.forall_mem_cons.mpr ⟨tm_c7, List.forall_mem_cons.mpr ⟨tm_c8, List.forall_mem_cons.mpr ⟨tm_c9, List.forall_mem_cons.mpr ⟨tm_c10, List.forall_mem_cons.mpr ⟨tm_c11, List.forall_mem_cons.mpr ⟨tm_c12, List.forall_mem_cons.mpr ⟨tm_c13, List.forall_mem_cons.mpr ⟨tm_c14, List.forall_mem_cons.mpr ⟨tm_c15, fun _ h => absurd h List.not_mem_nil⟩⟩⟩⟩⟩⟩⟩⟩⟩⟩⟩⟩⟩⟩⟩⟩
theorem tm_cc1 : ∀ q ∈ tm_rows_1, Cond.code q.1 q.2.1 q.2.2.1 q.2.2.2 ∈ tm_gw := List.forall_mem_cons.mpr ⟨tm_c16, List.forall_mem_cons.mpr ⟨tm_c17, List.forall_mem_cons.mpr ⟨tm_c18, List.forall_mem_cons.mpr ⟨tm_c19, List.forall_mem_cons.mpr ⟨tm_c20, List.forall_mem_cons.mpr ⟨tm_c21, List.forall_mem_cons.mpr ⟨tm_c22, List.forall_mem_cons.mpr ⟨tm_c23, List.forall_mem_cons.mpr ⟨tm_c24, List.forall_mem_cons.mpr ⟨tm_c25, List.forall_mem_cons.mpr ⟨tm_c26, List.forall_mem_cons.mpr ⟨tm_c27, List.forall_mem_cons.mpr ⟨tm_c28, List.forall_mem_cons.mpr ⟨tm_c29, List.forall_mem_cons.mpr ⟨tm_c30, List.forall_mem_cons.mpr ⟨tm_c31, fun _ h => absurd h List.not_mem_nil⟩⟩⟩⟩⟩⟩⟩⟩⟩⟩⟩⟩⟩⟩⟩⟩
theorem tm_cc2 : ∀ q ∈ tm_rows_2, Cond.code q.1 q.2.1 q.2.2.1 q.2.2.2 ∈ tm_gw := List.forall_mem_cons.mpr ⟨tm_c32, List.forall_mem_cons.mpr ⟨tm_c33, List.forall_mem_cons.mpr ⟨tm_c34, List.forall_mem_cons.mpr ⟨tm_c35, List.forall_mem_cons.mpr ⟨tm_c36, List.forall_mem_cons.mpr ⟨tm_c37, List.forall_mem_cons.mpr ⟨tm_c38, List.forall_mem_cons.mpr ⟨tm_c39, List.forall_mem_cons.mpr ⟨tm_c40, List.forall_mem_cons.mpr ⟨tm_c41, List.forall_mem_cons.mpr ⟨tm_c42, List.forall_mem_cons.mpr ⟨tm_c43, List.forall_mem_cons.mpr ⟨tm_c44, List.forall_mem_cons.mpr ⟨tm_c45, List.forall_mem_cons.mpr ⟨tm_c46, List.forall_mem_cons.mpr ⟨tm_c47, fun _ h => absurd h List.not_mem_nil⟩⟩⟩⟩⟩⟩⟩⟩⟩⟩⟩⟩⟩⟩⟩⟩
theorem tm_cc3 : ∀ q ∈ tm_rows_3, Cond.code q.1 q.2.1 q.2.2.1 q.2.2.2 ∈ tm_gw := List.forall_mem_cons.mpr ⟨tm_c48, List.forall_mem_cons.mpr ⟨tm_c49, List.forall_mem_cons.mpr ⟨tm_c50, List.forall_mem_cons.mpr ⟨tm_c51, List.forall_mem_cons.mpr ⟨tm_c52, List.forall_mem_cons.mpr ⟨tm_c53, List.forall_mem_cons.mpr ⟨tm_c54, List.forall_mem_cons.mpr ⟨tm_c55, List.forall_mem_cons.mpr ⟨tm_c56, List.forall_mem_cons.mpr ⟨tm_c57, List.forall_mem_cons.mpr ⟨tm_c58, List.forall_mem_cons.mpr ⟨tm_c59, List.forall_mem_cons.mpr ⟨tm_c60, List.forall_mem_cons.mpr ⟨tm_c61, List.forall_mem_cons.mpr ⟨tm_c62, List.forall_mem_cons.mpr ⟨tm_c63, fun _ h => absurd h List.not_mem_nil⟩⟩⟩⟩⟩⟩⟩⟩⟩⟩⟩⟩⟩⟩⟩⟩
theorem tm_cc4 : ∀ q ∈ tm_rows_4, Cond.code q.1 q.2.1 q.2.2.1 q.2.2.2 ∈ tm_gw := List.forall_mem_cons.mpr ⟨tm_c64, List.forall_mem_cons.mpr ⟨tm_c65, List.forall_mem_cons.mpr ⟨tm_c66, List.forall_mem_cons.mpr ⟨tm_c67, List.forall_mem_cons.mpr ⟨tm_c68, List.forall_mem_cons.mpr ⟨tm_c69, List.forall_mem_cons.mpr ⟨tm_c70, List.forall_mem_cons.mpr ⟨tm_c71, List.forall_mem_cons.mpr ⟨tm_c72, List.forall_mem_cons.mpr ⟨tm_c73, List.forall_mem_cons.mpr ⟨tm_c74, List.forall_mem_cons.mpr ⟨tm_c75, List.forall_mem_cons.mpr ⟨tm_c76, List.forall_mem_cons.mpr ⟨tm_c77, List.forall_mem_cons.mpr ⟨tm_c78, List.forall_mem_cons.mpr ⟨tm_c79, fun _ h => absurd h List.not_mem_nil⟩⟩⟩⟩⟩⟩⟩⟩⟩⟩⟩⟩⟩⟩⟩⟩
theorem tm_cc5 : ∀ q ∈ tm_rows_5, Cond.code q.1 q.2.1 q.2.2.1 q.2.2.2 ∈ tm_gw := List.forall_mem_cons.mpr ⟨tm_c80, List.forall_mem_cons.mpr ⟨tm_c81, List.forall_mem_cons.mpr ⟨tm_c82, List.forall_mem_cons.mpr ⟨tm_c83, List.forall_mem_cons.mpr ⟨tm_c84, List.forall_mem_cons.mpr ⟨tm_c85, List.forall_mem_cons.mpr ⟨tm_c86, List.forall_mem_cons.mpr ⟨tm_c87, List.forall_mem_cons.mpr ⟨tm_c88, List.forall_mem_cons.mpr ⟨tm_c89, List.forall_mem_cons.mpr ⟨tm_c90, List.forall_mem_cons.mpr ⟨tm_c91, List.forall_mem_cons.mpr ⟨tm_c92, List.forall_mem_cons.mpr ⟨tm_c93, List.forall_mem_cons.mpr ⟨tm_c94, List.forall_mem_cons.mpr ⟨tm_c95, fun _ h => absurd h List.not_mem_nil⟩⟩⟩⟩⟩⟩⟩⟩⟩⟩⟩⟩⟩⟩⟩⟩
theorem tm_cc6 : ∀ q ∈ tm_rows_6, Cond.code q.1 q.2.1 q.2.2.1 q.2.2.2 ∈ tm_gw := List.forall_mem_cons.mpr ⟨tm_c96, List.forall_mem_cons.mpr ⟨tm_c97, List.forall_mem_cons.mpr ⟨tm_c98, List.forall_mem_cons.mpr ⟨tm_c99, List.forall_mem_cons.mpr ⟨tm_c100, List.forall_mem_cons.mpr ⟨tm_c101, List.forall_mem_cons.mpr ⟨tm_c102, List.forall_mem_cons.mpr ⟨tm_c103, List.forall_mem_cons.mpr ⟨tm_c104, List.forall_mem_cons.mpr ⟨tm_c105, List.forall_mem_cons.mpr ⟨tm_c106, List.forall_mem_cons.mpr ⟨tm_c107, List.forall_mem_cons.mpr ⟨tm_c108, List.forall_mem_cons.mpr ⟨tm_c109, List.forall_mem_cons.mpr ⟨tm_c110, List.forall_mem_cons.mpr ⟨tm_c111, fun _ h => absurd h List.not_mem_nil⟩⟩⟩⟩⟩⟩⟩⟩⟩⟩⟩⟩⟩⟩⟩⟩
theorem tm_cc7 : ∀ q ∈ tm_rows_7, Cond.code q.1 q.2.1 q.2.2.1 q.2.2.2 ∈ tm_gw := List.forall_mem_cons.mpr ⟨tm_c112, List.forall_mem_cons.mpr ⟨tm_c113, List.forall_mem_cons.mpr ⟨tm_c114, List.forall_mem_cons.mpr ⟨tm_c115, List.forall_mem_cons.mpr ⟨tm_c116, List.forall_mem_cons.mpr ⟨tm_c117, List.forall_mem_cons.mpr ⟨tm_c118, List.forall_mem_cons.mpr ⟨tm_c119, List.forall_mem_cons.mpr ⟨tm_c120, List.forall_mem_cons.mpr ⟨tm_c121, List.forall_mem_cons.mpr ⟨tm_c122, List.forall_mem_cons.mpr ⟨tm_c123, List.forall_mem_cons.mpr ⟨tm_c124, List.forall_mem_cons.mpr ⟨tm_c125, List.forall_mem_cons.mpr ⟨tm_c126, List.forall_mem_cons.mpr ⟨tm_c127, fun _ h => absurd h List.not_mem_nil⟩⟩⟩⟩⟩⟩⟩⟩⟩⟩⟩⟩⟩⟩⟩⟩
theorem tm_cc8 : ∀ q ∈ tm_rows_8, Cond.code q.1 q.2.1 q.2.2.1 q.2.2.2 ∈ tm_gw := List.forall_mem_cons.mpr ⟨tm_c128, List.forall_mem_cons.mpr ⟨tm_c129, List.forall_mem_cons.mpr ⟨tm_c130, List.forall_mem_cons.mpr ⟨tm_c131, List.forall_mem_cons.mpr ⟨tm_c132, List.forall_mem_cons.mpr ⟨tm_c133, List.forall_mem_cons.mpr ⟨tm_c134, List.forall_mem_cons.mpr ⟨tm_c135, List.forall_mem_cons.mpr ⟨tm_c136, List.forall_mem_cons.mpr ⟨tm_c137, List.forall_mem_cons.mpr ⟨tm_c138, List.forall_mem_cons.mpr ⟨tm_c139, List.forall_mem_cons.mpr ⟨tm_c140, List.forall_mem_cons.mpr ⟨tm_c141, List.forall_mem_cons.mpr ⟨tm_c142, List.forall_mem_cons.mpr ⟨tm_c143, fun _ h => absurd h List.not_mem_nil⟩⟩⟩⟩⟩⟩⟩⟩⟩⟩⟩⟩⟩⟩⟩⟩
theorem tm_cc9 : ∀ q ∈ tm_rows_9, Cond.code q.1 q.2.1 q.2.2.1 q.2.2.2 ∈ tm_gw := List.forall_mem_cons.mpr ⟨tm_c144, List.forall_mem_cons.mpr ⟨tm_c145, List.forall_mem_cons.mpr ⟨tm_c146, List.forall_mem_cons.mpr ⟨tm_c147, List.forall_mem_cons.mpr ⟨tm_c148, List.forall_mem_cons.mpr ⟨tm_c149, List.forall_mem_cons.mpr ⟨tm_c150, List.forall_mem_cons.mpr ⟨tm_c151, List.forall_mem_cons.mpr ⟨tm_c152, List.forall_mem_cons.mpr ⟨tm_c153, List.forall_mem_cons.mpr ⟨tm_c154, List.forall_mem_cons.mpr ⟨tm_c155, List.forall_mem_cons.mpr ⟨tm_c156, List.forall_mem_cons.mpr ⟨tm_c157, List.forall_mem_cons.mpr ⟨tm_c158, List.forall_mem_cons.mpr ⟨tm_c159, fun _ h => absurd h List.not_mem_nil⟩⟩⟩⟩⟩⟩⟩⟩⟩⟩⟩⟩⟩⟩⟩⟩
theorem tm_cc10 : ∀ q ∈ tm_rows_10, Cond.code q.1 q.2.1 q.2.2.1 q.2.2.2 ∈ tm_gw := List.forall_mem_cons.mpr ⟨tm_c160, List.forall_mem_cons.mpr ⟨tm_c161, List.forall_mem_cons.mpr ⟨tm_c162, List.forall_mem_cons.mpr ⟨tm_c163, List.forall_mem_cons.mpr ⟨tm_c164, List.forall_mem_cons.mpr ⟨tm_c165, List.forall_mem_cons.mpr ⟨tm_c166, List.forall_mem_cons.mpr ⟨tm_c167, List.forall_mem_cons.mpr ⟨tm_c168, List.forall_mem_cons.mpr ⟨tm_c169, List.forall_mem_cons.mpr ⟨tm_c170, List.forall_mem_cons.mpr ⟨tm_c171, List.forall_mem_cons.mpr ⟨tm_c172, List.forall_mem_cons.mpr ⟨tm_c173, List.forall_mem_cons.mpr ⟨tm_c174, List.forall_mem_cons.mpr ⟨tm_c175, fun _ h => absurd h List.not_mem_nil⟩⟩⟩⟩⟩⟩⟩⟩⟩⟩⟩⟩⟩⟩⟩⟩
theorem tm_cc11 : ∀ q ∈ tm_rows_11, Cond.code q.1 q.2.1 q.2.2.1 q.2.2.2 ∈ tm_gw := List.forall_mem_cons.mpr ⟨tm_c176, List.forall_mem_cons.mpr ⟨tm_c177, List.forall_mem_cons.mpr ⟨tm_c178, List.forall_mem_cons.mpr ⟨tm_c179, fun _ h => absurd h List.not_mem_nil⟩⟩⟩⟩
theorem tm_ccA : ∀ q ∈ tm_rowsA, Cond.code q.1 q.2.1 q.2.2.1 q.2.2.2 ∈ tm_gw := List.forall_mem_append.mpr ⟨tm_cc0, List.forall_mem_append.mpr ⟨tm_cc1, List.forall_mem_append.mpr ⟨tm_cc2, List.forall_mem_append.mpr ⟨tm_cc3, List.forall_mem_append.mpr ⟨tm_cc4, List.forall_mem_append.mpr ⟨tm_cc5, List.forall_mem_append.mpr ⟨tm_cc6, List.forall_mem_append.mpr ⟨tm_cc7, List.forall_mem_append.mpr ⟨tm_cc8, List.forall_mem_append.mpr ⟨tm_cc9, List.forall_mem_append.mpr ⟨tm_cc10, tm_cc11⟩⟩⟩⟩⟩⟩⟩⟩⟩⟩⟩
theorem tm_rlen : tm_rowsA.length = 180 := by decide +kernel
theorem tm_code_in {y : Nat} (hy : y < 180) : Cond.code (mY y) (mB y) (mL y) (mT y) ∈ tm_gw := by
  have h : ∃ q, q ∈ tm_rowsA ∧ tm_mrow y = q := by
    have hl := tm_rlen
    refine ⟨tm_rowsA[y]'(by omega), List.getElem_mem _, ?_⟩
    unfold tm_mrow tm_rows
    rw [List.getD_eq_getElem?_getD, List.getElem?_append_left (by omega), List.getElem?_eq_getElem (by omega)]
    rfl
  obtain ⟨q, h1, h2⟩ := h
  have h3 := tm_ccA q h1
  unfold mY mB mL mT
  rw [h2]
  exact h3
def tm_lk : List (Nat × Nat × Nat × Nat × Nat) → Nat → Nat → Option (Nat × Nat)
  | [], _, _ => none
  | (a, b, c, d, _) :: l, o, i => if a = o ∧ b = i then some (c, d) else tm_lk l o i
/-- fields: class, entry, the field's class, its slot, the word's place -/
def tm_fl : List (Nat × Nat × Nat × Nat × Nat) := [(8, 9, 8, 0, 146), (8, 15, 8, 1, 147), (8, 19, 8, 2, 148), (8, 22, 8, 3, 149), (7, 61, 8, 3, 150), (8, 25, 8, 4, 151), (7, 70, 8, 4, 152), (8, 28, 8, 5, 153), (7, 91, 8, 5, 154), (8, 32, 8, 6, 155), (7, 95, 8, 6, 156), (7, 12, 7, 0, 173), (7, 18, 7, 1, 174), (7, 22, 7, 2, 175), (7, 26, 7, 3, 176), (7, 29, 7, 4, 177), (7, 32, 7, 5, 178), (5, 52, 7, 5, 179), (7, 35, 7, 6, 180), (5, 100, 7, 6, 181), (7, 39, 7, 7, 182), (5, 104, 7, 7, 183), (7, 42, 7, 8, 184), (5, 120, 7, 8, 185), (7, 45, 7, 9, 186), (5, 68, 7, 9, 187), (7, 48, 7, 10, 188), (5, 55, 7, 10, 189), (7, 51, 7, 11, 190), (5, 45, 7, 11, 191), (10, 142, 7, 11, 192), (1, 15, 1, 0, 234), (9, 49, 1, 0, 235), (1, 19, 1, 1, 236), (9, 55, 1, 1, 237), (1, 9, 1, 2, 238), (5, 41, 1, 2, 239), (2, 41, 1, 2, 240), (10, 124, 1, 2, 241), (6, 9, 6, 0, 260), (0, 83, 6, 0, 261), (3, 94, 6, 0, 262), (5, 97, 6, 0, 263), (2, 101, 6, 0, 264), (6, 15, 6, 1, 265), (0, 104, 6, 1, 266), (2, 104, 6, 1, 267), (6, 18, 6, 2, 268), (0, 76, 6, 2, 269), (5, 78, 6, 2, 270), (2, 94, 6, 2, 271), (3, 126, 6, 2, 272), (4, 12, 4, 0, 280), (0, 70, 4, 0, 281), (3, 88, 4, 0, 282), (5, 75, 4, 0, 283), (2, 85, 4, 0, 284), (4, 18, 4, 1, 285), (5, 71, 4, 1, 286), (2, 91, 4, 1, 287), (3, 135, 4, 1, 288), (0, 128, 4, 1, 289), (4, 21, 4, 2, 290), (5, 125, 4, 2, 291), (3, 138, 4, 2, 292), (4, 25, 4, 3, 293), (5, 114, 4, 3, 294), (0, 105, 4, 3, 295), (4, 28, 4, 4, 296), (5, 81, 4, 4, 297), (3, 123, 4, 4, 298), (5, 11, 5, 0, 310), (0, 66, 5, 0, 311), (3, 84, 5, 0, 312), (2, 81, 5, 0, 313), (5, 22, 5, 1, 314), (2, 35, 5, 1, 315), (9, 26, 5, 1, 316), (10, 121, 5, 1, 317), (5, 26, 5, 2, 318), (9, 43, 5, 2, 319), (3, 68, 5, 2, 320), (10, 125, 5, 2, 321), (5, 30, 5, 3, 322), (0, 63, 5, 3, 323), (3, 81, 5, 3, 324), (10, 110, 5, 3, 325), (2, 80, 5, 3, 326), (5, 34, 5, 4, 327), (5, 37, 5, 5, 328), (3, 9, 3, 0, 350), (10, 147, 3, 0, 351), (3, 15, 3, 1, 352), (3, 18, 3, 2, 353), (3, 22, 3, 3, 354), (3, 25, 3, 4, 355), (3, 28, 3, 5, 356), (3, 31, 3, 6, 357), (3, 34, 3, 7, 358), (3, 37, 3, 8, 359), (3, 40, 3, 9, 360), (3, 43, 3, 10, 361), (3, 46, 3, 11, 362), (3, 49, 3, 12, 363), (3, 52, 3, 13, 364), (2, 9, 2, 0, 400), (10, 116, 2, 0, 401), (2, 15, 2, 1, 402), (10, 132, 2, 1, 403), (2, 18, 2, 2, 404), (10, 135, 2, 2, 405), (2, 22, 2, 3, 406), (2, 25, 2, 4, 407), (2, 28, 2, 5, 408), (2, 32, 2, 6, 409), (0, 9, 0, 0, 431), (10, 120, 0, 0, 432), (0, 15, 0, 1, 433), (10, 171, 0, 1, 434), (0, 19, 0, 2, 435), (10, 176, 0, 2, 436), (0, 23, 0, 3, 437), (10, 179, 0, 3, 438), (0, 26, 0, 4, 439), (10, 182, 0, 4, 440), (0, 29, 0, 5, 441), (0, 32, 0, 6, 442), (0, 35, 0, 7, 443), (0, 38, 0, 8, 444), (0, 41, 0, 9, 445), (0, 45, 0, 10, 446), (0, 48, 0, 11, 447), (0, 51, 0, 12, 448), (0, 54, 0, 13, 449), (0, 57, 0, 14, 450), (0, 60, 0, 15, 451), (9, 9, 9, 0, 492), (10, 196, 9, 0, 493), (9, 15, 9, 1, 494), (9, 19, 9, 2, 495), (9, 23, 9, 3, 496), (10, 9, 10, 0, 506), (10, 13, 10, 1, 507), (10, 17, 10, 2, 508), (10, 23, 10, 3, 509), (10, 30, 10, 4, 510), (10, 39, 10, 5, 511), (10, 43, 10, 6, 512), (10, 47, 10, 7, 513), (10, 50, 10, 8, 514), (10, 56, 10, 9, 515), (10, 63, 10, 10, 516), (10, 70, 10, 11, 517), (10, 77, 10, 12, 518), (10, 81, 10, 13, 519), (10, 84, 10, 14, 520), (10, 87, 10, 15, 521), (10, 90, 10, 16, 522), (10, 93, 10, 17, 523), (11, 7, 11, 0, 979), (11, 156, 11, 1, 980), (11, 13, 11, 2, 981), (11, 17, 11, 3, 982), (11, 20, 11, 4, 983), (11, 23, 11, 5, 984), (11, 163, 11, 6, 985), (11, 181, 11, 7, 986), (11, 184, 11, 8, 987), (11, 26, 11, 9, 988), (11, 29, 11, 10, 989), (11, 191, 11, 11, 990), (11, 32, 11, 12, 991), (11, 35, 11, 13, 992), (11, 38, 11, 14, 993), (11, 197, 11, 15, 994), (11, 203, 11, 16, 995), (11, 41, 11, 17, 996), (11, 44, 11, 18, 997), (11, 47, 11, 19, 998), (11, 50, 11, 20, 999), (11, 227, 11, 21, 1000), (11, 53, 11, 22, 1001), (11, 56, 11, 23, 1002), (11, 59, 11, 24, 1003), (11, 62, 11, 25, 1004), (11, 65, 11, 26, 1005), (11, 210, 11, 27, 1006), (11, 237, 11, 28, 1007), (11, 278, 11, 29, 1008), (11, 68, 11, 30, 1009), (11, 71, 11, 31, 1010), (11, 74, 11, 32, 1011), (11, 78, 11, 33, 1012), (11, 81, 11, 34, 1013), (11, 84, 11, 35, 1014), (11, 87, 11, 36, 1015), (11, 90, 11, 37, 1016), (11, 93, 11, 38, 1017), (11, 293, 11, 39, 1018), (11, 299, 11, 40, 1019), (11, 96, 11, 41, 1020), (11, 99, 11, 42, 1021), (11, 305, 11, 43, 1022), (11, 311, 11, 44, 1023), (11, 240, 11, 45, 1024), (11, 102, 11, 46, 1025), (11, 327, 11, 47, 1026), (11, 105, 11, 48, 1027), (11, 108, 11, 49, 1028), (11, 111, 11, 50, 1029), (11, 114, 11, 51, 1030), (11, 330, 11, 52, 1031), (11, 117, 11, 53, 1032), (11, 120, 11, 54, 1033), (11, 123, 11, 55, 1034), (11, 126, 11, 56, 1035), (11, 129, 11, 57, 1036), (11, 346, 11, 58, 1037), (11, 233, 11, 59, 1038), (11, 230, 11, 60, 1039), (11, 132, 11, 61, 1040), (11, 135, 11, 62, 1041), (11, 138, 11, 63, 1042), (11, 141, 11, 64, 1043), (11, 371, 11, 65, 1044), (11, 144, 11, 66, 1045), (11, 374, 11, 67, 1046), (11, 147, 11, 68, 1047), (11, 404, 11, 69, 1048), (11, 150, 11, 70, 1049), (11, 391, 11, 71, 1050), (11, 153, 11, 72, 1051)]
/-- methods: class, entry, kind (0, 1 a nest mate's, 2 Object.<init>, 3 arraycopy, 4 Math.min, 5 Math.max), number, the word's place -/
def tm_ml : List (Nat × Nat × Nat × Nat × Nat) := [(12, 9, 0, 0, 128), (10, 1, 2, 999, 131), (10, 22, 1, 1, 136), (7, 3, 2, 999, 139), (7, 11, 1, 2, 142), (8, 3, 2, 999, 145), (10, 29, 0, 3, 222), (5, 3, 2, 999, 225), (5, 19, 0, 4, 230), (1, 3, 2, 999, 233), (5, 40, 1, 5, 250), (4, 3, 2, 999, 253), (4, 11, 1, 6, 256), (6, 3, 2, 999, 259), (10, 36, 0, 4, 343), (10, 55, 1, 7, 346), (3, 3, 2, 999, 349), (10, 62, 1, 8, 396), (2, 3, 2, 999, 399), (10, 69, 1, 9, 427), (0, 3, 2, 999, 430), (10, 76, 1, 10, 488), (9, 3, 2, 999, 491), (12, 13, 0, 11, 561), (10, 96, 0, 12, 565), (12, 18, 0, 13, 569), (10, 99, 0, 14, 573), (10, 113, 0, 15, 577), (10, 102, 0, 16, 581), (7, 54, 0, 17, 585), (8, 35, 4, 999, 589), (7, 58, 0, 18, 592), (8, 41, 0, 19, 596), (8, 45, 0, 20, 599), (8, 48, 0, 21, 602), (8, 55, 0, 22, 606), (8, 52, 0, 23, 609), (7, 62, 0, 24, 612), (7, 101, 0, 25, 616), (7, 66, 0, 26, 620), (7, 72, 0, 27, 624), (7, 98, 0, 28, 628), (7, 75, 0, 29, 634), (7, 78, 0, 30, 638), (7, 82, 0, 31, 642), (7, 85, 0, 32, 646), (7, 88, 0, 33, 650), (10, 106, 0, 34, 654), (5, 42, 0, 15, 658), (5, 48, 0, 35, 659), (5, 84, 0, 28, 663), (5, 88, 0, 36, 664), (5, 107, 0, 37, 668), (5, 111, 0, 38, 673), (5, 92, 0, 39, 677), (5, 117, 0, 40, 681), (5, 58, 4, 999, 685), (5, 64, 0, 41, 686), (5, 121, 0, 42, 690), (5, 128, 1, 43, 694), (12, 23, 0, 44, 697), (12, 28, 0, 45, 701), (12, 32, 0, 46, 705), (12, 36, 0, 47, 709), (10, 128, 0, 48, 713), (2, 47, 0, 49, 717), (2, 53, 0, 50, 720), (2, 57, 0, 51, 724), (2, 69, 0, 52, 728), (2, 61, 0, 53, 732), (2, 97, 0, 54, 737), (2, 107, 0, 55, 741), (2, 111, 5, 999, 745), (2, 117, 0, 56, 748), (2, 120, 0, 57, 752), (2, 65, 0, 58, 756), (2, 72, 3, 999, 760), (12, 40, 0, 59, 763), (10, 138, 0, 60, 767), (10, 166, 0, 61, 771), (5, 132, 0, 62, 775), (1, 23, 0, 37, 779), (1, 27, 0, 38, 780), (10, 143, 0, 63, 781), (3, 55, 0, 64, 785), (3, 73, 1, 43, 789), (3, 60, 0, 65, 791), (3, 77, 0, 66, 795), (3, 107, 0, 67, 799), (3, 111, 0, 68, 803), (3, 114, 0, 69, 807), (3, 117, 3, 999, 810), (3, 99, 0, 70, 811), (3, 127, 0, 71, 815), (3, 131, 0, 72, 819), (3, 103, 0, 73, 823), (3, 64, 0, 74, 827), (10, 150, 0, 75, 831), (9, 32, 0, 76, 835), (9, 36, 0, 77, 839), (9, 40, 0, 78, 843), (9, 46, 0, 79, 847), (10, 154, 0, 80, 851), (10, 199, 3, 999, 855), (12, 44, 0, 81, 856), (10, 158, 0, 82, 860), (10, 162, 0, 83, 864), (12, 48, 0, 84, 868), (10, 170, 0, 85, 872), (0, 79, 0, 86, 876), (0, 84, 0, 87, 880), (0, 88, 0, 88, 884), (0, 92, 0, 89, 888), (0, 96, 0, 90, 892), (0, 108, 0, 91, 896), (0, 112, 5, 999, 900), (0, 100, 0, 92, 901), (0, 118, 0, 93, 905), (0, 121, 0, 94, 909), (12, 52, 0, 95, 913), (10, 172, 0, 96, 917), (12, 57, 0, 97, 921), (10, 185, 0, 98, 925), (10, 188, 0, 99, 929), (0, 124, 0, 100, 933), (0, 131, 0, 101, 937), (0, 135, 0, 102, 941), (0, 139, 0, 103, 945), (0, 143, 0, 104, 949), (12, 61, 0, 105, 953), (12, 65, 0, 106, 957), (10, 192, 0, 107, 961), (12, 70, 0, 108, 965), (12, 74, 0, 109, 969), (12, 12, 0, 110, 975), (11, 1, 2, 999, 978), (12, 17, 0, 111, 1199), (11, 159, 0, 112, 1203), (12, 22, 0, 113, 1207), (11, 243, 0, 114, 1211), (11, 246, 0, 115, 1215), (11, 166, 0, 116, 1219), (11, 170, 0, 117, 1222), (11, 174, 0, 118, 1225), (11, 177, 0, 119, 1228), (11, 249, 0, 120, 1232), (11, 200, 0, 121, 1236), (11, 187, 0, 122, 1240), (11, 194, 0, 123, 1244), (11, 252, 0, 124, 1248), (11, 223, 0, 125, 1252), (11, 213, 0, 126, 1256), (11, 206, 0, 127, 1260), (11, 216, 0, 128, 1264), (11, 220, 0, 129, 1268), (12, 27, 0, 130, 1272), (12, 31, 0, 131, 1276), (12, 35, 0, 132, 1280), (12, 39, 0, 133, 1284), (11, 284, 0, 134, 1288), (11, 276, 0, 135, 1292), (11, 273, 0, 136, 1296), (11, 263, 0, 137, 1300), (11, 256, 0, 138, 1304), (11, 267, 0, 139, 1308), (11, 270, 0, 140, 1312), (11, 259, 0, 141, 1316), (11, 281, 0, 142, 1320), (12, 43, 0, 143, 1324), (11, 317, 0, 144, 1328), (11, 314, 0, 145, 1332), (11, 308, 0, 146, 1336), (11, 321, 0, 147, 1340), (11, 324, 0, 148, 1344), (11, 302, 0, 149, 1348), (11, 296, 0, 150, 1352), (11, 290, 0, 151, 1356), (11, 287, 0, 152, 1360), (12, 47, 0, 153, 1364), (11, 333, 0, 154, 1368), (11, 336, 0, 155, 1372), (12, 51, 0, 156, 1376), (11, 365, 0, 157, 1380), (11, 359, 0, 158, 1384), (11, 339, 0, 159, 1388), (11, 362, 0, 160, 1392), (11, 349, 0, 161, 1396), (11, 353, 0, 162, 1400), (11, 356, 0, 163, 1404), (11, 343, 0, 164, 1408), (12, 56, 0, 165, 1412), (11, 368, 0, 166, 1416), (12, 60, 0, 167, 1420), (11, 385, 0, 168, 1424), (11, 382, 0, 169, 1428), (11, 377, 0, 170, 1432), (11, 379, 0, 171, 1436), (12, 64, 0, 172, 1440), (11, 388, 0, 167, 1444), (12, 69, 0, 173, 1445), (11, 407, 0, 174, 1449), (11, 400, 0, 175, 1453), (11, 397, 0, 176, 1457), (11, 394, 0, 177, 1461), (12, 73, 0, 178, 1465), (12, 77, 0, 179, 1469)]
/-- classes: class, entry, the class named, its slots, the word's place -/
def tm_cl : List (Nat × Nat × Nat × Nat × Nat) := [(12, 7, 10, 18, 126), (10, 20, 7, 12, 134), (7, 9, 8, 7, 140), (10, 27, 5, 6, 220), (5, 9, 4, 5, 226), (5, 17, 1, 3, 228), (4, 9, 6, 3, 254), (10, 34, 1, 3, 342), (10, 53, 3, 14, 344), (10, 60, 2, 7, 394), (10, 67, 0, 16, 425), (10, 74, 9, 4, 486), (12, 10, 11, 73, 973)]
def tm_chkF (q : Nat × Nat × Nat × Nat × Nat) : Bool := match vwCl[q.2.2.1]? with
  | some (_, T, N) => decide (q.2.2.2.1 < N) && decide (lw_tbl[q.2.2.2.2]? = some (Cond.fieldLink (tm_cn q.1) q.2.1 (T q.2.2.2.1).1 (T q.2.2.2.1).2.1 (T q.2.2.2.1).2.2.1))
  | none => false
set_option maxRecDepth 100000 in
theorem tm_chkF_all : tm_fl.all tm_chkF = true := by decide +kernel
def tm_chkM (q : Nat × Nat × Nat × Nat × Nat) : Bool := if q.2.2.1 = 0 then decide (q.2.2.2.1 < 180) && decide (lw_tbl[q.2.2.2.2]? = some (Cond.methodLink (tm_cn q.1) q.2.1 (mY q.2.2.2.1))) else if q.2.2.1 = 1 then decide (q.2.2.2.1 < 180) && decide (lw_tbl[q.2.2.2.2]? = some (Cond.methodLinkNest (tm_cn q.1) q.2.1 (mY q.2.2.2.1) "TermRules")) else if q.2.2.1 = 2 then decide (lw_tbl[q.2.2.2.2]? = some (Cond.methodLink (tm_cn q.1) q.2.1 Lib.objectInit)) else if q.2.2.1 = 3 then decide (lw_tbl[q.2.2.2.2]? = some (Cond.methodLink (tm_cn q.1) q.2.1 arraycopyName)) else if q.2.2.1 = 4 then decide (lw_tbl[q.2.2.2.2]? = some (Cond.methodLink (tm_cn q.1) q.2.1 Lib.Math.min.name)) else decide (q.2.2.1 = 5) && decide (lw_tbl[q.2.2.2.2]? = some (Cond.methodLink (tm_cn q.1) q.2.1 Lib.Math.max.name))
set_option maxRecDepth 100000 in
theorem tm_chkM_all : tm_ml.all tm_chkM = true := by decide +kernel
def tm_insts : List Nat := [426, 229, 395, 345, 249, 221, 255, 135, 141, 487, 127, 974]
def tm_inis : List Nat := [120, 115, 119, 118, 116, 114, 117, 112, 113, 121, 111, 122, 110, 123, 124]
def tm_chkC (q : Nat × Nat × Nat × Nat × Nat) : Bool := match vwCl[q.2.2.1]? with
  | some (C, _, N) => decide (N = q.2.2.2.1) && decide (C = tm_cn q.2.2.1) && decide (lw_tbl[q.2.2.2.2]? = some (Cond.classLink (tm_cn q.1) q.2.1 C)) && decide (lw_tbl[tm_insts.getD q.2.2.1 0]? = some (Cond.instantiable C N)) && decide (lw_tbl[tm_inis.getD q.2.2.1 0]? = some (Cond.initialized C))
  | none => false
set_option maxRecDepth 100000 in
theorem tm_chkC_all : tm_cl.all tm_chkC = true := by decide +kernel
set_option maxRecDepth 100000 in
theorem tm_minc : Cond.code Lib.Math.min.name Lib.Math.min.code 2 (some .int) ∈ tm_gw := tm_in 591 (by decide +kernel) (by decide +kernel)
theorem tm_mins : Cond.static Lib.Math.min.name ∈ tm_gw := tm_in 590 (by decide +kernel) (by decide +kernel)
set_option maxRecDepth 100000 in
theorem tm_maxc : Cond.code Lib.Math.max.name Lib.Math.max.code 2 (some .int) ∈ tm_gw := tm_in 747 (by decide +kernel) (by decide +kernel)
theorem tm_maxs : Cond.static Lib.Math.max.name ∈ tm_gw := tm_in 746 (by decide +kernel) (by decide +kernel)
theorem tm_mini : Cond.initialized "java/lang/Math" ∈ tm_gw := tm_in 123 (by decide +kernel) (by decide +kernel)
theorem tm_acn : Cond.native arraycopyName ∈ tm_gw := tm_in 762 (by decide +kernel) (by decide +kernel)
theorem tm_acs : Cond.static arraycopyName ∈ tm_gw := tm_in 761 (by decide +kernel) (by decide +kernel)
theorem tm_aci : Cond.initialized "java/lang/System" ∈ tm_gw := tm_in 125 (by decide +kernel) (by decide +kernel)
theorem tm_oic : Cond.code Lib.objectInit ⟨#[0xb1]⟩ 1 none ∈ tm_gw := tm_in 133 (by decide +kernel) (by decide +kernel)
theorem tm_oii : Cond.instanceMethod Lib.objectInit ∈ tm_gw := tm_in 132 (by decide +kernel) (by decide +kernel)
theorem tm_ac_int : Cond.arrayClass .int ∈ tm_gw := tm_in 218 (by decide +kernel) (by decide +kernel)
theorem tm_ac_byte : Cond.arrayClass .byte ∈ tm_gw := tm_in 172 (by decide +kernel) (by decide +kernel)
theorem tm_ac_boolean : Cond.arrayClass .boolean ∈ tm_gw := tm_in 485 (by decide +kernel) (by decide +kernel)
theorem tm_ac_long : Cond.arrayClass .long ∈ tm_gw := tm_in 219 (by decide +kernel) (by decide +kernel)
theorem tm_ao : Cond.arrayOver (.object RX4) ∈ lw_tbl := List.mem_of_getElem? (i := 227) (by decide +kernel)
def tm_ki : List (Nat × Nat × Int32 × Nat) := [(5, 96, -1000000, 672), (3, 59, 81040, 790)]
def tm_kl : List (Nat × Nat × Int64 × Nat) := [(7, 104, 65, 632), (7, 106, 90, 633), (2, 78, -1, 736)]
def tm_lki : List (Nat × Nat × Int32 × Nat) → Nat → Nat → Option Int32
  | [], _, _ => none
  | (a, b, c, _) :: l, o, i => if a = o ∧ b = i then some c else tm_lki l o i
def tm_lkl : List (Nat × Nat × Int64 × Nat) → Nat → Nat → Option Int64
  | [], _, _ => none
  | (a, b, c, _) :: l, o, i => if a = o ∧ b = i then some c else tm_lkl l o i
set_option maxRecDepth 100000 in
theorem tm_ki_all : tm_ki.all (fun q => decide (lw_tbl[q.2.2.2]? = some (Cond.constant (tm_cn q.1) q.2.1 q.2.2.1))) = true := by decide +kernel
set_option maxRecDepth 100000 in
theorem tm_kl_all : tm_kl.all (fun q => decide (lw_tbl[q.2.2.2]? = some (Cond.constantLong (tm_cn q.1) q.2.1 q.2.2.1))) = true := by decide +kernel
set_option maxRecDepth 100000 in
theorem tm_lay0 : ∀ w ∈ u_ws RX0 TX0 16, w ∈ tm_gw := by
  have h : u_ws RX0 TX0 16 = [452, 454, 456, 458, 460, 462, 464, 466, 468, 470, 472, 474, 476, 478, 480, 482].filterMap (fun i => lw_tbl[i]?) := by decide +kernel
  intro w hw
  have g : (u_ws RX0 TX0 16).all goodWord = true := by decide +kernel
  have g1 := List.all_eq_true.mp g w hw
  rw [h] at hw
  obtain ⟨i, -, hi⟩ := List.mem_filterMap.mp hw
  exact tm_in i hi g1
set_option maxRecDepth 100000 in
theorem tm_lay1 : ∀ w ∈ u_ws RX1 TX1 3, w ∈ tm_gw := by
  have h : u_ws RX1 TX1 3 = [242, 244, 246].filterMap (fun i => lw_tbl[i]?) := by decide +kernel
  intro w hw
  have g : (u_ws RX1 TX1 3).all goodWord = true := by decide +kernel
  have g1 := List.all_eq_true.mp g w hw
  rw [h] at hw
  obtain ⟨i, -, hi⟩ := List.mem_filterMap.mp hw
  exact tm_in i hi g1
set_option maxRecDepth 100000 in
theorem tm_lay2 : ∀ w ∈ u_ws RX2 TX2 7, w ∈ tm_gw := by
  have h : u_ws RX2 TX2 7 = [410, 412, 414, 416, 418, 420, 422].filterMap (fun i => lw_tbl[i]?) := by decide +kernel
  intro w hw
  have g : (u_ws RX2 TX2 7).all goodWord = true := by decide +kernel
  have g1 := List.all_eq_true.mp g w hw
  rw [h] at hw
  obtain ⟨i, -, hi⟩ := List.mem_filterMap.mp hw
  exact tm_in i hi g1
set_option maxRecDepth 100000 in
theorem tm_lay3 : ∀ w ∈ u_ws RX3 TX3 14, w ∈ tm_gw := by
  have h : u_ws RX3 TX3 14 = [365, 367, 369, 371, 373, 375, 377, 379, 381, 383, 385, 387, 389, 391].filterMap (fun i => lw_tbl[i]?) := by decide +kernel
  intro w hw
  have g : (u_ws RX3 TX3 14).all goodWord = true := by decide +kernel
  have g1 := List.all_eq_true.mp g w hw
  rw [h] at hw
  obtain ⟨i, -, hi⟩ := List.mem_filterMap.mp hw
  exact tm_in i hi g1
set_option maxRecDepth 100000 in
theorem tm_lay4 : ∀ w ∈ u_ws RX4 TX4 5, w ∈ tm_gw := by
  have h : u_ws RX4 TX4 5 = [299, 301, 303, 305, 307].filterMap (fun i => lw_tbl[i]?) := by decide +kernel
  intro w hw
  have g : (u_ws RX4 TX4 5).all goodWord = true := by decide +kernel
  have g1 := List.all_eq_true.mp g w hw
  rw [h] at hw
  obtain ⟨i, -, hi⟩ := List.mem_filterMap.mp hw
  exact tm_in i hi g1
set_option maxRecDepth 100000 in
theorem tm_lay5 : ∀ w ∈ u_ws RX5 TX5 6, w ∈ tm_gw := by
  have h : u_ws RX5 TX5 6 = [329, 331, 333, 335, 337, 339].filterMap (fun i => lw_tbl[i]?) := by decide +kernel
  intro w hw
  have g : (u_ws RX5 TX5 6).all goodWord = true := by decide +kernel
  have g1 := List.all_eq_true.mp g w hw
  rw [h] at hw
  obtain ⟨i, -, hi⟩ := List.mem_filterMap.mp hw
  exact tm_in i hi g1
set_option maxRecDepth 100000 in
theorem tm_lay6 : ∀ w ∈ u_ws RX6 TX6 3, w ∈ tm_gw := by
  have h : u_ws RX6 TX6 3 = [273, 275, 277].filterMap (fun i => lw_tbl[i]?) := by decide +kernel
  intro w hw
  have g : (u_ws RX6 TX6 3).all goodWord = true := by decide +kernel
  have g1 := List.all_eq_true.mp g w hw
  rw [h] at hw
  obtain ⟨i, -, hi⟩ := List.mem_filterMap.mp hw
  exact tm_in i hi g1
set_option maxRecDepth 100000 in
theorem tm_lay7 : ∀ w ∈ u_ws RX7 TX7 12, w ∈ tm_gw := by
  have h : u_ws RX7 TX7 12 = [193, 195, 197, 199, 201, 203, 205, 207, 209, 211, 213, 215].filterMap (fun i => lw_tbl[i]?) := by decide +kernel
  intro w hw
  have g : (u_ws RX7 TX7 12).all goodWord = true := by decide +kernel
  have g1 := List.all_eq_true.mp g w hw
  rw [h] at hw
  obtain ⟨i, -, hi⟩ := List.mem_filterMap.mp hw
  exact tm_in i hi g1
set_option maxRecDepth 100000 in
theorem tm_lay8 : ∀ w ∈ u_ws RX8 TX8 7, w ∈ tm_gw := by
  have h : u_ws RX8 TX8 7 = [157, 159, 161, 163, 165, 167, 169].filterMap (fun i => lw_tbl[i]?) := by decide +kernel
  intro w hw
  have g : (u_ws RX8 TX8 7).all goodWord = true := by decide +kernel
  have g1 := List.all_eq_true.mp g w hw
  rw [h] at hw
  obtain ⟨i, -, hi⟩ := List.mem_filterMap.mp hw
  exact tm_in i hi g1
set_option maxRecDepth 100000 in
theorem tm_lay9 : ∀ w ∈ u_ws RX9 TX9 4, w ∈ tm_gw := by
  have h : u_ws RX9 TX9 4 = [497, 499, 501, 503].filterMap (fun i => lw_tbl[i]?) := by decide +kernel
  intro w hw
  have g : (u_ws RX9 TX9 4).all goodWord = true := by decide +kernel
  have g1 := List.all_eq_true.mp g w hw
  rw [h] at hw
  obtain ⟨i, -, hi⟩ := List.mem_filterMap.mp hw
  exact tm_in i hi g1
set_option maxRecDepth 100000 in
theorem tm_lay10 : ∀ w ∈ u_ws RX10 TX10 18, w ∈ tm_gw := by
  have h : u_ws RX10 TX10 18 = [524, 526, 528, 530, 532, 534, 536, 538, 540, 542, 544, 546, 548, 550, 552, 554, 556, 558].filterMap (fun i => lw_tbl[i]?) := by decide +kernel
  intro w hw
  have g : (u_ws RX10 TX10 18).all goodWord = true := by decide +kernel
  have g1 := List.all_eq_true.mp g w hw
  rw [h] at hw
  obtain ⟨i, -, hi⟩ := List.mem_filterMap.mp hw
  exact tm_in i hi g1
set_option maxRecDepth 100000 in
theorem tm_lay11 : ∀ w ∈ u_ws RX11 TX11 73, w ∈ tm_gw := by
  have h : u_ws RX11 TX11 73 = [1052, 1054, 1056, 1058, 1060, 1062, 1064, 1066, 1068, 1070, 1072, 1074, 1076, 1078, 1080, 1082, 1084, 1086, 1088, 1090, 1092, 1094, 1096, 1098, 1100, 1102, 1104, 1106, 1108, 1110, 1112, 1114, 1116, 1118, 1120, 1122, 1124, 1126, 1128, 1130, 1132, 1134, 1136, 1138, 1140, 1142, 1144, 1146, 1148, 1150, 1152, 1154, 1156, 1158, 1160, 1162, 1164, 1166, 1168, 1170, 1172, 1174, 1176, 1178, 1180, 1182, 1184, 1186, 1188, 1190, 1192, 1194, 1196].filterMap (fun i => lw_tbl[i]?) := by decide +kernel
  intro w hw
  have g : (u_ws RX11 TX11 73).all goodWord = true := by decide +kernel
  have g1 := List.all_eq_true.mp g w hw
  rw [h] at hw
  obtain ⟨i, -, hi⟩ := List.mem_filterMap.mp hw
  exact tm_in i hi g1
