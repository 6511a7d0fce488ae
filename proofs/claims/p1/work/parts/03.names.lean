/-! names, printed by program -/
def RX0 : String := "OppositePairs$Answers"
def TX0 : u_T := fun k => match k with
  | 0 => ("OppositePairs$Answers", "start", "[I", true)
  | 1 => ("OppositePairs$Answers", "depth", "[I", true)
  | 2 => ("OppositePairs$Answers", "options", "[I", true)
  | 3 => ("OppositePairs$Answers", "found", "[I", true)
  | 4 => ("OppositePairs$Answers", "count", "I", false)
  | _ => ("OppositePairs$Answers", "again", "I", false)
def tyX0 : Nat → FieldType := fun k => match k with
  | 0 => .array .int
  | 1 => .array .int
  | 2 => .array .int
  | 3 => .array .int
  | 4 => .int
  | _ => .int
abbrev wsX00 : List Cond := u_ws RX0 TX0 6
theorem nmX0 : ∀ a, a < 6 → ∀ b, b < 6 → a ≠ b → (TX0 a).2.1 ≠ (TX0 b).2.1 := by decide +kernel
theorem tyX0_ok : ∀ k, k < 6 → parseFieldDescriptor (TX0 k).2.2.1 = some (tyX0 k) := by decide +kernel
def RX1 : String := "OppositePairs$Bonds"
def TX1 : u_T := fun k => match k with
  | 0 => ("OppositePairs$Bonds", "told", "LOppositePairs$Told;", true)
  | 1 => ("OppositePairs$Bonds", "bound", "[I", true)
  | 2 => ("OppositePairs$Bonds", "trail", "[I", true)
  | 3 => ("OppositePairs$Bonds", "trailed", "I", false)
  | 4 => ("OppositePairs$Bonds", "same", "[I", true)
  | 5 => ("OppositePairs$Bonds", "joined", "[I", true)
  | 6 => ("OppositePairs$Bonds", "joins", "I", false)
  | 7 => ("OppositePairs$Bonds", "left", "[I", true)
  | 8 => ("OppositePairs$Bonds", "right", "[I", true)
  | 9 => ("OppositePairs$Bonds", "top", "I", false)
  | 10 => ("OppositePairs$Bonds", "hold", "[I", true)
  | 11 => ("OppositePairs$Bonds", "seen", "[I", true)
  | _ => ("OppositePairs$Bonds", "searches", "I", false)
def tyX1 : Nat → FieldType := fun k => match k with
  | 0 => .object "OppositePairs$Told"
  | 1 => .array .int
  | 2 => .array .int
  | 3 => .int
  | 4 => .array .int
  | 5 => .array .int
  | 6 => .int
  | 7 => .array .int
  | 8 => .array .int
  | 9 => .int
  | 10 => .array .int
  | 11 => .array .int
  | _ => .int
abbrev wsX10 : List Cond := u_ws RX1 TX1 13
theorem nmX1 : ∀ a, a < 13 → ∀ b, b < 13 → a ≠ b → (TX1 a).2.1 ≠ (TX1 b).2.1 := by decide +kernel
theorem tyX1_ok : ∀ k, k < 13 → parseFieldDescriptor (TX1 k).2.2.1 = some (tyX1 k) := by decide +kernel
def RX2 : String := "OppositePairs$Link"
def TX2 : u_T := fun k => match k with
  | 0 => ("OppositePairs$Link", "instance", "I", false)
  | 1 => ("OppositePairs$Link", "literal", "I", false)
  | 2 => ("OppositePairs$Link", "length", "I", false)
  | _ => ("OppositePairs$Link", "before", "LOppositePairs$Link;", false)
def tyX2 : Nat → FieldType := fun k => match k with
  | 0 => .int
  | 1 => .int
  | 2 => .int
  | _ => .object "OppositePairs$Link"
abbrev wsX20 : List Cond := u_ws RX2 TX2 4
theorem nmX2 : ∀ a, a < 4 → ∀ b, b < 4 → a ≠ b → (TX2 a).2.1 ≠ (TX2 b).2.1 := by decide +kernel
theorem tyX2_ok : ∀ k, k < 4 → parseFieldDescriptor (TX2 k).2.2.1 = some (tyX2 k) := by decide +kernel
def RX3 : String := "OppositePairs$Matrix"
def TX3 : u_T := fun k => match k with
  | 0 => ("OppositePairs$Matrix", "told", "LOppositePairs$Told;", true)
  | 1 => ("OppositePairs$Matrix", "bonds", "LOppositePairs$Bonds;", true)
  | 2 => ("OppositePairs$Matrix", "prover", "LOppositePairs$Prover;", true)
  | 3 => ("OppositePairs$Matrix", "kind", "[I", true)
  | 4 => ("OppositePairs$Matrix", "sorted", "Z", false)
  | 5 => ("OppositePairs$Matrix", "order", "[I", true)
  | 6 => ("OppositePairs$Matrix", "height", "I", false)
  | 7 => ("OppositePairs$Matrix", "chosen", "[I", true)
  | 8 => ("OppositePairs$Matrix", "plus", "[I", true)
  | 9 => ("OppositePairs$Matrix", "minus", "[I", true)
  | 10 => ("OppositePairs$Matrix", "walked", "I", false)
  | _ => ("OppositePairs$Matrix", "found", "I", false)
def tyX3 : Nat → FieldType := fun k => match k with
  | 0 => .object "OppositePairs$Told"
  | 1 => .object "OppositePairs$Bonds"
  | 2 => .object "OppositePairs$Prover"
  | 3 => .array .int
  | 4 => .boolean
  | 5 => .array .int
  | 6 => .int
  | 7 => .array .int
  | 8 => .array .int
  | 9 => .array .int
  | 10 => .int
  | _ => .int
abbrev wsX30 : List Cond := u_ws RX3 TX3 12
theorem nmX3 : ∀ a, a < 12 → ∀ b, b < 12 → a ≠ b → (TX3 a).2.1 ≠ (TX3 b).2.1 := by decide +kernel
theorem tyX3_ok : ∀ k, k < 12 → parseFieldDescriptor (TX3 k).2.2.1 = some (tyX3 k) := by decide +kernel
def RX4 : String := "OppositePairs$Prover"
def TX4 : u_T := fun k => match k with
  | 0 => ("OppositePairs$Prover", "told", "LOppositePairs$Told;", true)
  | 1 => ("OppositePairs$Prover", "bonds", "LOppositePairs$Bonds;", true)
  | 2 => ("OppositePairs$Prover", "rows", "[LOppositePairs$Row;", true)
  | 3 => ("OppositePairs$Prover", "rowCount", "I", false)
  | 4 => ("OppositePairs$Prover", "links", "[LOppositePairs$Link;", true)
  | 5 => ("OppositePairs$Prover", "linkCount", "I", false)
  | 6 => ("OppositePairs$Prover", "steps", "[LOppositePairs$Step;", true)
  | 7 => ("OppositePairs$Prover", "stepCount", "I", false)
  | 8 => ("OppositePairs$Prover", "clauseOf", "[I", true)
  | 9 => ("OppositePairs$Prover", "instances", "I", false)
  | 10 => ("OppositePairs$Prover", "depth", "I", false)
  | 11 => ("OppositePairs$Prover", "options", "I", false)
  | 12 => ("OppositePairs$Prover", "tries", "I", false)
  | 13 => ("OppositePairs$Prover", "longest", "I", false)
  | 14 => ("OppositePairs$Prover", "cuts", "I", false)
  | 15 => ("OppositePairs$Prover", "extensions", "I", false)
  | 16 => ("OppositePairs$Prover", "givenUp", "Z", false)
  | _ => ("OppositePairs$Prover", "proved", "Z", false)
def tyX4 : Nat → FieldType := fun k => match k with
  | 0 => .object "OppositePairs$Told"
  | 1 => .object "OppositePairs$Bonds"
  | 2 => .array (.object "OppositePairs$Row")
  | 3 => .int
  | 4 => .array (.object "OppositePairs$Link")
  | 5 => .int
  | 6 => .array (.object "OppositePairs$Step")
  | 7 => .int
  | 8 => .array .int
  | 9 => .int
  | 10 => .int
  | 11 => .int
  | 12 => .int
  | 13 => .int
  | 14 => .int
  | 15 => .int
  | 16 => .boolean
  | _ => .boolean
abbrev wsX40 : List Cond := u_ws RX4 TX4 18
theorem nmX4 : ∀ a, a < 18 → ∀ b, b < 18 → a ≠ b → (TX4 a).2.1 ≠ (TX4 b).2.1 := by decide +kernel
theorem tyX4_ok : ∀ k, k < 18 → parseFieldDescriptor (TX4 k).2.2.1 = some (tyX4 k) := by decide +kernel
def RX5 : String := "OppositePairs$Reader"
def TX5 : u_T := fun k => match k with
  | 0 => ("OppositePairs$Reader", "bytes", "[I", true)
  | 1 => ("OppositePairs$Reader", "length", "I", false)
  | 2 => ("OppositePairs$Reader", "fault", "I", false)
  | 3 => ("OppositePairs$Reader", "place", "I", false)
  | 4 => ("OppositePairs$Reader", "into", "LOppositePairs$Told;", false)
  | 5 => ("OppositePairs$Reader", "known", "[I", true)
  | 6 => ("OppositePairs$Reader", "variables", "I", false)
  | 7 => ("OppositePairs$Reader", "at", "I", false)
  | 8 => ("OppositePairs$Reader", "behind", "I", false)
  | 9 => ("OppositePairs$Reader", "token", "I", false)
  | _ => ("OppositePairs$Reader", "letters", "J", false)
def tyX5 : Nat → FieldType := fun k => match k with
  | 0 => .array .int
  | 1 => .int
  | 2 => .int
  | 3 => .int
  | 4 => .object "OppositePairs$Told"
  | 5 => .array .int
  | 6 => .int
  | 7 => .int
  | 8 => .int
  | 9 => .int
  | _ => .long
abbrev wsX50 : List Cond := u_ws RX5 TX5 11
theorem nmX5 : ∀ a, a < 11 → ∀ b, b < 11 → a ≠ b → (TX5 a).2.1 ≠ (TX5 b).2.1 := by decide +kernel
theorem tyX5_ok : ∀ k, k < 11 → parseFieldDescriptor (TX5 k).2.2.1 = some (tyX5 k) := by decide +kernel
def RX6 : String := "OppositePairs$Row"
def TX6 : u_T := fun k => match k with
  | 0 => ("OppositePairs$Row", "instance", "I", false)
  | 1 => ("OppositePairs$Row", "without", "I", false)
  | 2 => ("OppositePairs$Row", "next", "I", false)
  | 3 => ("OppositePairs$Row", "path", "LOppositePairs$Link;", false)
  | 4 => ("OppositePairs$Row", "lemmas", "LOppositePairs$Link;", false)
  | 5 => ("OppositePairs$Row", "behind", "LOppositePairs$Row;", false)
  | _ => ("OppositePairs$Row", "made", "I", false)
def tyX6 : Nat → FieldType := fun k => match k with
  | 0 => .int
  | 1 => .int
  | 2 => .int
  | 3 => .object "OppositePairs$Link"
  | 4 => .object "OppositePairs$Link"
  | 5 => .object "OppositePairs$Row"
  | _ => .int
abbrev wsX60 : List Cond := u_ws RX6 TX6 7
theorem nmX6 : ∀ a, a < 7 → ∀ b, b < 7 → a ≠ b → (TX6 a).2.1 ≠ (TX6 b).2.1 := by decide +kernel
theorem tyX6_ok : ∀ k, k < 7 → parseFieldDescriptor (TX6 k).2.2.1 = some (tyX6 k) := by decide +kernel
def RX7 : String := "OppositePairs$Step"
def TX7 : u_T := fun k => match k with
  | 0 => ("OppositePairs$Step", "row", "LOppositePairs$Row;", false)
  | 1 => ("OppositePairs$Step", "kind", "I", false)
  | 2 => ("OppositePairs$Step", "byInstance", "I", false)
  | 3 => ("OppositePairs$Step", "byLiteral", "I", false)
  | 4 => ("OppositePairs$Step", "lemmaTried", "Z", false)
  | 5 => ("OppositePairs$Step", "link", "LOppositePairs$Link;", false)
  | 6 => ("OppositePairs$Step", "candidate", "I", false)
  | 7 => ("OppositePairs$Step", "fixed", "Z", false)
  | 8 => ("OppositePairs$Step", "trailMark", "I", false)
  | 9 => ("OppositePairs$Step", "instanceMark", "I", false)
  | 10 => ("OppositePairs$Step", "rowMark", "I", false)
  | _ => ("OppositePairs$Step", "linkMark", "I", false)
def tyX7 : Nat → FieldType := fun k => match k with
  | 0 => .object "OppositePairs$Row"
  | 1 => .int
  | 2 => .int
  | 3 => .int
  | 4 => .boolean
  | 5 => .object "OppositePairs$Link"
  | 6 => .int
  | 7 => .boolean
  | 8 => .int
  | 9 => .int
  | 10 => .int
  | _ => .int
abbrev wsX70 : List Cond := u_ws RX7 TX7 12
theorem nmX7 : ∀ a, a < 12 → ∀ b, b < 12 → a ≠ b → (TX7 a).2.1 ≠ (TX7 b).2.1 := by decide +kernel
theorem tyX7_ok : ∀ k, k < 12 → parseFieldDescriptor (TX7 k).2.2.1 = some (tyX7 k) := by decide +kernel
def RX8 : String := "OppositePairs$Told"
def TX8 : u_T := fun k => match k with
  | 0 => ("OppositePairs$Told", "name", "[J", true)
  | 1 => ("OppositePairs$Told", "variable", "[I", true)
  | 2 => ("OppositePairs$Told", "terms", "[I", true)
  | 3 => ("OppositePairs$Told", "term", "[I", true)
  | 4 => ("OppositePairs$Told", "parts", "I", false)
  | 5 => ("OppositePairs$Told", "literals", "[I", true)
  | 6 => ("OppositePairs$Told", "variables", "[I", true)
  | 7 => ("OppositePairs$Told", "plus", "[I", true)
  | 8 => ("OppositePairs$Told", "first", "[I", true)
  | _ => ("OppositePairs$Told", "clauses", "I", false)
def tyX8 : Nat → FieldType := fun k => match k with
  | 0 => .array .long
  | 1 => .array .int
  | 2 => .array .int
  | 3 => .array .int
  | 4 => .int
  | 5 => .array .int
  | 6 => .array .int
  | 7 => .array .int
  | 8 => .array .int
  | _ => .int
abbrev wsX80 : List Cond := u_ws RX8 TX8 10
theorem nmX8 : ∀ a, a < 10 → ∀ b, b < 10 → a ≠ b → (TX8 a).2.1 ≠ (TX8 b).2.1 := by decide +kernel
theorem tyX8_ok : ∀ k, k < 10 → parseFieldDescriptor (TX8 k).2.2.1 = some (tyX8 k) := by decide +kernel
def RX9 : String := "OppositePairs$Writer"
def TX9 : u_T := fun k => match k with
  | 0 => ("OppositePairs$Writer", "told", "LOppositePairs$Told;", true)
  | 1 => ("OppositePairs$Writer", "bonds", "LOppositePairs$Bonds;", true)
  | 2 => ("OppositePairs$Writer", "bytes", "[I", true)
  | 3 => ("OppositePairs$Writer", "length", "I", false)
  | 4 => ("OppositePairs$Writer", "draft", "[I", true)
  | 5 => ("OppositePairs$Writer", "drafted", "I", false)
  | 6 => ("OppositePairs$Writer", "hold", "[I", true)
  | _ => ("OppositePairs$Writer", "held", "I", false)
def tyX9 : Nat → FieldType := fun k => match k with
  | 0 => .object "OppositePairs$Told"
  | 1 => .object "OppositePairs$Bonds"
  | 2 => .array .int
  | 3 => .int
  | 4 => .array .int
  | 5 => .int
  | 6 => .array .int
  | _ => .int
abbrev wsX90 : List Cond := u_ws RX9 TX9 8
theorem nmX9 : ∀ a, a < 8 → ∀ b, b < 8 → a ≠ b → (TX9 a).2.1 ≠ (TX9 b).2.1 := by decide +kernel
theorem tyX9_ok : ∀ k, k < 8 → parseFieldDescriptor (TX9 k).2.2.1 = some (tyX9 k) := by decide +kernel
def RX10 : String := "OppositePairs"
def TX10 : u_T := fun k => match k with
  | 0 => ("OppositePairs", "reader", "LOppositePairs$Reader;", true)
  | 1 => ("OppositePairs", "told", "LOppositePairs$Told;", true)
  | 2 => ("OppositePairs", "draft", "LOppositePairs$Told;", true)
  | 3 => ("OppositePairs", "bonds", "LOppositePairs$Bonds;", true)
  | 4 => ("OppositePairs", "writer", "LOppositePairs$Writer;", true)
  | 5 => ("OppositePairs", "prover", "LOppositePairs$Prover;", true)
  | 6 => ("OppositePairs", "matrix", "LOppositePairs$Matrix;", true)
  | _ => ("OppositePairs", "answers", "LOppositePairs$Answers;", true)
def tyX10 : Nat → FieldType := fun k => match k with
  | 0 => .object "OppositePairs$Reader"
  | 1 => .object "OppositePairs$Told"
  | 2 => .object "OppositePairs$Told"
  | 3 => .object "OppositePairs$Bonds"
  | 4 => .object "OppositePairs$Writer"
  | 5 => .object "OppositePairs$Prover"
  | 6 => .object "OppositePairs$Matrix"
  | _ => .object "OppositePairs$Answers"
abbrev wsX100 : List Cond := u_ws RX10 TX10 8
theorem nmX10 : ∀ a, a < 8 → ∀ b, b < 8 → a ≠ b → (TX10 a).2.1 ≠ (TX10 b).2.1 := by decide +kernel
theorem tyX10_ok : ∀ k, k < 8 → parseFieldDescriptor (TX10 k).2.2.1 = some (tyX10 k) := by decide +kernel
def RX11 : String := "OppositePairsModel"
def TX11 : u_T := fun k => match k with
  | 0 => ("OppositePairsModel", "told", "I", false)
  | 1 => ("OppositePairsModel", "nodeVariable", "[I", true)
  | 2 => ("OppositePairsModel", "nodeName", "[J", true)
  | 3 => ("OppositePairsModel", "nodeA", "[I", true)
  | 4 => ("OppositePairsModel", "nodeB", "[I", true)
  | 5 => ("OppositePairsModel", "nodeC", "[I", true)
  | 6 => ("OppositePairsModel", "nodes", "I", false)
  | 7 => ("OppositePairsModel", "clauses", "I", false)
  | 8 => ("OppositePairsModel", "many", "[I", true)
  | 9 => ("OppositePairsModel", "variables", "[I", true)
  | 10 => ("OppositePairsModel", "letter", "[I", true)
  | 11 => ("OppositePairsModel", "isNot", "[Z", true)
  | 12 => ("OppositePairsModel", "term", "[I", true)
  | 13 => ("OppositePairsModel", "tape", "[B", true)
  | 14 => ("OppositePairsModel", "taped", "I", false)
  | 15 => ("OppositePairsModel", "at", "I", false)
  | 16 => ("OppositePairsModel", "place", "I", false)
  | 17 => ("OppositePairsModel", "kind", "I", false)
  | 18 => ("OppositePairsModel", "sign", "I", false)
  | 19 => ("OppositePairsModel", "name", "J", false)
  | 20 => ("OppositePairsModel", "isFaulty", "Z", false)
  | 21 => ("OppositePairsModel", "fault", "I", false)
  | 22 => ("OppositePairsModel", "faultPlace", "I", false)
  | 23 => ("OppositePairsModel", "opened", "I", false)
  | 24 => ("OppositePairsModel", "reading", "I", false)
  | 25 => ("OppositePairsModel", "moved", "[I", true)
  | 26 => ("OppositePairsModel", "nodesThere", "I", false)
  | 27 => ("OppositePairsModel", "boundTo", "[I", true)
  | 28 => ("OppositePairsModel", "boundIn", "[I", true)
  | 29 => ("OppositePairsModel", "trail", "[I", true)
  | 30 => ("OppositePairsModel", "trailed", "I", false)
  | 31 => ("OppositePairsModel", "goneTo", "I", false)
  | 32 => ("OppositePairsModel", "goneIn", "I", false)
  | 33 => ("OppositePairsModel", "counted", "I", false)
  | 34 => ("OppositePairsModel", "options", "I", false)
  | 35 => ("OppositePairsModel", "depth", "I", false)
  | 36 => ("OppositePairsModel", "instances", "I", false)
  | 37 => ("OppositePairsModel", "clauseOf", "[I", true)
  | 38 => ("OppositePairsModel", "chainIn", "[I", true)
  | 39 => ("OppositePairsModel", "chainLiteral", "[I", true)
  | 40 => ("OppositePairsModel", "chainAhead", "[I", true)
  | 41 => ("OppositePairsModel", "chainLong", "[I", true)
  | 42 => ("OppositePairsModel", "chains", "I", false)
  | 43 => ("OppositePairsModel", "frameIn", "[I", true)
  | 44 => ("OppositePairsModel", "frameLeft", "[I", true)
  | 45 => ("OppositePairsModel", "framePath", "[I", true)
  | 46 => ("OppositePairsModel", "frameLemmas", "[I", true)
  | 47 => ("OppositePairsModel", "frameNext", "[I", true)
  | 48 => ("OppositePairsModel", "isCome", "[Z", true)
  | 49 => ("OppositePairsModel", "frames", "I", false)
  | 50 => ("OppositePairsModel", "isOver", "Z", false)
  | 51 => ("OppositePairsModel", "tries", "I", false)
  | 52 => ("OppositePairsModel", "mostPath", "I", false)
  | 53 => ("OppositePairsModel", "cuts", "I", false)
  | 54 => ("OppositePairsModel", "extended", "I", false)
  | 55 => ("OppositePairsModel", "steps", "[I", true)
  | 56 => ("OppositePairsModel", "stepMany", "I", false)
  | 57 => ("OppositePairsModel", "reducedFrom", "I", false)
  | 58 => ("OppositePairsModel", "isProof", "Z", false)
  | 59 => ("OppositePairsModel", "answer", "[I", true)
  | 60 => ("OppositePairsModel", "answers", "I", false)
  | 61 => ("OppositePairsModel", "asked", "I", false)
  | 62 => ("OppositePairsModel", "out", "[I", true)
  | 63 => ("OppositePairsModel", "outs", "I", false)
  | 64 => ("OppositePairsModel", "written", "[I", true)
  | 65 => ("OppositePairsModel", "writes", "I", false)
  | 66 => ("OppositePairsModel", "room", "I", false)
  | 67 => ("OppositePairsModel", "isLong", "[Z", true)
  | 68 => ("OppositePairsModel", "areClosed", "[Z", true)
  | 69 => ("OppositePairsModel", "way", "[I", true)
  | _ => ("OppositePairsModel", "looks", "I", false)
def tyX11 : Nat → FieldType := fun k => match k with
  | 0 => .int
  | 1 => .array .int
  | 2 => .array .long
  | 3 => .array .int
  | 4 => .array .int
  | 5 => .array .int
  | 6 => .int
  | 7 => .int
  | 8 => .array .int
  | 9 => .array .int
  | 10 => .array .int
  | 11 => .array .boolean
  | 12 => .array .int
  | 13 => .array .byte
  | 14 => .int
  | 15 => .int
  | 16 => .int
  | 17 => .int
  | 18 => .int
  | 19 => .long
  | 20 => .boolean
  | 21 => .int
  | 22 => .int
  | 23 => .int
  | 24 => .int
  | 25 => .array .int
  | 26 => .int
  | 27 => .array .int
  | 28 => .array .int
  | 29 => .array .int
  | 30 => .int
  | 31 => .int
  | 32 => .int
  | 33 => .int
  | 34 => .int
  | 35 => .int
  | 36 => .int
  | 37 => .array .int
  | 38 => .array .int
  | 39 => .array .int
  | 40 => .array .int
  | 41 => .array .int
  | 42 => .int
  | 43 => .array .int
  | 44 => .array .int
  | 45 => .array .int
  | 46 => .array .int
  | 47 => .array .int
  | 48 => .array .boolean
  | 49 => .int
  | 50 => .boolean
  | 51 => .int
  | 52 => .int
  | 53 => .int
  | 54 => .int
  | 55 => .array .int
  | 56 => .int
  | 57 => .int
  | 58 => .boolean
  | 59 => .array .int
  | 60 => .int
  | 61 => .int
  | 62 => .array .int
  | 63 => .int
  | 64 => .array .int
  | 65 => .int
  | 66 => .int
  | 67 => .array .boolean
  | 68 => .array .boolean
  | 69 => .array .int
  | _ => .int
abbrev wsX110 : List Cond := u_ws RX11 TX11 71
theorem nmX11 : ∀ a, a < 71 → ∀ b, b < 71 → a ≠ b → (TX11 a).2.1 ≠ (TX11 b).2.1 := by decide +kernel
theorem tyX11_ok : ∀ k, k < 71 → parseFieldDescriptor (TX11 k).2.2.1 = some (tyX11 k) := by decide +kernel
abbrev cX0_init : ByteArray := prog_2_method_1_code
def yX0_init : MethodName := ⟨RX0, "<init>", "()V"⟩
abbrev cX1_init : ByteArray := prog_3_method_1_code
def yX1_init : MethodName := ⟨RX1, "<init>", "(LOppositePairs$Told;)V"⟩
abbrev cX3_init : ByteArray := prog_5_method_1_code
def yX3_init : MethodName := ⟨RX3, "<init>", "(LOppositePairs$Told;LOppositePairs$Bonds;LOppositePairs$Prover;)V"⟩
abbrev cX3_forget : ByteArray := prog_5_method_2_code
def yX3_forget : MethodName := ⟨RX3, "forget", "()V"⟩
abbrev cX4_init : ByteArray := prog_6_method_1_code
def yX4_init : MethodName := ⟨RX4, "<init>", "(LOppositePairs$Told;LOppositePairs$Bonds;)V"⟩
abbrev cX4_forgetCounts : ByteArray := prog_6_method_2_code
def yX4_forgetCounts : MethodName := ⟨RX4, "forgetCounts", "()V"⟩
abbrev cX4_countSteps : ByteArray := prog_6_method_25_code
def yX4_countSteps : MethodName := ⟨RX4, "countSteps", "(I)I"⟩
abbrev cX5_init : ByteArray := prog_7_method_1_code
def yX5_init : MethodName := ⟨RX5, "<init>", "()V"⟩
abbrev cX5_take : ByteArray := prog_7_method_2_code
def yX5_take : MethodName := ⟨RX5, "take", "(I)V"⟩
abbrev cX5_read : ByteArray := prog_7_method_3_code
def yX5_read : MethodName := ⟨RX5, "read", "(LOppositePairs$Told;)V"⟩
abbrev cX5_nextToken : ByteArray := prog_7_method_10_code
def yX5_nextToken : MethodName := ⟨RX5, "nextToken", "()V"⟩
abbrev cX8_init : ByteArray := prog_10_method_1_code
def yX8_init : MethodName := ⟨RX8, "<init>", "()V"⟩
abbrev cX8_clear : ByteArray := prog_10_method_2_code
def yX8_clear : MethodName := ⟨RX8, "clear", "()V"⟩
abbrev cX8_isClause : ByteArray := prog_10_method_4_code
def yX8_isClause : MethodName := ⟨RX8, "isClause", "(I)Z"⟩
abbrev cX8_isLiteral : ByteArray := prog_10_method_5_code
def yX8_isLiteral : MethodName := ⟨RX8, "isLiteral", "(II)Z"⟩
abbrev cX8_all : ByteArray := prog_10_method_8_code
def yX8_all : MethodName := ⟨RX8, "all", "()I"⟩
abbrev cX8_countLiterals : ByteArray := prog_10_method_12_code
def yX8_countLiterals : MethodName := ⟨RX8, "countLiterals", "()I"⟩
abbrev cX8_countNames : ByteArray := prog_10_method_13_code
def yX8_countNames : MethodName := ⟨RX8, "countNames", "()I"⟩
abbrev cX9_init : ByteArray := prog_11_method_1_code
def yX9_init : MethodName := ⟨RX9, "<init>", "(LOppositePairs$Told;LOppositePairs$Bonds;)V"⟩
abbrev cX10_init : ByteArray := prog_1_method_1_code
def yX10_init : MethodName := ⟨RX10, "<init>", "()V"⟩
abbrev cX10_feed : ByteArray := prog_1_method_2_code
def yX10_feed : MethodName := ⟨RX10, "feed", "(IIIII)I"⟩
abbrev cX10_end : ByteArray := prog_1_method_3_code
def yX10_end : MethodName := ⟨RX10, "end", "(I)Z"⟩
abbrev cX10_clauses : ByteArray := prog_1_method_4_code
def yX10_clauses : MethodName := ⟨RX10, "clauses", "()I"⟩
abbrev cX10_fault : ByteArray := prog_1_method_5_code
def yX10_fault : MethodName := ⟨RX10, "fault", "(I)I"⟩
abbrev cX10_drop : ByteArray := prog_1_method_6_code
def yX10_drop : MethodName := ⟨RX10, "drop", "(I)Z"⟩
abbrev cX10_clause : ByteArray := prog_1_method_7_code
def yX10_clause : MethodName := ⟨RX10, "clause", "(II)I"⟩
abbrev cX10_show : ByteArray := prog_1_method_8_code
def yX10_show : MethodName := ⟨RX10, "show", "(II)I"⟩
abbrev cX10_out : ByteArray := prog_1_method_9_code
def yX10_out : MethodName := ⟨RX10, "out", "(I)I"⟩
abbrev cX10_meets : ByteArray := prog_1_method_10_code
def yX10_meets : MethodName := ⟨RX10, "meets", "(IIII)I"⟩
abbrev cX10_partners : ByteArray := prog_1_method_11_code
def yX10_partners : MethodName := ⟨RX10, "partners", "(II)I"⟩
abbrev cX10_pure : ByteArray := prog_1_method_12_code
def yX10_pure : MethodName := ⟨RX10, "pure", "()I"⟩
abbrev cX10_solve : ByteArray := prog_1_method_13_code
def yX10_solve : MethodName := ⟨RX10, "solve", "(III)I"⟩
abbrev cX10_deepen : ByteArray := prog_1_method_14_code
def yX10_deepen : MethodName := ⟨RX10, "deepen", "(III)I"⟩
abbrev cX10_any : ByteArray := prog_1_method_15_code
def yX10_any : MethodName := ⟨RX10, "any", "(II)I"⟩
abbrev cX10_tried : ByteArray := prog_1_method_16_code
def yX10_tried : MethodName := ⟨RX10, "tried", "(I)I"⟩
abbrev cX10_step : ByteArray := prog_1_method_17_code
def yX10_step : MethodName := ⟨RX10, "step", "(II)I"⟩
abbrev cX10_instance : ByteArray := prog_1_method_18_code
def yX10_instance : MethodName := ⟨RX10, "instance", "(I)I"⟩
abbrev cX10_shown : ByteArray := prog_1_method_19_code
def yX10_shown : MethodName := ⟨RX10, "shown", "(II)I"⟩
abbrev cX10_closed : ByteArray := prog_1_method_20_code
def yX10_closed : MethodName := ⟨RX10, "closed", "(I)I"⟩
abbrev cX10_open : ByteArray := prog_1_method_21_code
def yX10_open : MethodName := ⟨RX10, "open", "(II)I"⟩
abbrev cX10_needed : ByteArray := prog_1_method_22_code
def yX10_needed : MethodName := ⟨RX10, "needed", "()I"⟩
abbrev cX10_answer : ByteArray := prog_1_method_23_code
def yX10_answer : MethodName := ⟨RX10, "answer", "(II)I"⟩
abbrev cX10_look : ByteArray := prog_1_method_24_code
def yX10_look : MethodName := ⟨RX10, "look", "(I)I"⟩
abbrev cX10_forgetAll : ByteArray := prog_1_method_25_code
def yX10_forgetAll : MethodName := ⟨RX10, "forgetAll", "()V"⟩
abbrev cX10_begin : ByteArray := prog_1_method_26_code
def yX10_begin : MethodName := ⟨RX10, "begin", "()V"⟩
abbrev cX10_isInstance : ByteArray := prog_1_method_27_code
def yX10_isInstance : MethodName := ⟨RX10, "isInstance", "(I)Z"⟩
abbrev cX10_canBe : ByteArray := prog_1_method_33_code
def yX10_canBe : MethodName := ⟨RX10, "canBe", "(II)Z"⟩
abbrev cX11_isIn : ByteArray := prog_13_method_2_code
def yX11_isIn : MethodName := ⟨RX11, "isIn", "(JJJ)Z"⟩
abbrev cX11_see : ByteArray := prog_13_method_9_code
def yX11_see : MethodName := ⟨RX11, "see", "(I)I"⟩
abbrev cX11_step : ByteArray := prog_13_method_13_code
def yX11_step : MethodName := ⟨RX11, "step", "()V"⟩
abbrev cX11_movesNodes : ByteArray := prog_13_method_24_code
def yX11_movesNodes : MethodName := ⟨RX11, "movesNodes", "(I)V"⟩
abbrev cX11_clauses : ByteArray := prog_13_method_25_code
def yX11_clauses : MethodName := ⟨RX11, "clauses", "()I"⟩
abbrev cX11_fault : ByteArray := prog_13_method_26_code
def yX11_fault : MethodName := ⟨RX11, "fault", "(I)I"⟩
abbrev cX11_feed : ByteArray := prog_13_method_27_code
def yX11_feed : MethodName := ⟨RX11, "feed", "(IIIII)I"⟩
abbrev cX11_end : ByteArray := prog_13_method_28_code
def yX11_end : MethodName := ⟨RX11, "end", "(I)Z"⟩
abbrev cX11_isClause : ByteArray := prog_13_method_29_code
def yX11_isClause : MethodName := ⟨RX11, "isClause", "(I)Z"⟩
abbrev cX11_isLiteral : ByteArray := prog_13_method_30_code
def yX11_isLiteral : MethodName := ⟨RX11, "isLiteral", "(II)Z"⟩
abbrev cX11_drop : ByteArray := prog_13_method_31_code
def yX11_drop : MethodName := ⟨RX11, "drop", "(I)Z"⟩
abbrev cX11_clause : ByteArray := prog_13_method_34_code
def yX11_clause : MethodName := ⟨RX11, "clause", "(II)I"⟩
abbrev cX11_init : ByteArray := prog_13_method_35_code
def yX11_init : MethodName := ⟨RX11, "<init>", "()V"⟩
abbrev cX11_clearsBindings : ByteArray := prog_13_method_36_code
def yX11_clearsBindings : MethodName := ⟨RX11, "clearsBindings", "()V"⟩
abbrev cX11_meets : ByteArray := prog_13_method_48_code
def yX11_meets : MethodName := ⟨RX11, "meets", "(IIII)I"⟩
abbrev cX11_partners : ByteArray := prog_13_method_50_code
def yX11_partners : MethodName := ⟨RX11, "partners", "(II)I"⟩
abbrev cX11_pure : ByteArray := prog_13_method_52_code
def yX11_pure : MethodName := ⟨RX11, "pure", "()I"⟩
abbrev cX11_begins : ByteArray := prog_13_method_70_code
def yX11_begins : MethodName := ⟨RX11, "begins", "()V"⟩
abbrev cX11_forgets : ByteArray := prog_13_method_71_code
def yX11_forgets : MethodName := ⟨RX11, "forgets", "()V"⟩
abbrev cX11_canAsk : ByteArray := prog_13_method_74_code
def yX11_canAsk : MethodName := ⟨RX11, "canAsk", "(II)Z"⟩
abbrev cX11_solve : ByteArray := prog_13_method_75_code
def yX11_solve : MethodName := ⟨RX11, "solve", "(III)I"⟩
abbrev cX11_deepen : ByteArray := prog_13_method_76_code
def yX11_deepen : MethodName := ⟨RX11, "deepen", "(III)I"⟩
abbrev cX11_any : ByteArray := prog_13_method_77_code
def yX11_any : MethodName := ⟨RX11, "any", "(II)I"⟩
abbrev cX11_tried : ByteArray := prog_13_method_78_code
def yX11_tried : MethodName := ⟨RX11, "tried", "(I)I"⟩
abbrev cX11_step_ : ByteArray := prog_13_method_79_code
def yX11_step_ : MethodName := ⟨RX11, "step", "(II)I"⟩
abbrev cX11_isInstance : ByteArray := prog_13_method_80_code
def yX11_isInstance : MethodName := ⟨RX11, "isInstance", "(I)Z"⟩
abbrev cX11_instance : ByteArray := prog_13_method_81_code
def yX11_instance : MethodName := ⟨RX11, "instance", "(I)I"⟩
abbrev cX11_show : ByteArray := prog_13_method_87_code
def yX11_show : MethodName := ⟨RX11, "show", "(II)I"⟩
abbrev cX11_out : ByteArray := prog_13_method_88_code
def yX11_out : MethodName := ⟨RX11, "out", "(I)I"⟩
abbrev cX11_shown : ByteArray := prog_13_method_89_code
def yX11_shown : MethodName := ⟨RX11, "shown", "(II)I"⟩
abbrev cX11_closed : ByteArray := prog_13_method_95_code
def yX11_closed : MethodName := ⟨RX11, "closed", "(I)I"⟩
abbrev cX11_open : ByteArray := prog_13_method_96_code
def yX11_open : MethodName := ⟨RX11, "open", "(II)I"⟩
abbrev cX11_needed : ByteArray := prog_13_method_97_code
def yX11_needed : MethodName := ⟨RX11, "needed", "()I"⟩
abbrev cX11_answer : ByteArray := prog_13_method_98_code
def yX11_answer : MethodName := ⟨RX11, "answer", "(II)I"⟩
abbrev cX11_literals : ByteArray := prog_13_method_99_code
def yX11_literals : MethodName := ⟨RX11, "literals", "()I"⟩
abbrev cX11_unlike : ByteArray := prog_13_method_101_code
def yX11_unlike : MethodName := ⟨RX11, "unlike", "()I"⟩
abbrev cX11_stepsOf : ByteArray := prog_13_method_102_code
def yX11_stepsOf : MethodName := ⟨RX11, "stepsOf", "(I)I"⟩
abbrev cX11_look : ByteArray := prog_13_method_103_code
def yX11_look : MethodName := ⟨RX11, "look", "(I)I"⟩
abbrev cls : List vw_C := [(RX0, TX0, 6), (RX1, TX1, 13), (RX3, TX3, 12), (RX4, TX4, 18), (RX5, TX5, 11), (RX8, TX8, 10), (RX9, TX9, 8), (RX10, TX10, 8), (RX11, TX11, 71)]
theorem mem_r {ws : List Cond} (ps : List Nat) (hp : ws = ps.filterMap (fun i => tables_1[i]?)) : ∀ w ∈ ws, w ∈ tables_1 := fun w h => by
  rw [hp] at h
  obtain ⟨i, -, hi⟩ := List.mem_filterMap.mp h
  exact List.mem_of_getElem? hi
set_option maxRecDepth 20000 in
theorem iwX0 : ∀ w ∈ wsX00, w ∈ WALL := iw_of (mem_r [348, 350, 352, 354, 356, 358] (by decide +kernel)) (by decide +kernel)
set_option maxRecDepth 20000 in
theorem dfX0 : ∀ j, j < 6 → defaultValue (tyX0 j) = vp_V [.null, .null, .null, .null, .int 0, .int 0] j := by decide +kernel
set_option maxRecDepth 20000 in
theorem iwX1 : ∀ w ∈ wsX10, w ∈ WALL := iw_of (mem_r [149, 151, 153, 155, 157, 159, 161, 163, 165, 167, 169, 171, 173] (by decide +kernel)) (by decide +kernel)
set_option maxRecDepth 20000 in
theorem dfX1 : ∀ j, j < 13 → defaultValue (tyX1 j) = vp_V [.null, .null, .null, .int 0, .null, .null, .int 0, .null, .null, .int 0, .null, .null, .int 0] j := by decide +kernel
set_option maxRecDepth 20000 in
theorem iwX3 : ∀ w ∈ wsX30, w ∈ WALL := iw_of (mem_r [305, 307, 309, 311, 313, 315, 317, 319, 321, 323, 325, 327] (by decide +kernel)) (by decide +kernel)
set_option maxRecDepth 20000 in
theorem dfX3 : ∀ j, j < 12 → defaultValue (tyX3 j) = vp_V [.null, .null, .null, .null, .int 0, .null, .int 0, .null, .null, .null, .int 0, .int 0] j := by decide +kernel
set_option maxRecDepth 20000 in
theorem iwX4 : ∀ w ∈ wsX40, w ∈ WALL := iw_of (mem_r [249, 251, 253, 255, 257, 259, 261, 263, 265, 267, 269, 271, 273, 275, 277, 279, 281, 283] (by decide +kernel)) (by decide +kernel)
set_option maxRecDepth 20000 in
theorem dfX4 : ∀ j, j < 18 → defaultValue (tyX4 j) = vp_V [.null, .null, .null, .int 0, .null, .int 0, .null, .int 0, .null, .int 0, .int 0, .int 0, .int 0, .int 0, .int 0, .int 0, .int 0, .int 0] j := by decide +kernel
set_option maxRecDepth 20000 in
theorem iwX5 : ∀ w ∈ wsX50, w ∈ WALL := iw_of (mem_r [44, 46, 48, 50, 52, 54, 56, 58, 60, 62, 64] (by decide +kernel)) (by decide +kernel)
set_option maxRecDepth 20000 in
theorem dfX5 : ∀ j, j < 11 → defaultValue (tyX5 j) = vp_V [.null, .int 0, .int 0, .int 0, .null, .null, .int 0, .int 0, .int 0, .int 0, .long 0] j := by decide +kernel
set_option maxRecDepth 20000 in
theorem iwX8 : ∀ w ∈ wsX80, w ∈ WALL := iw_of (mem_r [106, 108, 110, 112, 114, 116, 118, 120, 122, 124] (by decide +kernel)) (by decide +kernel)
set_option maxRecDepth 20000 in
theorem dfX8 : ∀ j, j < 10 → defaultValue (tyX8 j) = vp_V [.null, .null, .null, .null, .int 0, .null, .null, .null, .null, .int 0] j := by decide +kernel
set_option maxRecDepth 20000 in
theorem iwX9 : ∀ w ∈ wsX90, w ∈ WALL := iw_of (mem_r [192, 194, 196, 198, 200, 202, 204, 206] (by decide +kernel)) (by decide +kernel)
set_option maxRecDepth 20000 in
theorem dfX9 : ∀ j, j < 8 → defaultValue (tyX9 j) = vp_V [.null, .null, .null, .int 0, .null, .int 0, .null, .int 0] j := by decide +kernel
set_option maxRecDepth 20000 in
theorem iwX10 : ∀ w ∈ wsX100, w ∈ WALL := iw_of (mem_r [369, 371, 373, 375, 377, 379, 381, 383] (by decide +kernel)) (by decide +kernel)
set_option maxRecDepth 20000 in
theorem dfX10 : ∀ j, j < 8 → defaultValue (tyX10 j) = vp_V [.null, .null, .null, .null, .null, .null, .null, .null] j := by decide +kernel
set_option maxRecDepth 20000 in
theorem iwX11 : ∀ w ∈ wsX110, w ∈ WALL := iw_of (mem_r [1169, 1171, 1173, 1175, 1177, 1179, 1181, 1183, 1185, 1187, 1189, 1191, 1193, 1195, 1197, 1199, 1201, 1203, 1205, 1207, 1209, 1211, 1213, 1215, 1217, 1219, 1221, 1223, 1225, 1227, 1229, 1231, 1233, 1235, 1237, 1239, 1241, 1243, 1245, 1247, 1249, 1251, 1253, 1255, 1257, 1259, 1261, 1263, 1265, 1267, 1269, 1271, 1273, 1275, 1277, 1279, 1281, 1283, 1285, 1287, 1289, 1291, 1293, 1295, 1297, 1299, 1301, 1303, 1305, 1307, 1309] (by decide +kernel)) (by decide +kernel)
set_option maxRecDepth 20000 in
theorem dfX11 : ∀ j, j < 71 → defaultValue (tyX11 j) = vp_V (.int 0 :: .null :: .null :: .null :: .null :: .null :: .int 0 :: .int 0 :: .null :: .null :: .null :: .null :: .null :: .null :: .int 0 :: .int 0 :: .int 0 :: .int 0 :: .int 0 :: .long 0 :: .int 0 :: .int 0 :: .int 0 :: .int 0 :: .int 0 :: .null :: .int 0 :: .null :: .null :: .null :: .int 0 :: .int 0 :: .int 0 :: .int 0 :: .int 0 :: .int 0 :: .int 0 :: .null :: .null :: .null :: .null :: .null :: .int 0 :: [.null, .null, .null, .null, .null, .null, .int 0, .int 0, .int 0, .int 0, .int 0, .int 0, .null, .int 0, .int 0, .int 0, .null, .int 0, .int 0, .null, .int 0, .null, .int 0, .int 0, .null, .null, .null, .int 0]) j := by decide +kernel
theorem P_nil {D : va_G} {H : Heap} : va_P D cls [] H := fun k q h => by simp at h
theorem D_nil {A : Nat → Prop} : va_D A [] := ⟨fun i j p q h => by simp at h, fun k q h => by simp at h⟩
/-! the answers on a fresh object -/
def an_end (n : Int32) : Int32 := if n.toInt = 0 then 1 else 0
def an_fault (w : Int32) : Int32 := if w.toInt = 0 then 0 else -1
def an_any (d o : Int32) : Int32 := if 0 ≤ d.toInt ∧ d.toInt ≤ 20 ∧ 0 ≤ o.toInt ∧ o.toInt ≤ 7 then -1 else -3
def an_tried (w : Int32) : Int32 := if 0 ≤ w.toInt ∧ w.toInt ≤ 3 then 0 else -1
def an_answer (k : Int32) : Int32 := if k.toInt = -1 then 0 else -1
def an_look (w : Int32) : Int32 := if 0 ≤ w.toInt ∧ w.toInt ≤ 8 then 0 else -1
theorem lgc (x y : Int64) : ((lg_cmp x y).toInt < 0 ↔ x.toInt < y.toInt) ∧ (0 < (lg_cmp x y).toInt ↔ y.toInt < x.toInt) := by
  have e1 : (1 : Int32).toInt = 1 := by decide
  have e0 : (0 : Int32).toInt = 0 := by decide
  have em : (-1 : Int32).toInt = -1 := by decide
  unfold lg_cmp
  simp only [gt_iff_lt, Int64.lt_iff_toInt_lt, ← Int64.toInt_inj]
  split
  · rw [e1]; omega
  · split
    · rw [e0]; omega
    · rw [em]; omega

