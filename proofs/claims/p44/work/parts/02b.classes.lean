/-! the classes, their fields (these rows began as rows of the printed names) -/
def RX0 : String := "StruckCounts$History"
def TX0 : u_T := fun k => match k with
  | 0 => ("StruckCounts$History", "ahead", "[LStruckCounts$State;", true)
  | 1 => ("StruckCounts$History", "kept", "[LStruckCounts$State;", true)
  | 2 => ("StruckCounts$History", "keptSet", "I", false)
  | 3 => ("StruckCounts$History", "top", "I", false)
  | _ => ("StruckCounts$History", "done", "I", false)
def tyX0 : Nat → FieldType := fun k => match k with
  | 0 => .array (.object "StruckCounts$State")
  | 1 => .array (.object "StruckCounts$State")
  | 2 => .int
  | 3 => .int
  | _ => .int
abbrev wsX00 : List Cond := u_ws RX0 TX0 5
theorem nmX0 : ∀ a, a < 5 → ∀ b, b < 5 → a ≠ b → (TX0 a).2.1 ≠ (TX0 b).2.1 := by decide +kernel
theorem tyX0_ok : ∀ k, k < 5 → parseFieldDescriptor (TX0 k).2.2.1 = some (tyX0 k) := by decide +kernel
def RX1 : String := "StruckCounts$Law"
def TX1 : u_T := fun k => match k with
  | 0 => ("StruckCounts$Law", "lines", "I", false)
  | 1 => ("StruckCounts$Law", "facts", "I", false)
  | 2 => ("StruckCounts$Law", "told", "I", false)
  | 3 => ("StruckCounts$Law", "nevers", "I", false)
  | 4 => ("StruckCounts$Law", "pleas", "I", false)
  | 5 => ("StruckCounts$Law", "limit", "I", false)
  | 6 => ("StruckCounts$Law", "odds", "[I", true)
  | 7 => ("StruckCounts$Law", "names", "[I", true)
  | 8 => ("StruckCounts$Law", "needs", "[I", true)
  | 9 => ("StruckCounts$Law", "pleaOf", "[I", true)
  | 10 => ("StruckCounts$Law", "same", "[I", true)
  | 11 => ("StruckCounts$Law", "first", "[I", true)
  | 12 => ("StruckCounts$Law", "code", "[I", true)
  | 13 => ("StruckCounts$Law", "size", "I", false)
  | 14 => ("StruckCounts$Law", "from", "[I", true)
  | 15 => ("StruckCounts$Law", "to", "[I", true)
  | 16 => ("StruckCounts$Law", "weights", "[I", true)
  | 17 => ("StruckCounts$Law", "possible", "LStruckCounts$Worlds;", true)
  | 18 => ("StruckCounts$Law", "tables", "[LStruckCounts$Worlds;", true)
  | _ => ("StruckCounts$Law", "nowhere", "LStruckCounts$Worlds;", true)
def tyX1 : Nat → FieldType := fun k => match k with
  | 0 => .int
  | 1 => .int
  | 2 => .int
  | 3 => .int
  | 4 => .int
  | 5 => .int
  | 6 => .array .int
  | 7 => .array .int
  | 8 => .array .int
  | 9 => .array .int
  | 10 => .array .int
  | 11 => .array .int
  | 12 => .array .int
  | 13 => .int
  | 14 => .array .int
  | 15 => .array .int
  | 16 => .array .int
  | 17 => .object "StruckCounts$Worlds"
  | 18 => .array (.object "StruckCounts$Worlds")
  | _ => .object "StruckCounts$Worlds"
abbrev wsX10 : List Cond := u_ws RX1 TX1 20
theorem nmX1 : ∀ a, a < 20 → ∀ b, b < 20 → a ≠ b → (TX1 a).2.1 ≠ (TX1 b).2.1 := by decide +kernel
theorem tyX1_ok : ∀ k, k < 20 → parseFieldDescriptor (TX1 k).2.2.1 = some (tyX1 k) := by decide +kernel
def RX2 : String := "StruckCounts$Parser"
def TX2 : u_T := fun k => match k with
  | 0 => ("StruckCounts$Parser", "tokens", "LStruckCounts$Tokens;", true)
  | 1 => ("StruckCounts$Parser", "seer", "LStruckCounts$Seer;", true)
  | 2 => ("StruckCounts$Parser", "spare", "LStruckCounts$Worlds;", true)
  | 3 => ("StruckCounts$Parser", "law", "LStruckCounts$Law;", false)
  | 4 => ("StruckCounts$Parser", "start", "LStruckCounts$State;", false)
  | 5 => ("StruckCounts$Parser", "next", "I", false)
  | 6 => ("StruckCounts$Parser", "got", "I", false)
  | 7 => ("StruckCounts$Parser", "fault", "I", false)
  | _ => ("StruckCounts$Parser", "place", "I", false)
def tyX2 : Nat → FieldType := fun k => match k with
  | 0 => .object "StruckCounts$Tokens"
  | 1 => .object "StruckCounts$Seer"
  | 2 => .object "StruckCounts$Worlds"
  | 3 => .object "StruckCounts$Law"
  | 4 => .object "StruckCounts$State"
  | 5 => .int
  | 6 => .int
  | 7 => .int
  | _ => .int
abbrev wsX20 : List Cond := u_ws RX2 TX2 9
theorem nmX2 : ∀ a, a < 9 → ∀ b, b < 9 → a ≠ b → (TX2 a).2.1 ≠ (TX2 b).2.1 := by decide +kernel
theorem tyX2_ok : ∀ k, k < 9 → parseFieldDescriptor (TX2 k).2.2.1 = some (tyX2 k) := by decide +kernel
def RX3 : String := "StruckCounts$Picks"
def TX3 : u_T := fun k => match k with
  | 0 => ("StruckCounts$Picks", "free", "I", false)
  | 1 => ("StruckCounts$Picks", "size", "I", false)
  | 2 => ("StruckCounts$Picks", "facts", "I", false)
  | 3 => ("StruckCounts$Picks", "so", "I", false)
  | _ => ("StruckCounts$Picks", "begun", "Z", false)
def tyX3 : Nat → FieldType := fun k => match k with
  | 0 => .int
  | 1 => .int
  | 2 => .int
  | 3 => .int
  | _ => .boolean
abbrev wsX30 : List Cond := u_ws RX3 TX3 5
theorem nmX3 : ∀ a, a < 5 → ∀ b, b < 5 → a ≠ b → (TX3 a).2.1 ≠ (TX3 b).2.1 := by decide +kernel
theorem tyX3_ok : ∀ k, k < 5 → parseFieldDescriptor (TX3 k).2.2.1 = some (tyX3 k) := by decide +kernel
def RX4 : String := "StruckCounts$Seer"
def TX4 : u_T := fun k => match k with
  | 0 => ("StruckCounts$Seer", "yes", "[J", true)
  | 1 => ("StruckCounts$Seer", "no", "[J", true)
  | 2 => ("StruckCounts$Seer", "reached", "[J", true)
  | 3 => ("StruckCounts$Seer", "height", "I", false)
  | 4 => ("StruckCounts$Seer", "part", "I", false)
  | 5 => ("StruckCounts$Seer", "said", "I", false)
  | _ => ("StruckCounts$Seer", "saidSo", "I", false)
def tyX4 : Nat → FieldType := fun k => match k with
  | 0 => .array .long
  | 1 => .array .long
  | 2 => .array .long
  | 3 => .int
  | 4 => .int
  | 5 => .int
  | _ => .int
abbrev wsX40 : List Cond := u_ws RX4 TX4 7
theorem nmX4 : ∀ a, a < 7 → ∀ b, b < 7 → a ≠ b → (TX4 a).2.1 ≠ (TX4 b).2.1 := by decide +kernel
theorem tyX4_ok : ∀ k, k < 7 → parseFieldDescriptor (TX4 k).2.2.1 = some (tyX4 k) := by decide +kernel
def RX5 : String := "StruckCounts$State"
def TX5 : u_T := fun k => match k with
  | 0 => ("StruckCounts$State", "day", "I", false)
  | 1 => ("StruckCounts$State", "closed", "Z", false)
  | 2 => ("StruckCounts$State", "counts", "I", false)
  | 3 => ("StruckCounts$State", "struck", "I", false)
  | 4 => ("StruckCounts$State", "admitted", "I", false)
  | 5 => ("StruckCounts$State", "denied", "I", false)
  | 6 => ("StruckCounts$State", "notKnown", "I", false)
  | 7 => ("StruckCounts$State", "found", "I", false)
  | 8 => ("StruckCounts$State", "so", "I", false)
  | 9 => ("StruckCounts$State", "kinds", "[I", true)
  | 10 => ("StruckCounts$State", "worth", "[I", true)
  | 11 => ("StruckCounts$State", "arose", "[I", true)
  | 12 => ("StruckCounts$State", "filed", "[I", true)
  | 13 => ("StruckCounts$State", "said", "[I", true)
  | _ => ("StruckCounts$State", "saidSo", "[I", true)
def tyX5 : Nat → FieldType := fun k => match k with
  | 0 => .int
  | 1 => .boolean
  | 2 => .int
  | 3 => .int
  | 4 => .int
  | 5 => .int
  | 6 => .int
  | 7 => .int
  | 8 => .int
  | 9 => .array .int
  | 10 => .array .int
  | 11 => .array .int
  | 12 => .array .int
  | 13 => .array .int
  | _ => .array .int
abbrev wsX50 : List Cond := u_ws RX5 TX5 15
theorem nmX5 : ∀ a, a < 15 → ∀ b, b < 15 → a ≠ b → (TX5 a).2.1 ≠ (TX5 b).2.1 := by decide +kernel
theorem tyX5_ok : ∀ k, k < 15 → parseFieldDescriptor (TX5 k).2.2.1 = some (tyX5 k) := by decide +kernel
def RX6 : String := "StruckCounts$Tally"
def TX6 : u_T := fun k => match k with
  | 0 => ("StruckCounts$Tally", "sets", "[I", true)
  | 1 => ("StruckCounts$Tally", "times", "[I", true)
  | 2 => ("StruckCounts$Tally", "firsts", "[I", true)
  | 3 => ("StruckCounts$Tally", "weights", "[J", true)
  | 4 => ("StruckCounts$Tally", "places", "[I", true)
  | _ => ("StruckCounts$Tally", "size", "I", false)
def tyX6 : Nat → FieldType := fun k => match k with
  | 0 => .array .int
  | 1 => .array .int
  | 2 => .array .int
  | 3 => .array .long
  | 4 => .array .int
  | _ => .int
abbrev wsX60 : List Cond := u_ws RX6 TX6 6
theorem nmX6 : ∀ a, a < 6 → ∀ b, b < 6 → a ≠ b → (TX6 a).2.1 ≠ (TX6 b).2.1 := by decide +kernel
theorem tyX6_ok : ∀ k, k < 6 → parseFieldDescriptor (TX6 k).2.2.1 = some (tyX6 k) := by decide +kernel
def RX7 : String := "StruckCounts$Text"
def TX7 : u_T := fun k => match k with
  | 0 => ("StruckCounts$Text", "signs", "[I", true)
  | _ => ("StruckCounts$Text", "size", "I", false)
def tyX7 : Nat → FieldType := fun k => match k with
  | 0 => .array .int
  | _ => .int
abbrev wsX70 : List Cond := u_ws RX7 TX7 2
theorem nmX7 : ∀ a, a < 2 → ∀ b, b < 2 → a ≠ b → (TX7 a).2.1 ≠ (TX7 b).2.1 := by decide +kernel
theorem tyX7_ok : ∀ k, k < 2 → parseFieldDescriptor (TX7 k).2.2.1 = some (tyX7 k) := by decide +kernel
def RX8 : String := "StruckCounts$Tokens"
def TX8 : u_T := fun k => match k with
  | 0 => ("StruckCounts$Tokens", "kinds", "[I", true)
  | 1 => ("StruckCounts$Tokens", "places", "[I", true)
  | 2 => ("StruckCounts$Tokens", "values", "[I", true)
  | 3 => ("StruckCounts$Tokens", "reserved", "[I", true)
  | _ => ("StruckCounts$Tokens", "size", "I", false)
def tyX8 : Nat → FieldType := fun k => match k with
  | 0 => .array .int
  | 1 => .array .int
  | 2 => .array .int
  | 3 => .array .int
  | _ => .int
abbrev wsX80 : List Cond := u_ws RX8 TX8 5
theorem nmX8 : ∀ a, a < 5 → ∀ b, b < 5 → a ≠ b → (TX8 a).2.1 ≠ (TX8 b).2.1 := by decide +kernel
theorem tyX8_ok : ∀ k, k < 5 → parseFieldDescriptor (TX8 k).2.2.1 = some (tyX8 k) := by decide +kernel
def RX9 : String := "StruckCounts$Tree"
def TX9 : u_T := fun k => match k with
  | 0 => ("StruckCounts$Tree", "threes", "[I", true)
  | 1 => ("StruckCounts$Tree", "leaves", "[I", true)
  | 2 => ("StruckCounts$Tree", "marks", "[I", true)
  | 3 => ("StruckCounts$Tree", "values", "[I", true)
  | _ => ("StruckCounts$Tree", "free", "I", false)
def tyX9 : Nat → FieldType := fun k => match k with
  | 0 => .array .int
  | 1 => .array .int
  | 2 => .array .int
  | 3 => .array .int
  | _ => .int
abbrev wsX90 : List Cond := u_ws RX9 TX9 5
theorem nmX9 : ∀ a, a < 5 → ∀ b, b < 5 → a ≠ b → (TX9 a).2.1 ≠ (TX9 b).2.1 := by decide +kernel
theorem tyX9_ok : ∀ k, k < 5 → parseFieldDescriptor (TX9 k).2.2.1 = some (tyX9 k) := by decide +kernel
def RX10 : String := "StruckCounts$Worlds"
def TX10 : u_T := fun k => match k with
  | _ => ("StruckCounts$Worlds", "parts", "[J", true)
def tyX10 : Nat → FieldType := fun k => match k with
  | _ => .array .long
abbrev wsX100 : List Cond := u_ws RX10 TX10 1
theorem nmX10 : ∀ a, a < 1 → ∀ b, b < 1 → a ≠ b → (TX10 a).2.1 ≠ (TX10 b).2.1 := by decide +kernel
theorem tyX10_ok : ∀ k, k < 1 → parseFieldDescriptor (TX10 k).2.2.1 = some (tyX10 k) := by decide +kernel
def RX11 : String := "StruckCounts"
def TX11 : u_T := fun k => match k with
  | 0 => ("StruckCounts", "text", "LStruckCounts$Text;", true)
  | 1 => ("StruckCounts", "tokens", "LStruckCounts$Tokens;", true)
  | 2 => ("StruckCounts", "seer", "LStruckCounts$Seer;", true)
  | 3 => ("StruckCounts", "law", "LStruckCounts$Law;", false)
  | 4 => ("StruckCounts", "draft", "LStruckCounts$Law;", false)
  | 5 => ("StruckCounts", "state", "LStruckCounts$State;", false)
  | 6 => ("StruckCounts", "filing", "LStruckCounts$State;", false)
  | 7 => ("StruckCounts", "parser", "LStruckCounts$Parser;", true)
  | 8 => ("StruckCounts", "history", "LStruckCounts$History;", true)
  | 9 => ("StruckCounts", "left", "LStruckCounts$Worlds;", true)
  | 10 => ("StruckCounts", "alleged", "LStruckCounts$Worlds;", true)
  | 11 => ("StruckCounts", "spare", "LStruckCounts$Worlds;", true)
  | 12 => ("StruckCounts", "tree", "LStruckCounts$Tree;", true)
  | 13 => ("StruckCounts", "picks", "LStruckCounts$Picks;", true)
  | 14 => ("StruckCounts", "tally", "LStruckCounts$Tally;", true)
  | 15 => ("StruckCounts", "backs", "[I", true)
  | 16 => ("StruckCounts", "askedUpper", "J", false)
  | _ => ("StruckCounts", "askedLower", "J", false)
def tyX11 : Nat → FieldType := fun k => match k with
  | 0 => .object "StruckCounts$Text"
  | 1 => .object "StruckCounts$Tokens"
  | 2 => .object "StruckCounts$Seer"
  | 3 => .object "StruckCounts$Law"
  | 4 => .object "StruckCounts$Law"
  | 5 => .object "StruckCounts$State"
  | 6 => .object "StruckCounts$State"
  | 7 => .object "StruckCounts$Parser"
  | 8 => .object "StruckCounts$History"
  | 9 => .object "StruckCounts$Worlds"
  | 10 => .object "StruckCounts$Worlds"
  | 11 => .object "StruckCounts$Worlds"
  | 12 => .object "StruckCounts$Tree"
  | 13 => .object "StruckCounts$Picks"
  | 14 => .object "StruckCounts$Tally"
  | 15 => .array .int
  | 16 => .long
  | _ => .long
abbrev wsX110 : List Cond := u_ws RX11 TX11 18
theorem nmX11 : ∀ a, a < 18 → ∀ b, b < 18 → a ≠ b → (TX11 a).2.1 ≠ (TX11 b).2.1 := by decide +kernel
theorem tyX11_ok : ∀ k, k < 18 → parseFieldDescriptor (TX11 k).2.2.1 = some (tyX11 k) := by decide +kernel
def RX12 : String := "StruckCountsLaw$Count"
def TX12 : u_T := fun k => match k with
  | 0 => ("StruckCountsLaw$Count", "needs", "[LStruckCountsLaw$Said;", true)
  | 1 => ("StruckCountsLaw$Count", "bars", "[LStruckCountsLaw$Said;", true)
  | 2 => ("StruckCountsLaw$Count", "worth", "I", false)
  | 3 => ("StruckCountsLaw$Count", "arose", "I", false)
  | 4 => ("StruckCountsLaw$Count", "filed", "I", false)
  | 5 => ("StruckCountsLaw$Count", "says", "I", false)
  | 6 => ("StruckCountsLaw$Count", "so", "I", false)
  | 7 => ("StruckCountsLaw$Count", "like", "I", false)
  | _ => ("StruckCountsLaw$Count", "struck", "Z", false)
def tyX12 : Nat → FieldType := fun k => match k with
  | 0 => .array (.object "StruckCountsLaw$Said")
  | 1 => .array (.object "StruckCountsLaw$Said")
  | 2 => .int
  | 3 => .int
  | 4 => .int
  | 5 => .int
  | 6 => .int
  | 7 => .int
  | _ => .boolean
abbrev wsX120 : List Cond := u_ws RX12 TX12 9
theorem nmX12 : ∀ a, a < 9 → ∀ b, b < 9 → a ≠ b → (TX12 a).2.1 ≠ (TX12 b).2.1 := by decide +kernel
theorem tyX12_ok : ∀ k, k < 9 → parseFieldDescriptor (TX12 k).2.2.1 = some (tyX12 k) := by decide +kernel
def RX13 : String := "StruckCountsLaw$Said"
def TX13 : u_T := fun k => match k with
  | 0 => ("StruckCountsLaw$Said", "kind", "I", true)
  | 1 => ("StruckCountsLaw$Said", "of", "I", true)
  | _ => ("StruckCountsLaw$Said", "parts", "[LStruckCountsLaw$Said;", true)
def tyX13 : Nat → FieldType := fun k => match k with
  | 0 => .int
  | 1 => .int
  | _ => .array (.object "StruckCountsLaw$Said")
abbrev wsX130 : List Cond := u_ws RX13 TX13 3
theorem nmX13 : ∀ a, a < 3 → ∀ b, b < 3 → a ≠ b → (TX13 a).2.1 ≠ (TX13 b).2.1 := by decide +kernel
theorem tyX13_ok : ∀ k, k < 3 → parseFieldDescriptor (TX13 k).2.2.1 = some (tyX13 k) := by decide +kernel
def RX14 : String := "StruckCountsLaw$Suit"
def TX14 : u_T := fun k => match k with
  | 0 => ("StruckCountsLaw$Suit", "how", "[I", true)
  | 1 => ("StruckCountsLaw$Suit", "is", "[I", true)
  | 2 => ("StruckCountsLaw$Suit", "counts", "Ljava/util/ArrayList;", true)
  | 3 => ("StruckCountsLaw$Suit", "closed", "Z", false)
  | _ => ("StruckCountsLaw$Suit", "day", "I", false)
def tyX14 : Nat → FieldType := fun k => match k with
  | 0 => .array .int
  | 1 => .array .int
  | 2 => .object "java/util/ArrayList"
  | 3 => .boolean
  | _ => .int
abbrev wsX140 : List Cond := u_ws RX14 TX14 5
theorem nmX14 : ∀ a, a < 5 → ∀ b, b < 5 → a ≠ b → (TX14 a).2.1 ≠ (TX14 b).2.1 := by decide +kernel
theorem tyX14_ok : ∀ k, k < 5 → parseFieldDescriptor (TX14 k).2.2.1 = some (tyX14 k) := by decide +kernel
def RL : String := "StruckCountsLaw"
def TL : u_T := fun k => match k with
  | 0 => ("StruckCountsLaw", "x", "LStruckCounts;", true)
  | 1 => ("StruckCountsLaw", "ints", "[I", false)
  | 2 => ("StruckCountsLaw", "next", "I", false)
  | 3 => ("StruckCountsLaw", "facts", "I", false)
  | 4 => ("StruckCountsLaw", "limit", "I", false)
  | 5 => ("StruckCountsLaw", "lines", "I", false)
  | 6 => ("StruckCountsLaw", "odds", "[I", true)
  | 7 => ("StruckCountsLaw", "nevers", "Ljava/util/ArrayList;", true)
  | 8 => ("StruckCountsLaw", "same", "[[Z", true)
  | 9 => ("StruckCountsLaw", "now", "LStruckCountsLaw$Suit;", false)
  | 10 => ("StruckCountsLaw", "kept", "LStruckCountsLaw$Suit;", false)
  | _ => ("StruckCountsLaw", "undos", "Ljava/util/ArrayList;", true)
def tyL : Nat → FieldType := fun k => match k with
  | 0 => .object "StruckCounts"
  | 1 => .array .int
  | 2 => .int
  | 3 => .int
  | 4 => .int
  | 5 => .int
  | 6 => .array .int
  | 7 => .object "java/util/ArrayList"
  | 8 => .array (.array .boolean)
  | 9 => .object "StruckCountsLaw$Suit"
  | 10 => .object "StruckCountsLaw$Suit"
  | _ => .object "java/util/ArrayList"
abbrev wsL0 : List Cond := u_ws RL TL 12
theorem nmL : ∀ a, a < 12 → ∀ b, b < 12 → a ≠ b → (TL a).2.1 ≠ (TL b).2.1 := by decide +kernel
theorem tyL_ok : ∀ k, k < 12 → parseFieldDescriptor (TL k).2.2.1 = some (tyL k) := by decide +kernel
def RJ4 : String := "java/lang/StringBuilder"
def TJ4 : u_T := fun k => match k with
  | 0 => ("java/lang/AbstractStringBuilder", "value", "[B", false)
  | 1 => ("java/lang/AbstractStringBuilder", "coder", "B", false)
  | 2 => ("java/lang/AbstractStringBuilder", "maybeLatin1", "Z", false)
  | _ => ("java/lang/AbstractStringBuilder", "count", "I", false)
def tyJ4 : Nat → FieldType := fun k => match k with
  | 0 => .array .byte
  | 1 => .byte
  | 2 => .boolean
  | _ => .int
abbrev wsJ40 : List Cond := u_ws RJ4 TJ4 4
theorem nmJ4 : ∀ a, a < 4 → ∀ b, b < 4 → a ≠ b → (TJ4 a).2.1 ≠ (TJ4 b).2.1 := by decide +kernel
theorem tyJ4_ok : ∀ k, k < 4 → parseFieldDescriptor (TJ4 k).2.2.1 = some (tyJ4 k) := by decide +kernel
def RJ0 : String := "java/lang/String"
def TJ0 : u_T := fun k => match k with
  | 0 => ("java/lang/String", "value", "[B", true)
  | 1 => ("java/lang/String", "coder", "B", true)
  | 2 => ("java/lang/String", "hash", "I", false)
  | _ => ("java/lang/String", "hashIsZero", "Z", false)
def tyJ0 : Nat → FieldType := fun k => match k with
  | 0 => .array .byte
  | 1 => .byte
  | 2 => .int
  | _ => .boolean
abbrev wsJ00 : List Cond := u_ws RJ0 TJ0 4
theorem nmJ0 : ∀ a, a < 4 → ∀ b, b < 4 → a ≠ b → (TJ0 a).2.1 ≠ (TJ0 b).2.1 := by decide +kernel
theorem tyJ0_ok : ∀ k, k < 4 → parseFieldDescriptor (TJ0 k).2.2.1 = some (tyJ0 k) := by decide +kernel
def RJx4a65c : String := "java/util/ArrayList"
def TJx4a65c : u_T := fun k => match k with
  | 0 => ("java/util/AbstractList", "modCount", "I", false)
  | 1 => ("java/util/ArrayList", "elementData", "[Ljava/lang/Object;", false)
  | _ => ("java/util/ArrayList", "size", "I", false)
def tyJx4a65c : Nat → FieldType := fun k => match k with
  | 0 => .int
  | 1 => .array (.object "java/lang/Object")
  | _ => .int
abbrev wsJx4a65c0 : List Cond := u_ws RJx4a65c TJx4a65c 3
theorem nmJx4a65c : ∀ a, a < 3 → ∀ b, b < 3 → a ≠ b → (TJx4a65c a).2.1 ≠ (TJx4a65c b).2.1 := by decide +kernel
theorem tyJx4a65c_ok : ∀ k, k < 3 → parseFieldDescriptor (TJx4a65c k).2.2.1 = some (tyJx4a65c k) := by decide +kernel
def RJx35411 : String := "java/util/ArrayList$Itr"
def TJx35411 : u_T := fun k => match k with
  | 0 => ("java/util/ArrayList$Itr", "cursor", "I", false)
  | 1 => ("java/util/ArrayList$Itr", "lastRet", "I", false)
  | 2 => ("java/util/ArrayList$Itr", "expectedModCount", "I", false)
  | _ => ("java/util/ArrayList$Itr", "this$0", "Ljava/util/ArrayList;", true)
def tyJx35411 : Nat → FieldType := fun k => match k with
  | 0 => .int
  | 1 => .int
  | 2 => .int
  | _ => .object "java/util/ArrayList"
abbrev wsJx354110 : List Cond := u_ws RJx35411 TJx35411 4
theorem nmJx35411 : ∀ a, a < 4 → ∀ b, b < 4 → a ≠ b → (TJx35411 a).2.1 ≠ (TJx35411 b).2.1 := by decide +kernel
theorem tyJx35411_ok : ∀ k, k < 4 → parseFieldDescriptor (TJx35411 k).2.2.1 = some (tyJx35411 k) := by decide +kernel
def cls0 : List (vw_C × (Nat → FieldType)) := [((RX0, TX0, 5), tyX0), ((RX1, TX1, 20), tyX1), ((RX2, TX2, 9), tyX2), ((RX3, TX3, 5), tyX3), ((RX4, TX4, 7), tyX4), ((RX5, TX5, 15), tyX5), ((RX6, TX6, 6), tyX6), ((RX7, TX7, 2), tyX7), ((RX8, TX8, 5), tyX8), ((RX9, TX9, 5), tyX9), ((RX10, TX10, 1), tyX10), ((RX11, TX11, 18), tyX11), ((RX12, TX12, 9), tyX12), ((RX13, TX13, 3), tyX13), ((RX14, TX14, 5), tyX14), ((RL, TL, 12), tyL), ((RJ4, TJ4, 4), tyJ4), ((RJ0, TJ0, 4), tyJ0), ((RJx4a65c, TJx4a65c, 3), tyJx4a65c), ((RJx35411, TJx35411, 4), tyJx35411)]
def refs0 : List (Nat × String) := [(5, RX5), (10, RX10), (13, RX13), (18, "java/lang/Object")]
abbrev CF (c : Nat) (C : String) (T : u_T) (N : Nat) (ty : Nat → FieldType) : Prop :=
  cls0[c]? = some ((C, T, N), ty) ∧ (∀ w ∈ u_ws C T N, w ∈ TB) ∧ (∀ k, k < N → parseFieldDescriptor (T k).2.2.1 = some (ty k)) ∧ ∀ a, a < N → ∀ b, b < N → a ≠ b → (T a).2.1 ≠ (T b).2.1
theorem cf0 : CF 0 RX0 TX0 5 tyX0 := ⟨rfl, by decide +kernel, tyX0_ok, nmX0⟩
theorem cf1 : CF 1 RX1 TX1 20 tyX1 := ⟨rfl, by decide +kernel, tyX1_ok, nmX1⟩
theorem cf2 : CF 2 RX2 TX2 9 tyX2 := ⟨rfl, by decide +kernel, tyX2_ok, nmX2⟩
theorem cf3 : CF 3 RX3 TX3 5 tyX3 := ⟨rfl, by decide +kernel, tyX3_ok, nmX3⟩
theorem cf4 : CF 4 RX4 TX4 7 tyX4 := ⟨rfl, by decide +kernel, tyX4_ok, nmX4⟩
theorem cf5 : CF 5 RX5 TX5 15 tyX5 := ⟨rfl, by decide +kernel, tyX5_ok, nmX5⟩
theorem cf6 : CF 6 RX6 TX6 6 tyX6 := ⟨rfl, by decide +kernel, tyX6_ok, nmX6⟩
theorem cf7 : CF 7 RX7 TX7 2 tyX7 := ⟨rfl, by decide +kernel, tyX7_ok, nmX7⟩
theorem cf8 : CF 8 RX8 TX8 5 tyX8 := ⟨rfl, by decide +kernel, tyX8_ok, nmX8⟩
theorem cf9 : CF 9 RX9 TX9 5 tyX9 := ⟨rfl, by decide +kernel, tyX9_ok, nmX9⟩
theorem cf10 : CF 10 RX10 TX10 1 tyX10 := ⟨rfl, by decide +kernel, tyX10_ok, nmX10⟩
theorem cf11 : CF 11 RX11 TX11 18 tyX11 := ⟨rfl, by decide +kernel, tyX11_ok, nmX11⟩
theorem cf12 : CF 12 RX12 TX12 9 tyX12 := ⟨rfl, by decide +kernel, tyX12_ok, nmX12⟩
theorem cf13 : CF 13 RX13 TX13 3 tyX13 := ⟨rfl, by decide +kernel, tyX13_ok, nmX13⟩
theorem cf14 : CF 14 RX14 TX14 5 tyX14 := ⟨rfl, by decide +kernel, tyX14_ok, nmX14⟩
theorem cf15 : CF 15 RL TL 12 tyL := ⟨rfl, by decide +kernel, tyL_ok, nmL⟩
theorem cf16 : CF 16 RJ4 TJ4 4 tyJ4 := ⟨rfl, by decide +kernel, tyJ4_ok, nmJ4⟩
theorem cf17 : CF 17 RJ0 TJ0 4 tyJ0 := ⟨rfl, by decide +kernel, tyJ0_ok, nmJ0⟩
theorem cf18 : CF 18 RJx4a65c TJx4a65c 3 tyJx4a65c := ⟨rfl, by decide +kernel, tyJx4a65c_ok, nmJx4a65c⟩
theorem cf19 : CF 19 RJx35411 TJx35411 4 tyJx35411 := ⟨rfl, by decide +kernel, tyJx35411_ok, nmJx35411⟩
