/-! the classes, their fields (these rows began as rows of the printed names) -/
def RX0 : String := "StruckCounts$History"
def TX0 : u_T := fun k => match k with
  | 0 => ("StruckCounts$History", "ahead", "[LStruckCounts$State;", true)
  | 1 => ("StruckCounts$History", "kept", "[LStruckCounts$State;", true)
  | 2 => ("StruckCounts$History", "keptSet", "I", false)
  | 3 => ("StruckCounts$History", "top", "I", false)
  | _ => ("StruckCounts$History", "done", "I", false)
def tyX0 : Nat → FieldType := fun k => match k with
  | 0 => .array (.object "StruckCounts$State")
  | 1 => .array (.object "StruckCounts$State")
  | 2 => .int
  | 3 => .int
  | _ => .int
abbrev wsX00 : List Cond := u_ws RX0 TX0 5
theorem nmX0 : ∀ a, a < 5 → ∀ b, b < 5 → a ≠ b → (TX0 a).2.1 ≠ (TX0 b).2.1 := by decide +kernel
theorem tyX0_ok : ∀ k, k < 5 → parseFieldDescriptor (TX0 k).2.2.1 = some (tyX0 k) := by decide +kernel
def RX1 : String := "StruckCounts$Law"
def TX1 : u_T := fun k => match k with
  | 0 => ("StruckCounts$Law", "lines", "I", false)
  | 1 => ("StruckCounts$Law", "facts", "I", false)
  | 2 => ("StruckCounts$Law", "told", "I", false)
  | 3 => ("StruckCounts$Law", "nevers", "I", false)
  | 4 => ("StruckCounts$Law", "pleas", "I", false)
  | 5 => ("StruckCounts$Law", "limit", "I", false)
  | 6 => ("StruckCounts$Law", "odds", "[I", true)
  | 7 => ("StruckCounts$Law", "names", "[I", true)
  | 8 => ("StruckCounts$Law", "needs", "[I", true)
  | 9 => ("StruckCounts$Law", "pleaOf", "[I", true)
  | 10 => ("StruckCounts$Law", "same", "[I", true)
  | 11 => ("StruckCounts$Law", "first", "[I", true)
  | 12 => ("StruckCounts$Law", "code", "[I", true)
  | 13 => ("StruckCounts$Law", "size", "I", false)
  | 14 => ("StruckCounts$Law", "from", "[I", true)
  | 15 => ("StruckCounts$Law", "to", "[I", true)
  | 16 => ("StruckCounts$Law", "weights", "[I", true)
  | 17 => ("StruckCounts$Law", "possible", "LStruckCounts$Worlds;", true)
  | 18 => ("StruckCounts$Law", "tables", "[LStruckCounts$Worlds;", true)
  | _ => ("StruckCounts$Law", "nowhere", "LStruckCounts$Worlds;", true)
def tyX1 : Nat → FieldType := fun k => match k with
  | 0 => .int
  | 1 => .int
  | 2 => .int
  | 3 => .int
  | 4 => .int
  | 5 => .int
  | 6 => .array .int
  | 7 => .array .int
  | 8 => .array .int
  | 9 => .array .int
  | 10 => .array .int
  | 11 => .array .int
  | 12 => .array .int
  | 13 => .int
  | 14 => .array .int
  | 15 => .array .int
  | 16 => .array .int
  | 17 => .object "StruckCounts$Worlds"
  | 18 => .array (.object "StruckCounts$Worlds")
  | _ => .object "StruckCounts$Worlds"
abbrev wsX10 : List Cond := u_ws RX1 TX1 20
theorem nmX1 : ∀ a, a < 20 → ∀ b, b < 20 → a ≠ b → (TX1 a).2.1 ≠ (TX1 b).2.1 := by decide +kernel
theorem tyX1_ok : ∀ k, k < 20 → parseFieldDescriptor (TX1 k).2.2.1 = some (tyX1 k) := by decide +kernel
def RX2 : String := "StruckCounts$Parser"
def TX2 : u_T := fun k => match k with
  | 0 => ("StruckCounts$Parser", "tokens", "LStruckCounts$Tokens;", true)
  | 1 => ("StruckCounts$Parser", "seer", "LStruckCounts$Seer;", true)
  | 2 => ("StruckCounts$Parser", "spare", "LStruckCounts$Worlds;", true)
  | 3 => ("StruckCounts$Parser", "law", "LStruckCounts$Law;", false)
  | 4 => ("StruckCounts$Parser", "start", "LStruckCounts$State;", false)
  | 5 => ("StruckCounts$Parser", "next", "I", false)
  | 6 => ("StruckCounts$Parser", "got", "I", false)
  | 7 => ("StruckCounts$Parser", "fault", "I", false)
  | _ => ("StruckCounts$Parser", "place", "I", false)
def tyX2 : Nat → FieldType := fun k => match k with
  | 0 => .object "StruckCounts$Tokens"
  | 1 => .object "StruckCounts$Seer"
  | 2 => .object "StruckCounts$Worlds"
  | 3 => .object "StruckCounts$Law"
  | 4 => .object "StruckCounts$State"
  | 5 => .int
  | 6 => .int
  | 7 => .int
  | _ => .int
abbrev wsX20 : List Cond := u_ws RX2 TX2 9
theorem nmX2 : ∀ a, a < 9 → ∀ b, b < 9 → a ≠ b → (TX2 a).2.1 ≠ (TX2 b).2.1 := by decide +kernel
theorem tyX2_ok : ∀ k, k < 9 → parseFieldDescriptor (TX2 k).2.2.1 = some (tyX2 k) := by decide +kernel
def RX3 : String := "StruckCounts$Picks"
def TX3 : u_T := fun k => match k with
  | 0 => ("StruckCounts$Picks", "free", "I", false)
  | 1 => ("StruckCounts$Picks", "size", "I", false)
  | 2 => ("StruckCounts$Picks", "facts", "I", false)
  | 3 => ("StruckCounts$Picks", "so", "I", false)
  | _ => ("StruckCounts$Picks", "begun", "Z", false)
def tyX3 : Nat → FieldType := fun k => match k with
  | 0 => .int
  | 1 => .int
  | 2 => .int
  | 3 => .int
  | _ => .boolean
abbrev wsX30 : List Cond := u_ws RX3 TX3 5
theorem nmX3 : ∀ a, a < 5 → ∀ b, b < 5 → a ≠ b → (TX3 a).2.1 ≠ (TX3 b).2.1 := by decide +kernel
theorem tyX3_ok : ∀ k, k < 5 → parseFieldDescriptor (TX3 k).2.2.1 = some (tyX3 k) := by decide +kernel
def RX4 : String := "StruckCounts$Seer"
def TX4 : u_T := fun k => match k with
  | 0 => ("StruckCounts$Seer", "yes", "[J", true)
  | 1 => ("StruckCounts$Seer", "no", "[J", true)
  | 2 => ("StruckCounts$Seer", "reached", "[J", true)
  | 3 => ("StruckCounts$Seer", "height", "I", false)
  | 4 => ("StruckCounts$Seer", "part", "I", false)
  | 5 => ("StruckCounts$Seer", "said", "I", false)
  | _ => ("StruckCounts$Seer", "saidSo", "I", false)
def tyX4 : Nat → FieldType := fun k => match k with
  | 0 => .array .long
  | 1 => .array .long
  | 2 => .array .long
  | 3 => .int
  | 4 => .int
  | 5 => .int
  | _ => .int
abbrev wsX40 : List Cond := u_ws RX4 TX4 7
theorem nmX4 : ∀ a, a < 7 → ∀ b, b < 7 → a ≠ b → (TX4 a).2.1 ≠ (TX4 b).2.1 := by decide +kernel
theorem tyX4_ok : ∀ k, k < 7 → parseFieldDescriptor (TX4 k).2.2.1 = some (tyX4 k) := by decide +kernel
def RX5 : String := "StruckCounts$State"
def TX5 : u_T := fun k => match k with
  | 0 => ("StruckCounts$State", "day", "I", false)
  | 1 => ("StruckCounts$State", "closed", "Z", false)
  | 2 => ("StruckCounts$State", "counts", "I", false)
  | 3 => ("StruckCounts$State", "struck", "I", false)
  | 4 => ("StruckCounts$State", "admitted", "I", false)
  | 5 => ("StruckCounts$State", "denied", "I", false)
  | 6 => ("StruckCounts$State", "notKnown", "I", false)
  | 7 => ("StruckCounts$State", "found", "I", false)
  | 8 => ("StruckCounts$State", "so", "I", false)
  | 9 => ("StruckCounts$State", "kinds", "[I", true)
  | 10 => ("StruckCounts$State", "worth", "[I", true)
  | 11 => ("StruckCounts$State", "arose", "[I", true)
  | 12 => ("StruckCounts$State", "filed", "[I", true)
  | 13 => ("StruckCounts$State", "said", "[I", true)
  | _ => ("StruckCounts$State", "saidSo", "[I", true)
def tyX5 : Nat → FieldType := fun k => match k with
  | 0 => .int
  | 1 => .boolean
  | 2 => .int
  | 3 => .int
  | 4 => .int
  | 5 => .int
  | 6 => .int
  | 7 => .int
  | 8 => .int
  | 9 => .array .int
  | 10 => .array .int
  | 11 => .array .int
  | 12 => .array .int
  | 13 => .array .int
  | _ => .array .int
abbrev wsX50 : List Cond := u_ws RX5 TX5 15
theorem nmX5 : ∀ a, a < 15 → ∀ b, b < 15 → a ≠ b → (TX5 a).2.1 ≠ (TX5 b).2.1 := by decide +kernel
theorem tyX5_ok : ∀ k, k < 15 → parseFieldDescriptor (TX5 k).2.2.1 = some (tyX5 k) := by decide +kernel
def RX6 : String := "StruckCounts$Tally"
def TX6 : u_T := fun k => match k with
  | 0 => ("StruckCounts$Tally", "sets", "[I", true)
  | 1 => ("StruckCounts$Tally", "times", "[I", true)
  | 2 => ("StruckCounts$Tally", "firsts", "[I", true)
  | 3 => ("StruckCounts$Tally", "weights", "[J", true)
  | 4 => ("StruckCounts$Tally", "places", "[I", true)
  | _ => ("StruckCounts$Tally", "size", "I", false)
def tyX6 : Nat → FieldType := fun k => match k with
  | 0 => .array .int
  | 1 => .array .int
  | 2 => .array .int
  | 3 => .array .long
  | 4 => .array .int
  | _ => .int
abbrev wsX60 : List Cond := u_ws RX6 TX6 6
theorem nmX6 : ∀ a, a < 6 → ∀ b, b < 6 → a ≠ b → (TX6 a).2.1 ≠ (TX6 b).2.1 := by decide +kernel
theorem tyX6_ok : ∀ k, k < 6 → parseFieldDescriptor (TX6 k).2.2.1 = some (tyX6 k) := by decide +kernel
def RX7 : String := "StruckCounts$Text"
def TX7 : u_T := fun k => match k with
  | 0 => ("StruckCounts$Text", "signs", "[I", true)
  | _ => ("StruckCounts$Text", "size", "I", false)
def tyX7 : Nat → FieldType := fun k => match k with
  | 0 => .array .int
  | _ => .int
abbrev wsX70 : List Cond := u_ws RX7 TX7 2
theorem nmX7 : ∀ a, a < 2 → ∀ b, b < 2 → a ≠ b → (TX7 a).2.1 ≠ (TX7 b).2.1 := by decide +kernel
theorem tyX7_ok : ∀ k, k < 2 → parseFieldDescriptor (TX7 k).2.2.1 = some (tyX7 k) := by decide +kernel
def RX8 : String := "StruckCounts$Tokens"
def TX8 : u_T := fun k => match k with
  | 0 => ("StruckCounts$Tokens", "kinds", "[I", true)
  | 1 => ("StruckCounts$Tokens", "places", "[I", true)
  | 2 => ("StruckCounts$Tokens", "values", "[I", true)
  | 3 => ("StruckCounts$Tokens", "reserved", "[I", true)
  | _ => ("StruckCounts$Tokens", "size", "I", false)
def tyX8 : Nat → FieldType := fun k => match k with
  | 0 => .array .int
  | 1 => .array .int
  | 2 => .array .int
  | 3 => .array .int
  | _ => .int
abbrev wsX80 : List Cond := u_ws RX8 TX8 5
theorem nmX8 : ∀ a, a < 5 → ∀ b, b < 5 → a ≠ b → (TX8 a).2.1 ≠ (TX8 b).2.1 := by decide +kernel
theorem tyX8_ok : ∀ k, k < 5 → parseFieldDescriptor (TX8 k).2.2.1 = some (tyX8 k) := by decide +kernel
def RX9 : String := "StruckCounts$Tree"
def TX9 : u_T := fun k => match k with
  | 0 => ("StruckCounts$Tree", "threes", "[I", true)
  | 1 => ("StruckCounts$Tree", "leaves", "[I", true)
  | 2 => ("StruckCounts$Tree", "marks", "[I", true)
  | 3 => ("StruckCounts$Tree", "values", "[I", true)
  | _ => ("StruckCounts$Tree", "free", "I", false)
def tyX9 : Nat → FieldType := fun k => match k with
  | 0 => .array .int
  | 1 => .array .int
  | 2 => .array .int
  | 3 => .array .int
  | _ => .int
abbrev wsX90 : List Cond := u_ws RX9 TX9 5
theorem nmX9 : ∀ a, a < 5 → ∀ b, b < 5 → a ≠ b → (TX9 a).2.1 ≠ (TX9 b).2.1 := by decide +kernel
theorem tyX9_ok : ∀ k, k < 5 → parseFieldDescriptor (TX9 k).2.2.1 = some (tyX9 k) := by decide +kernel
def RX10 : String := "StruckCounts$Worlds"
def TX10 : u_T := fun k => match k with
  | _ => ("StruckCounts$Worlds", "parts", "[J", true)
def tyX10 : Nat → FieldType := fun k => match k with
  | _ => .array .long
abbrev wsX100 : List Cond := u_ws RX10 TX10 1
theorem nmX10 : ∀ a, a < 1 → ∀ b, b < 1 → a ≠ b → (TX10 a).2.1 ≠ (TX10 b).2.1 := by decide +kernel
theorem tyX10_ok : ∀ k, k < 1 → parseFieldDescriptor (TX10 k).2.2.1 = some (tyX10 k) := by decide +kernel
def RX11 : String := "StruckCounts"
def TX11 : u_T := fun k => match k with
  | 0 => ("StruckCounts", "text", "LStruckCounts$Text;", true)
  | 1 => ("StruckCounts", "tokens", "LStruckCounts$Tokens;", true)
  | 2 => ("StruckCounts", "seer", "LStruckCounts$Seer;", true)
  | 3 => ("StruckCounts", "law", "LStruckCounts$Law;", false)
  | 4 => ("StruckCounts", "draft", "LStruckCounts$Law;", false)
  | 5 => ("StruckCounts", "state", "LStruckCounts$State;", false)
  | 6 => ("StruckCounts", "filing", "LStruckCounts$State;", false)
  | 7 => ("StruckCounts", "parser", "LStruckCounts$Parser;", true)
  | 8 => ("StruckCounts", "history", "LStruckCounts$History;", true)
  | 9 => ("StruckCounts", "left", "LStruckCounts$Worlds;", true)
  | 10 => ("StruckCounts", "alleged", "LStruckCounts$Worlds;", true)
  | 11 => ("StruckCounts", "spare", "LStruckCounts$Worlds;", true)
  | 12 => ("StruckCounts", "tree", "LStruckCounts$Tree;", true)
  | 13 => ("StruckCounts", "picks", "LStruckCounts$Picks;", true)
  | 14 => ("StruckCounts", "tally", "LStruckCounts$Tally;", true)
  | 15 => ("StruckCounts", "backs", "[I", true)
  | 16 => ("StruckCounts", "askedUpper", "J", false)
  | _ => ("StruckCounts", "askedLower", "J", false)
def tyX11 : Nat → FieldType := fun k => match k with
  | 0 => .object "StruckCounts$Text"
  | 1 => .object "StruckCounts$Tokens"
  | 2 => .object "StruckCounts$Seer"
  | 3 => .object "StruckCounts$Law"
  | 4 => .object "StruckCounts$Law"
  | 5 => .object "StruckCounts$State"
  | 6 => .object "StruckCounts$State"
  | 7 => .object "StruckCounts$Parser"
  | 8 => .object "StruckCounts$History"
  | 9 => .object "StruckCounts$Worlds"
  | 10 => .object "StruckCounts$Worlds"
  | 11 => .object "StruckCounts$Worlds"
  | 12 => .object "StruckCounts$Tree"
  | 13 => .object "StruckCounts$Picks"
  | 14 => .object "StruckCounts$Tally"
  | 15 => .array .int
  | 16 => .long
  | _ => .long
abbrev wsX110 : List Cond := u_ws RX11 TX11 18
theorem nmX11 : ∀ a, a < 18 → ∀ b, b < 18 → a ≠ b → (TX11 a).2.1 ≠ (TX11 b).2.1 := by decide +kernel
theorem tyX11_ok : ∀ k, k < 18 → parseFieldDescriptor (TX11 k).2.2.1 = some (tyX11 k) := by decide +kernel
def RX12 : String := "StruckCountsModel"
def TX12 : u_T := fun k => match k with
  | 0 => ("StruckCountsModel", "told", "[I", true)
  | 1 => ("StruckCountsModel", "read", "[I", true)
  | 2 => ("StruckCountsModel", "names", "[J", true)
  | 3 => ("StruckCountsModel", "readNames", "[J", true)
  | 4 => ("StruckCountsModel", "now", "[I", true)
  | 5 => ("StruckCountsModel", "past", "[I", true)
  | 6 => ("StruckCountsModel", "kept", "[I", true)
  | 7 => ("StruckCountsModel", "isKept", "[Z", true)
  | 8 => ("StruckCountsModel", "acts", "I", false)
  | 9 => ("StruckCountsModel", "tape", "[I", true)
  | 10 => ("StruckCountsModel", "taped", "I", false)
  | 11 => ("StruckCountsModel", "size", "I", false)
  | 12 => ("StruckCountsModel", "head", "I", false)
  | 13 => ("StruckCountsModel", "begin", "I", false)
  | 14 => ("StruckCountsModel", "token", "I", false)
  | 15 => ("StruckCountsModel", "value", "I", false)
  | 16 => ("StruckCountsModel", "open", "I", false)
  | 17 => ("StruckCountsModel", "bad", "I", false)
  | 18 => ("StruckCountsModel", "badAt", "I", false)
  | 19 => ("StruckCountsModel", "fault", "I", false)
  | 20 => ("StruckCountsModel", "faultAt", "I", false)
  | 21 => ("StruckCountsModel", "word", "J", false)
  | 22 => ("StruckCountsModel", "isLimitTold", "Z", false)
  | 23 => ("StruckCountsModel", "pile", "[I", true)
  | 24 => ("StruckCountsModel", "can", "[I", true)
  | 25 => ("StruckCountsModel", "table", "[I", true)
  | 26 => ("StruckCountsModel", "wonIn", "[I", true)
  | 27 => ("StruckCountsModel", "knownIn", "[I", true)
  | 28 => ("StruckCountsModel", "agreed", "[I", true)
  | 29 => ("StruckCountsModel", "backs", "[I", true)
  | 30 => ("StruckCountsModel", "injury", "[I", true)
  | 31 => ("StruckCountsModel", "foundFacts", "I", false)
  | 32 => ("StruckCountsModel", "foundSo", "I", false)
  | 33 => ("StruckCountsModel", "left", "[I", true)
  | 34 => ("StruckCountsModel", "won", "[I", true)
  | 35 => ("StruckCountsModel", "best", "[I", true)
  | 36 => ("StruckCountsModel", "top", "J", false)
  | 37 => ("StruckCountsModel", "bottom", "J", false)
  | 38 => ("StruckCountsModel", "wins", "[I", true)
  | 39 => ("StruckCountsModel", "isAsked", "Z", false)
  | 40 => ("StruckCountsModel", "askedTop", "J", false)
  | _ => ("StruckCountsModel", "askedBottom", "J", false)
def tyX12 : Nat → FieldType := fun k => match k with
  | 0 => .array .int
  | 1 => .array .int
  | 2 => .array .long
  | 3 => .array .long
  | 4 => .array .int
  | 5 => .array .int
  | 6 => .array .int
  | 7 => .array .boolean
  | 8 => .int
  | 9 => .array .int
  | 10 => .int
  | 11 => .int
  | 12 => .int
  | 13 => .int
  | 14 => .int
  | 15 => .int
  | 16 => .int
  | 17 => .int
  | 18 => .int
  | 19 => .int
  | 20 => .int
  | 21 => .long
  | 22 => .boolean
  | 23 => .array .int
  | 24 => .array .int
  | 25 => .array .int
  | 26 => .array .int
  | 27 => .array .int
  | 28 => .array .int
  | 29 => .array .int
  | 30 => .array .int
  | 31 => .int
  | 32 => .int
  | 33 => .array .int
  | 34 => .array .int
  | 35 => .array .int
  | 36 => .long
  | 37 => .long
  | 38 => .array .int
  | 39 => .boolean
  | 40 => .long
  | _ => .long
abbrev wsX120 : List Cond := u_ws RX12 TX12 42
theorem nmX12 : ∀ a, a < 42 → ∀ b, b < 42 → a ≠ b → (TX12 a).2.1 ≠ (TX12 b).2.1 := by decide +kernel
theorem tyX12_ok : ∀ k, k < 42 → parseFieldDescriptor (TX12 k).2.2.1 = some (tyX12 k) := by decide +kernel
def cls0 : List (vw_C × (Nat → FieldType)) := [((RX0, TX0, 5), tyX0), ((RX1, TX1, 20), tyX1), ((RX2, TX2, 9), tyX2), ((RX3, TX3, 5), tyX3), ((RX4, TX4, 7), tyX4), ((RX5, TX5, 15), tyX5), ((RX6, TX6, 6), tyX6), ((RX7, TX7, 2), tyX7), ((RX8, TX8, 5), tyX8), ((RX9, TX9, 5), tyX9), ((RX10, TX10, 1), tyX10), ((RX11, TX11, 18), tyX11), ((RX12, TX12, 42), tyX12)]
def refs0 : List (Nat × String) := [(5, RX5), (10, RX10)]
abbrev CF (c : Nat) (C : String) (T : u_T) (N : Nat) (ty : Nat → FieldType) : Prop :=
  cls0[c]? = some ((C, T, N), ty) ∧ (∀ w ∈ u_ws C T N, w ∈ TB) ∧ (∀ k, k < N → parseFieldDescriptor (T k).2.2.1 = some (ty k)) ∧ ∀ a, a < N → ∀ b, b < N → a ≠ b → (T a).2.1 ≠ (T b).2.1
theorem cf0 : CF 0 RX0 TX0 5 tyX0 := ⟨rfl, by decide +kernel, tyX0_ok, nmX0⟩
theorem cf1 : CF 1 RX1 TX1 20 tyX1 := ⟨rfl, by decide +kernel, tyX1_ok, nmX1⟩
theorem cf2 : CF 2 RX2 TX2 9 tyX2 := ⟨rfl, by decide +kernel, tyX2_ok, nmX2⟩
theorem cf3 : CF 3 RX3 TX3 5 tyX3 := ⟨rfl, by decide +kernel, tyX3_ok, nmX3⟩
theorem cf4 : CF 4 RX4 TX4 7 tyX4 := ⟨rfl, by decide +kernel, tyX4_ok, nmX4⟩
theorem cf5 : CF 5 RX5 TX5 15 tyX5 := ⟨rfl, by decide +kernel, tyX5_ok, nmX5⟩
theorem cf6 : CF 6 RX6 TX6 6 tyX6 := ⟨rfl, by decide +kernel, tyX6_ok, nmX6⟩
theorem cf7 : CF 7 RX7 TX7 2 tyX7 := ⟨rfl, by decide +kernel, tyX7_ok, nmX7⟩
theorem cf8 : CF 8 RX8 TX8 5 tyX8 := ⟨rfl, by decide +kernel, tyX8_ok, nmX8⟩
theorem cf9 : CF 9 RX9 TX9 5 tyX9 := ⟨rfl, by decide +kernel, tyX9_ok, nmX9⟩
theorem cf10 : CF 10 RX10 TX10 1 tyX10 := ⟨rfl, by decide +kernel, tyX10_ok, nmX10⟩
theorem cf11 : CF 11 RX11 TX11 18 tyX11 := ⟨rfl, by decide +kernel, tyX11_ok, nmX11⟩
theorem cf12 : CF 12 RX12 TX12 42 tyX12 := ⟨rfl, by decide +kernel, tyX12_ok, nmX12⟩
