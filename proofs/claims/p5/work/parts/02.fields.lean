def RX0 : String := "HeldCoats$Book"
def TX0 : u_T := fun k => match k with
  | 0 => ("HeldCoats$Book", "act", "[I", true)
  | 1 => ("HeldCoats$Book", "first", "[I", true)
  | 2 => ("HeldCoats$Book", "second", "[I", true)
  | 3 => ("HeldCoats$Book", "verdict", "[I", true)
  | _ => ("HeldCoats$Book", "lines", "I", false)
def tyX0 : Nat → FieldType := fun k => match k with
  | 0 => .array .int
  | 1 => .array .int
  | 2 => .array .int
  | 3 => .array .int
  | _ => .int
theorem nmX0 : ∀ a, a < 5 → ∀ b, b < 5 → a ≠ b → (TX0 a).2.1 ≠ (TX0 b).2.1 := by decide +kernel
theorem tyX0_ok : ∀ k, k < 5 → parseFieldDescriptor (TX0 k).2.2.1 = some (tyX0 k) := by decide +kernel
def RX1 : String := "HeldCoats$Counsel"
def TX1 : u_T := fun k => match k with
  | 0 => ("HeldCoats$Counsel", "law", "LHeldCoats$Law;", true)
  | 1 => ("HeldCoats$Counsel", "state", "LHeldCoats$State;", true)
  | 2 => ("HeldCoats$Counsel", "trial", "LHeldCoats$State;", true)
  | 3 => ("HeldCoats$Counsel", "worthOfBest", "[I", true)
  | 4 => ("HeldCoats$Counsel", "hung", "[I", true)
  | 5 => ("HeldCoats$Counsel", "owned", "[I", true)
  | 6 => ("HeldCoats$Counsel", "latestLaid", "I", false)
  | 7 => ("HeldCoats$Counsel", "latestTurns", "I", false)
  | 8 => ("HeldCoats$Counsel", "latestSurely", "I", false)
  | 9 => ("HeldCoats$Counsel", "latestNever", "I", false)
  | 10 => ("HeldCoats$Counsel", "latestPrice", "I", false)
  | 11 => ("HeldCoats$Counsel", "standing", "I", false)
  | 12 => ("HeldCoats$Counsel", "givenInAt", "I", false)
  | _ => ("HeldCoats$Counsel", "seedNow", "I", false)
def tyX1 : Nat → FieldType := fun k => match k with
  | 0 => .object "HeldCoats$Law"
  | 1 => .object "HeldCoats$State"
  | 2 => .object "HeldCoats$State"
  | 3 => .array .int
  | 4 => .array .int
  | 5 => .array .int
  | 6 => .int
  | 7 => .int
  | 8 => .int
  | 9 => .int
  | 10 => .int
  | 11 => .int
  | 12 => .int
  | _ => .int
theorem nmX1 : ∀ a, a < 14 → ∀ b, b < 14 → a ≠ b → (TX1 a).2.1 ≠ (TX1 b).2.1 := by decide +kernel
theorem tyX1_ok : ∀ k, k < 14 → parseFieldDescriptor (TX1 k).2.2.1 = some (tyX1 k) := by decide +kernel
def RX2 : String := "HeldCoats$Image"
def TX2 : u_T := fun k => match k with
  | 0 => ("HeldCoats$Image", "law", "LHeldCoats$Law;", true)
  | 1 => ("HeldCoats$Image", "state", "LHeldCoats$State;", true)
  | 2 => ("HeldCoats$Image", "sentence", "LHeldCoats$Sentence;", true)
  | _ => ("HeldCoats$Image", "taken", "Z", false)
def tyX2 : Nat → FieldType := fun k => match k with
  | 0 => .object "HeldCoats$Law"
  | 1 => .object "HeldCoats$State"
  | 2 => .object "HeldCoats$Sentence"
  | _ => .boolean
theorem nmX2 : ∀ a, a < 4 → ∀ b, b < 4 → a ≠ b → (TX2 a).2.1 ≠ (TX2 b).2.1 := by decide +kernel
theorem tyX2_ok : ∀ k, k < 4 → parseFieldDescriptor (TX2 k).2.2.1 = some (tyX2 k) := by decide +kernel
def RX3 : String := "HeldCoats$Law"
def TX3 : u_T := fun k => match k with
  | 0 => ("HeldCoats$Law", "seats", "I", false)
  | 1 => ("HeldCoats$Law", "men", "I", false)
  | 2 => ("HeldCoats$Law", "coats", "I", false)
  | 3 => ("HeldCoats$Law", "colds", "I", false)
  | 4 => ("HeldCoats$Law", "summer", "I", false)
  | 5 => ("HeldCoats$Law", "holds", "I", false)
  | 6 => ("HeldCoats$Law", "moths", "I", false)
  | 7 => ("HeldCoats$Law", "limit", "I", false)
  | 8 => ("HeldCoats$Law", "worth", "[I", true)
  | 9 => ("HeldCoats$Law", "hardy", "[I", true)
  | 10 => ("HeldCoats$Law", "owner", "[I", true)
  | 11 => ("HeldCoats$Law", "warmth", "[I", true)
  | 12 => ("HeldCoats$Law", "newCloth", "[I", true)
  | 13 => ("HeldCoats$Law", "coldFrom", "[I", true)
  | 14 => ("HeldCoats$Law", "cold", "[I", true)
  | _ => ("HeldCoats$Law", "names", "LHeldCoats$Names;", true)
def tyX3 : Nat → FieldType := fun k => match k with
  | 0 => .int
  | 1 => .int
  | 2 => .int
  | 3 => .int
  | 4 => .int
  | 5 => .int
  | 6 => .int
  | 7 => .int
  | 8 => .array .int
  | 9 => .array .int
  | 10 => .array .int
  | 11 => .array .int
  | 12 => .array .int
  | 13 => .array .int
  | 14 => .array .int
  | _ => .object "HeldCoats$Names"
theorem nmX3 : ∀ a, a < 16 → ∀ b, b < 16 → a ≠ b → (TX3 a).2.1 ≠ (TX3 b).2.1 := by decide +kernel
theorem tyX3_ok : ∀ k, k < 16 → parseFieldDescriptor (TX3 k).2.2.1 = some (tyX3 k) := by decide +kernel
def RX4 : String := "HeldCoats$LawReader"
def TX4 : u_T := fun k => match k with
  | 0 => ("HeldCoats$LawReader", "tape", "LHeldCoats$Tape;", true)
  | 1 => ("HeldCoats$LawReader", "draft", "LHeldCoats$Law;", true)
  | 2 => ("HeldCoats$LawReader", "lines", "I", false)
  | _ => ("HeldCoats$LawReader", "onceTold", "I", false)
def tyX4 : Nat → FieldType := fun k => match k with
  | 0 => .object "HeldCoats$Tape"
  | 1 => .object "HeldCoats$Law"
  | 2 => .int
  | _ => .int
theorem nmX4 : ∀ a, a < 4 → ∀ b, b < 4 → a ≠ b → (TX4 a).2.1 ≠ (TX4 b).2.1 := by decide +kernel
theorem tyX4_ok : ∀ k, k < 4 → parseFieldDescriptor (TX4 k).2.2.1 = some (tyX4 k) := by decide +kernel
def RX5 : String := "HeldCoats$Names"
def TX5 : u_T := fun k => match k with
  | 0 => ("HeldCoats$Names", "spelled", "[J", true)
  | 1 => ("HeldCoats$Names", "sort", "[I", true)
  | 2 => ("HeldCoats$Names", "number", "[I", true)
  | _ => ("HeldCoats$Names", "size", "I", false)
def tyX5 : Nat → FieldType := fun k => match k with
  | 0 => .array .long
  | 1 => .array .int
  | 2 => .array .int
  | _ => .int
theorem nmX5 : ∀ a, a < 4 → ∀ b, b < 4 → a ≠ b → (TX5 a).2.1 ≠ (TX5 b).2.1 := by decide +kernel
theorem tyX5_ok : ∀ k, k < 4 → parseFieldDescriptor (TX5 k).2.2.1 = some (tyX5 k) := by decide +kernel
def RX6 : String := "HeldCoats$Past"
def TX6 : u_T := fun k => match k with
  | 0 => ("HeldCoats$Past", "rows", "[LHeldCoats$State;", true)
  | 1 => ("HeldCoats$Past", "next", "I", false)
  | _ => ("HeldCoats$Past", "size", "I", false)
def tyX6 : Nat → FieldType := fun k => match k with
  | 0 => .array (.object "HeldCoats$State")
  | 1 => .int
  | _ => .int
theorem nmX6 : ∀ a, a < 3 → ∀ b, b < 3 → a ≠ b → (TX6 a).2.1 ≠ (TX6 b).2.1 := by decide +kernel
theorem tyX6_ok : ∀ k, k < 3 → parseFieldDescriptor (TX6 k).2.2.1 = some (tyX6 k) := by decide +kernel
def RX7 : String := "HeldCoats$Sentence"
def TX7 : u_T := fun k => match k with
  | 0 => ("HeldCoats$Sentence", "step", "[I", true)
  | 1 => ("HeldCoats$Sentence", "sign", "[I", true)
  | 2 => ("HeldCoats$Sentence", "number", "[I", true)
  | 3 => ("HeldCoats$Sentence", "heap", "[I", true)
  | 4 => ("HeldCoats$Sentence", "steps", "I", false)
  | _ => ("HeldCoats$Sentence", "ones", "I", false)
def tyX7 : Nat → FieldType := fun k => match k with
  | 0 => .array .int
  | 1 => .array .int
  | 2 => .array .int
  | 3 => .array .int
  | 4 => .int
  | _ => .int
theorem nmX7 : ∀ a, a < 6 → ∀ b, b < 6 → a ≠ b → (TX7 a).2.1 ≠ (TX7 b).2.1 := by decide +kernel
theorem tyX7_ok : ∀ k, k < 6 → parseFieldDescriptor (TX7 k).2.2.1 = some (tyX7 k) := by decide +kernel
def RX8 : String := "HeldCoats$SentenceReader"
def TX8 : u_T := fun k => match k with
  | 0 => ("HeldCoats$SentenceReader", "tape", "LHeldCoats$Tape;", true)
  | 1 => ("HeldCoats$SentenceReader", "draft", "LHeldCoats$Sentence;", true)
  | _ => ("HeldCoats$SentenceReader", "names", "LHeldCoats$Names;", false)
def tyX8 : Nat → FieldType := fun k => match k with
  | 0 => .object "HeldCoats$Tape"
  | 1 => .object "HeldCoats$Sentence"
  | _ => .object "HeldCoats$Names"
theorem nmX8 : ∀ a, a < 3 → ∀ b, b < 3 → a ≠ b → (TX8 a).2.1 ≠ (TX8 b).2.1 := by decide +kernel
theorem tyX8_ok : ∀ k, k < 3 → parseFieldDescriptor (TX8 k).2.2.1 = some (tyX8 k) := by decide +kernel
def RX9 : String := "HeldCoats$State"
def TX9 : u_T := fun k => match k with
  | 0 => ("HeldCoats$State", "law", "LHeldCoats$Law;", true)
  | 1 => ("HeldCoats$State", "day", "I", false)
  | 2 => ("HeldCoats$State", "bareDays", "I", false)
  | 3 => ("HeldCoats$State", "firstBare", "I", false)
  | 4 => ("HeldCoats$State", "queued", "I", false)
  | 5 => ("HeldCoats$State", "where", "[I", true)
  | 6 => ("HeldCoats$State", "cloth", "[I", true)
  | 7 => ("HeldCoats$State", "user", "[I", true)
  | 8 => ("HeldCoats$State", "lain", "[I", true)
  | 9 => ("HeldCoats$State", "line", "[I", true)
  | 10 => ("HeldCoats$State", "harm", "[I", true)
  | 11 => ("HeldCoats$State", "ruled", "[I", true)
  | _ => ("HeldCoats$State", "tally", "[I", true)
def tyX9 : Nat → FieldType := fun k => match k with
  | 0 => .object "HeldCoats$Law"
  | 1 => .int
  | 2 => .int
  | 3 => .int
  | 4 => .int
  | 5 => .array .int
  | 6 => .array .int
  | 7 => .array .int
  | 8 => .array .int
  | 9 => .array .int
  | 10 => .array .int
  | 11 => .array .int
  | _ => .array .int
theorem nmX9 : ∀ a, a < 13 → ∀ b, b < 13 → a ≠ b → (TX9 a).2.1 ≠ (TX9 b).2.1 := by decide +kernel
theorem tyX9_ok : ∀ k, k < 13 → parseFieldDescriptor (TX9 k).2.2.1 = some (tyX9 k) := by decide +kernel
def RX10 : String := "HeldCoats$Tape"
def TX10 : u_T := fun k => match k with
  | 0 => ("HeldCoats$Tape", "bytes", "[I", true)
  | 1 => ("HeldCoats$Tape", "words", "[J", true)
  | 2 => ("HeldCoats$Tape", "size", "I", false)
  | 3 => ("HeldCoats$Tape", "most", "I", false)
  | 4 => ("HeldCoats$Tape", "place", "I", false)
  | 5 => ("HeldCoats$Tape", "behind", "I", false)
  | 6 => ("HeldCoats$Tape", "kind", "I", false)
  | 7 => ("HeldCoats$Tape", "value", "I", false)
  | 8 => ("HeldCoats$Tape", "spelled", "J", false)
  | 9 => ("HeldCoats$Tape", "faultKind", "I", false)
  | _ => ("HeldCoats$Tape", "faultPlace", "I", false)
def tyX10 : Nat → FieldType := fun k => match k with
  | 0 => .array .int
  | 1 => .array .long
  | 2 => .int
  | 3 => .int
  | 4 => .int
  | 5 => .int
  | 6 => .int
  | 7 => .int
  | 8 => .long
  | 9 => .int
  | _ => .int
theorem nmX10 : ∀ a, a < 11 → ∀ b, b < 11 → a ≠ b → (TX10 a).2.1 ≠ (TX10 b).2.1 := by decide +kernel
theorem tyX10_ok : ∀ k, k < 11 → parseFieldDescriptor (TX10 k).2.2.1 = some (tyX10 k) := by decide +kernel
def RX11 : String := "HeldCoats"
def TX11 : u_T := fun k => match k with
  | 0 => ("HeldCoats", "tape", "LHeldCoats$Tape;", true)
  | 1 => ("HeldCoats", "law", "LHeldCoats$Law;", true)
  | 2 => ("HeldCoats", "lawReader", "LHeldCoats$LawReader;", true)
  | 3 => ("HeldCoats", "state", "LHeldCoats$State;", true)
  | 4 => ("HeldCoats", "past", "LHeldCoats$Past;", true)
  | 5 => ("HeldCoats", "sentence", "LHeldCoats$Sentence;", true)
  | 6 => ("HeldCoats", "sentenceReader", "LHeldCoats$SentenceReader;", true)
  | 7 => ("HeldCoats", "script", "LHeldCoats$Book;", true)
  | 8 => ("HeldCoats", "counsel", "LHeldCoats$Counsel;", true)
  | 9 => ("HeldCoats", "images", "[LHeldCoats$Image;", true)
  | _ => ("HeldCoats", "latestFault", "I", false)
def tyX11 : Nat → FieldType := fun k => match k with
  | 0 => .object "HeldCoats$Tape"
  | 1 => .object "HeldCoats$Law"
  | 2 => .object "HeldCoats$LawReader"
  | 3 => .object "HeldCoats$State"
  | 4 => .object "HeldCoats$Past"
  | 5 => .object "HeldCoats$Sentence"
  | 6 => .object "HeldCoats$SentenceReader"
  | 7 => .object "HeldCoats$Book"
  | 8 => .object "HeldCoats$Counsel"
  | 9 => .array (.object "HeldCoats$Image")
  | _ => .int
theorem nmX11 : ∀ a, a < 11 → ∀ b, b < 11 → a ≠ b → (TX11 a).2.1 ≠ (TX11 b).2.1 := by decide +kernel
theorem tyX11_ok : ∀ k, k < 11 → parseFieldDescriptor (TX11 k).2.2.1 = some (tyX11 k) := by decide +kernel
def RX12 : String := "HeldCoatsModel"
def TX12 : u_T := fun k => match k with
  | 0 => ("HeldCoatsModel", "thrown", "I", false)
  | 1 => ("HeldCoatsModel", "tape", "[B", true)
  | 2 => ("HeldCoatsModel", "length", "I", false)
  | 3 => ("HeldCoatsModel", "size", "I", false)
  | 4 => ("HeldCoatsModel", "p", "I", false)
  | 5 => ("HeldCoatsModel", "limit", "I", false)
  | 6 => ("HeldCoatsModel", "s", "[I", true)
  | 7 => ("HeldCoatsModel", "h", "[I", true)
  | 8 => ("HeldCoatsModel", "read", "[I", true)
  | 9 => ("HeldCoatsModel", "names", "[J", true)
  | 10 => ("HeldCoatsModel", "reserved", "[J", true)
  | 11 => ("HeldCoatsModel", "token", "I", false)
  | 12 => ("HeldCoatsModel", "at", "I", false)
  | 13 => ("HeldCoatsModel", "span", "I", false)
  | 14 => ("HeldCoatsModel", "number", "I", false)
  | 15 => ("HeldCoatsModel", "fault", "I", false)
  | 16 => ("HeldCoatsModel", "faultAt", "I", false)
  | 17 => ("HeldCoatsModel", "word", "J", false)
  | 18 => ("HeldCoatsModel", "got", "I", false)
  | 19 => ("HeldCoatsModel", "lines", "I", false)
  | 20 => ("HeldCoatsModel", "onces", "I", false)
  | 21 => ("HeldCoatsModel", "undone", "[I", true)
  | 22 => ("HeldCoatsModel", "before", "[I", true)
  | 23 => ("HeldCoatsModel", "undoMany", "I", false)
  | 24 => ("HeldCoatsModel", "laidSet", "I", false)
  | 25 => ("HeldCoatsModel", "hasLaid", "Z", false)
  | 26 => ("HeldCoatsModel", "turnSet", "I", false)
  | 27 => ("HeldCoatsModel", "hasTurns", "Z", false)
  | 28 => ("HeldCoatsModel", "frostDay", "I", false)
  | 29 => ("HeldCoatsModel", "surelySet", "I", false)
  | 30 => ("HeldCoatsModel", "neverSet", "I", false)
  | 31 => ("HeldCoatsModel", "hasHooks", "Z", false)
  | 32 => ("HeldCoatsModel", "sat", "[I", true)
  | 33 => ("HeldCoatsModel", "priceNow", "I", false)
  | 34 => ("HeldCoatsModel", "hasPrice", "Z", false)
  | 35 => ("HeldCoatsModel", "seed", "I", false)
  | 36 => ("HeldCoatsModel", "toldMany", "I", false)
  | 37 => ("HeldCoatsModel", "toldAt", "[I", true)
  | 38 => ("HeldCoatsModel", "hasTold", "Z", false)
  | 39 => ("HeldCoatsModel", "stack", "[I", true)
  | 40 => ("HeldCoatsModel", "codes", "I", false)
  | 41 => ("HeldCoatsModel", "ones", "I", false)
  | 42 => ("HeldCoatsModel", "top", "I", false)
  | 43 => ("HeldCoatsModel", "deep", "I", false)
  | 44 => ("HeldCoatsModel", "isWhole", "Z", false)
  | 45 => ("HeldCoatsModel", "truths", "[Z", true)
  | 46 => ("HeldCoatsModel", "kept", "[I", true)
  | 47 => ("HeldCoatsModel", "namesKept", "[J", true)
  | _ => ("HeldCoatsModel", "areKept", "[Z", true)
def tyX12 : Nat → FieldType := fun k => match k with
  | 0 => .int
  | 1 => .array .byte
  | 2 => .int
  | 3 => .int
  | 4 => .int
  | 5 => .int
  | 6 => .array .int
  | 7 => .array .int
  | 8 => .array .int
  | 9 => .array .long
  | 10 => .array .long
  | 11 => .int
  | 12 => .int
  | 13 => .int
  | 14 => .int
  | 15 => .int
  | 16 => .int
  | 17 => .long
  | 18 => .int
  | 19 => .int
  | 20 => .int
  | 21 => .array .int
  | 22 => .array .int
  | 23 => .int
  | 24 => .int
  | 25 => .boolean
  | 26 => .int
  | 27 => .boolean
  | 28 => .int
  | 29 => .int
  | 30 => .int
  | 31 => .boolean
  | 32 => .array .int
  | 33 => .int
  | 34 => .boolean
  | 35 => .int
  | 36 => .int
  | 37 => .array .int
  | 38 => .boolean
  | 39 => .array .int
  | 40 => .int
  | 41 => .int
  | 42 => .int
  | 43 => .int
  | 44 => .boolean
  | 45 => .array .boolean
  | 46 => .array .int
  | 47 => .array .long
  | _ => .array .boolean
theorem nmX12 : ∀ a, a < 49 → ∀ b, b < 49 → a ≠ b → (TX12 a).2.1 ≠ (TX12 b).2.1 := by decide +kernel
theorem tyX12_ok : ∀ k, k < 49 → parseFieldDescriptor (TX12 k).2.2.1 = some (tyX12 k) := by decide +kernel
abbrev vwCl : List vw_C := [(RX0, TX0, 5), (RX1, TX1, 14), (RX2, TX2, 4), (RX3, TX3, 16), (RX4, TX4, 4), (RX5, TX5, 4), (RX6, TX6, 3), (RX7, TX7, 6), (RX8, TX8, 3), (RX9, TX9, 13), (RX10, TX10, 11), (RX11, TX11, 11), (RX12, TX12, 49)]
def zTF (ci k : Nat) : FieldType := match ci with
  | 0 => tyX0 k
  | 1 => tyX1 k
  | 2 => tyX2 k
  | 3 => tyX3 k
  | 4 => tyX4 k
  | 5 => tyX5 k
  | 6 => tyX6 k
  | 7 => tyX7 k
  | 8 => tyX8 k
  | 9 => tyX9 k
  | 10 => tyX10 k
  | 11 => tyX11 k
  | _ => tyX12 k
def zDF (ci : Nat) : List zV := match ci with
  | 0 => [.inr (.inl none), .inr (.inl none), .inr (.inl none), .inr (.inl none), .inl (.inl (some 0))]
  | 1 => [.inr (.inl none), .inr (.inl none), .inr (.inl none), .inr (.inl none), .inr (.inl none), .inr (.inl none), .inl (.inl (some 0)), .inl (.inl (some 0)), .inl (.inl (some 0)), .inl (.inl (some 0)), .inl (.inl (some 0)), .inl (.inl (some 0)), .inl (.inl (some 0)), .inl (.inl (some 0))]
  | 2 => [.inr (.inl none), .inr (.inl none), .inr (.inl none), .inl (.inl (some 0))]
  | 3 => [.inl (.inl (some 0)), .inl (.inl (some 0)), .inl (.inl (some 0)), .inl (.inl (some 0)), .inl (.inl (some 0)), .inl (.inl (some 0)), .inl (.inl (some 0)), .inl (.inl (some 0)), .inr (.inl none), .inr (.inl none), .inr (.inl none), .inr (.inl none), .inr (.inl none), .inr (.inl none), .inr (.inl none), .inr (.inl none)]
  | 4 => [.inr (.inl none), .inr (.inl none), .inl (.inl (some 0)), .inl (.inl (some 0))]
  | 5 => [.inr (.inl none), .inr (.inl none), .inr (.inl none), .inl (.inl (some 0))]
  | 6 => [.inr (.inl none), .inl (.inl (some 0)), .inl (.inl (some 0))]
  | 7 => [.inr (.inl none), .inr (.inl none), .inr (.inl none), .inr (.inl none), .inl (.inl (some 0)), .inl (.inl (some 0))]
  | 8 => [.inr (.inl none), .inr (.inl none), .inr (.inl none)]
  | 9 => [.inr (.inl none), .inl (.inl (some 0)), .inl (.inl (some 0)), .inl (.inl (some 0)), .inl (.inl (some 0)), .inr (.inl none), .inr (.inl none), .inr (.inl none), .inr (.inl none), .inr (.inl none), .inr (.inl none), .inr (.inl none), .inr (.inl none)]
  | 10 => [.inr (.inl none), .inr (.inl none), .inl (.inl (some 0)), .inl (.inl (some 0)), .inl (.inl (some 0)), .inl (.inl (some 0)), .inl (.inl (some 0)), .inl (.inl (some 0)), .inr (.inr none), .inl (.inl (some 0)), .inl (.inl (some 0))]
  | 11 => [.inr (.inl none), .inr (.inl none), .inr (.inl none), .inr (.inl none), .inr (.inl none), .inr (.inl none), .inr (.inl none), .inr (.inl none), .inr (.inl none), .inr (.inl none), .inl (.inl (some 0))]
  | _ => [.inl (.inl (some 0)), .inr (.inl none), .inl (.inl (some 0)), .inl (.inl (some 0)), .inl (.inl (some 0)), .inl (.inl (some 0)), .inr (.inl none), .inr (.inl none), .inr (.inl none), .inr (.inl none), .inr (.inl none), .inl (.inl (some 0)), .inl (.inl (some 0)), .inl (.inl (some 0)), .inl (.inl (some 0)), .inl (.inl (some 0)), .inl (.inl (some 0)), .inr (.inr none), .inl (.inl (some 0)), .inl (.inl (some 0)), .inl (.inl (some 0)), .inr (.inl none), .inr (.inl none), .inl (.inl (some 0)), .inl (.inl (some 0)), .inl (.inl (some 0)), .inl (.inl (some 0)), .inl (.inl (some 0)), .inl (.inl (some 0)), .inl (.inl (some 0)), .inl (.inl (some 0)), .inl (.inl (some 0)), .inr (.inl none), .inl (.inl (some 0)), .inl (.inl (some 0)), .inl (.inl (some 0)), .inl (.inl (some 0)), .inr (.inl none), .inl (.inl (some 0)), .inr (.inl none), .inl (.inl (some 0)), .inl (.inl (some 0)), .inl (.inl (some 0)), .inl (.inl (some 0)), .inl (.inl (some 0)), .inr (.inl none), .inr (.inl none), .inr (.inl none), .inr (.inl none)]
theorem zD_0 : (zDF 0).all z_dok = true := by decide +kernel
theorem zDD_0 : ∀ j, j < 5 → defaultValue (zTF 0 j) = vp_V ((zDF 0).map z_dv) j := by decide +kernel
theorem zD_1 : (zDF 1).all z_dok = true := by decide +kernel
theorem zDD_1 : ∀ j, j < 14 → defaultValue (zTF 1 j) = vp_V ((zDF 1).map z_dv) j := by decide +kernel
theorem zD_2 : (zDF 2).all z_dok = true := by decide +kernel
theorem zDD_2 : ∀ j, j < 4 → defaultValue (zTF 2 j) = vp_V ((zDF 2).map z_dv) j := by decide +kernel
theorem zD_3 : (zDF 3).all z_dok = true := by decide +kernel
theorem zDD_3 : ∀ j, j < 16 → defaultValue (zTF 3 j) = vp_V ((zDF 3).map z_dv) j := by decide +kernel
theorem zD_4 : (zDF 4).all z_dok = true := by decide +kernel
theorem zDD_4 : ∀ j, j < 4 → defaultValue (zTF 4 j) = vp_V ((zDF 4).map z_dv) j := by decide +kernel
theorem zD_5 : (zDF 5).all z_dok = true := by decide +kernel
theorem zDD_5 : ∀ j, j < 4 → defaultValue (zTF 5 j) = vp_V ((zDF 5).map z_dv) j := by decide +kernel
theorem zD_6 : (zDF 6).all z_dok = true := by decide +kernel
theorem zDD_6 : ∀ j, j < 3 → defaultValue (zTF 6 j) = vp_V ((zDF 6).map z_dv) j := by decide +kernel
theorem zD_7 : (zDF 7).all z_dok = true := by decide +kernel
theorem zDD_7 : ∀ j, j < 6 → defaultValue (zTF 7 j) = vp_V ((zDF 7).map z_dv) j := by decide +kernel
theorem zD_8 : (zDF 8).all z_dok = true := by decide +kernel
theorem zDD_8 : ∀ j, j < 3 → defaultValue (zTF 8 j) = vp_V ((zDF 8).map z_dv) j := by decide +kernel
theorem zD_9 : (zDF 9).all z_dok = true := by decide +kernel
theorem zDD_9 : ∀ j, j < 13 → defaultValue (zTF 9 j) = vp_V ((zDF 9).map z_dv) j := by decide +kernel
theorem zD_10 : (zDF 10).all z_dok = true := by decide +kernel
theorem zDD_10 : ∀ j, j < 11 → defaultValue (zTF 10 j) = vp_V ((zDF 10).map z_dv) j := by decide +kernel
theorem zD_11 : (zDF 11).all z_dok = true := by decide +kernel
theorem zDD_11 : ∀ j, j < 11 → defaultValue (zTF 11 j) = vp_V ((zDF 11).map z_dv) j := by decide +kernel
theorem zD_12 : (zDF 12).all z_dok = true := by decide +kernel
theorem zDD_12 : ∀ j, j < 49 → defaultValue (zTF 12 j) = vp_V ((zDF 12).map z_dv) j := by decide +kernel
