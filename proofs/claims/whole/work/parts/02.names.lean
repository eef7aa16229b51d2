def RX0 : String := "CommaCopies$Chance"
def TX0 : u_T := fun k => match k with
  | _ => ("CommaCopies$Chance", "ways", "[I", true)
def tyX0 : Nat → FieldType := fun k => match k with
  | _ => .array .int
theorem nmX0 : ∀ a, a < 1 → ∀ b, b < 1 → a ≠ b → (TX0 a).2.1 ≠ (TX0 b).2.1 := by decide +kernel
theorem tyX0_ok : ∀ k, k < 1 → parseFieldDescriptor (TX0 k).2.2.1 = some (tyX0 k) := by decide +kernel
def RX1 : String := "CommaCopies$Hiding"
def TX1 : u_T := fun k => match k with
  | 0 => ("CommaCopies$Hiding", "gains", "[I", true)
  | 1 => ("CommaCopies$Hiding", "row", "[I", true)
  | 2 => ("CommaCopies$Hiding", "best", "[I", true)
  | _ => ("CommaCopies$Hiding", "least", "I", false)
def tyX1 : Nat → FieldType := fun k => match k with
  | 0 => .array .int
  | 1 => .array .int
  | 2 => .array .int
  | _ => .int
theorem nmX1 : ∀ a, a < 4 → ∀ b, b < 4 → a ≠ b → (TX1 a).2.1 ≠ (TX1 b).2.1 := by decide +kernel
theorem tyX1_ok : ∀ k, k < 4 → parseFieldDescriptor (TX1 k).2.2.1 = some (tyX1 k) := by decide +kernel
def RX2 : String := "CommaCopies$Joins"
def TX2 : u_T := fun k => match k with
  | 0 => ("CommaCopies$Joins", "rowBits", "[I", true)
  | 1 => ("CommaCopies$Joins", "sets", "[I", true)
  | 2 => ("CommaCopies$Joins", "unions", "[I", true)
  | 3 => ("CommaCopies$Joins", "cans", "[I", true)
  | 4 => ("CommaCopies$Joins", "size", "I", false)
  | 5 => ("CommaCopies$Joins", "copies", "I", false)
  | 6 => ("CommaCopies$Joins", "most", "I", false)
  | 7 => ("CommaCopies$Joins", "how", "I", false)
  | 8 => ("CommaCopies$Joins", "ones", "I", false)
  | 9 => ("CommaCopies$Joins", "anyBits", "I", false)
  | 10 => ("CommaCopies$Joins", "mendBits", "I", false)
  | 11 => ("CommaCopies$Joins", "sure", "I", false)
  | 12 => ("CommaCopies$Joins", "maybe", "I", false)
  | _ => ("CommaCopies$Joins", "found", "I", false)
def tyX2 : Nat → FieldType := fun k => match k with
  | 0 => .array .int
  | 1 => .array .int
  | 2 => .array .int
  | 3 => .array .int
  | 4 => .int
  | 5 => .int
  | 6 => .int
  | 7 => .int
  | 8 => .int
  | 9 => .int
  | 10 => .int
  | 11 => .int
  | 12 => .int
  | _ => .int
theorem nmX2 : ∀ a, a < 14 → ∀ b, b < 14 → a ≠ b → (TX2 a).2.1 ≠ (TX2 b).2.1 := by decide +kernel
theorem tyX2_ok : ∀ k, k < 14 → parseFieldDescriptor (TX2 k).2.2.1 = some (tyX2 k) := by decide +kernel
def RX3 : String := "CommaCopies$Laws"
def TX3 : u_T := fun k => match k with
  | 0 => ("CommaCopies$Laws", "joins", "LCommaCopies$Joins;", true)
  | 1 => ("CommaCopies$Laws", "row", "[I", true)
  | 2 => ("CommaCopies$Laws", "canLow", "[J", true)
  | 3 => ("CommaCopies$Laws", "canHigh", "[J", true)
  | 4 => ("CommaCopies$Laws", "withLow", "[J", true)
  | 5 => ("CommaCopies$Laws", "withHigh", "[J", true)
  | 6 => ("CommaCopies$Laws", "first", "I", false)
  | _ => ("CommaCopies$Laws", "second", "I", false)
def tyX3 : Nat → FieldType := fun k => match k with
  | 0 => .object "CommaCopies$Joins"
  | 1 => .array .int
  | 2 => .array .long
  | 3 => .array .long
  | 4 => .array .long
  | 5 => .array .long
  | 6 => .int
  | _ => .int
theorem nmX3 : ∀ a, a < 8 → ∀ b, b < 8 → a ≠ b → (TX3 a).2.1 ≠ (TX3 b).2.1 := by decide +kernel
theorem tyX3_ok : ∀ k, k < 8 → parseFieldDescriptor (TX3 k).2.2.1 = some (tyX3 k) := by decide +kernel
def RX4 : String := "CommaCopies$Letter"
def TX4 : u_T := fun k => match k with
  | 0 => ("CommaCopies$Letter", "bytes", "[B", true)
  | 1 => ("CommaCopies$Letter", "choiceCounts", "[I", true)
  | 2 => ("CommaCopies$Letter", "starts", "[I", true)
  | 3 => ("CommaCopies$Letter", "ends", "[I", true)
  | 4 => ("CommaCopies$Letter", "there", "Z", false)
  | 5 => ("CommaCopies$Letter", "length", "I", false)
  | _ => ("CommaCopies$Letter", "places", "I", false)
def tyX4 : Nat → FieldType := fun k => match k with
  | 0 => .array .byte
  | 1 => .array .int
  | 2 => .array .int
  | 3 => .array .int
  | 4 => .boolean
  | 5 => .int
  | _ => .int
theorem nmX4 : ∀ a, a < 7 → ∀ b, b < 7 → a ≠ b → (TX4 a).2.1 ≠ (TX4 b).2.1 := by decide +kernel
theorem tyX4_ok : ∀ k, k < 7 → parseFieldDescriptor (TX4 k).2.2.1 = some (tyX4 k) := by decide +kernel
def RX5 : String := "CommaCopies$Matcher"
def TX5 : u_T := fun k => match k with
  | _ => ("CommaCopies$Matcher", "picks", "[I", true)
def tyX5 : Nat → FieldType := fun k => match k with
  | _ => .array .int
theorem nmX5 : ∀ a, a < 1 → ∀ b, b < 1 → a ≠ b → (TX5 a).2.1 ≠ (TX5 b).2.1 := by decide +kernel
theorem tyX5_ok : ∀ k, k < 1 → parseFieldDescriptor (TX5 k).2.2.1 = some (tyX5 k) := by decide +kernel
def RX6 : String := "CommaCopies$Sheets"
def TX6 : u_T := fun k => match k with
  | 0 => ("CommaCopies$Sheets", "lanes", "[I", true)
  | 1 => ("CommaCopies$Sheets", "lengths", "[I", true)
  | _ => ("CommaCopies$Sheets", "items", "[I", true)
def tyX6 : Nat → FieldType := fun k => match k with
  | 0 => .array .int
  | 1 => .array .int
  | _ => .array .int
theorem nmX6 : ∀ a, a < 3 → ∀ b, b < 3 → a ≠ b → (TX6 a).2.1 ≠ (TX6 b).2.1 := by decide +kernel
theorem tyX6_ok : ∀ k, k < 3 → parseFieldDescriptor (TX6 k).2.2.1 = some (tyX6 k) := by decide +kernel
def RX7 : String := "CommaCopies$State"
def TX7 : u_T := fun k => match k with
  | 0 => ("CommaCopies$State", "letter", "LCommaCopies$Letter;", true)
  | 1 => ("CommaCopies$State", "costs", "[I", true)
  | 2 => ("CommaCopies$State", "mends", "[I", true)
  | 3 => ("CommaCopies$State", "rows", "[I", true)
  | 4 => ("CommaCopies$State", "printValues", "[I", true)
  | 5 => ("CommaCopies$State", "pasts", "[I", true)
  | 6 => ("CommaCopies$State", "pastMost", "[I", true)
  | 7 => ("CommaCopies$State", "pastHow", "[I", true)
  | 8 => ("CommaCopies$State", "tally", "[I", true)
  | 9 => ("CommaCopies$State", "copies", "I", false)
  | 10 => ("CommaCopies$State", "pastCount", "I", false)
  | 11 => ("CommaCopies$State", "most", "I", false)
  | _ => ("CommaCopies$State", "how", "I", false)
def tyX7 : Nat → FieldType := fun k => match k with
  | 0 => .object "CommaCopies$Letter"
  | 1 => .array .int
  | 2 => .array .int
  | 3 => .array .int
  | 4 => .array .int
  | 5 => .array .int
  | 6 => .array .int
  | 7 => .array .int
  | 8 => .array .int
  | 9 => .int
  | 10 => .int
  | 11 => .int
  | _ => .int
theorem nmX7 : ∀ a, a < 13 → ∀ b, b < 13 → a ≠ b → (TX7 a).2.1 ≠ (TX7 b).2.1 := by decide +kernel
theorem tyX7_ok : ∀ k, k < 13 → parseFieldDescriptor (TX7 k).2.2.1 = some (tyX7 k) := by decide +kernel
def RX8 : String := "CommaCopies$Tape"
def TX8 : u_T := fun k => match k with
  | 0 => ("CommaCopies$Tape", "bytes", "[B", true)
  | _ => ("CommaCopies$Tape", "length", "I", false)
def tyX8 : Nat → FieldType := fun k => match k with
  | 0 => .array .byte
  | _ => .int
theorem nmX8 : ∀ a, a < 2 → ∀ b, b < 2 → a ≠ b → (TX8 a).2.1 ≠ (TX8 b).2.1 := by decide +kernel
theorem tyX8_ok : ∀ k, k < 2 → parseFieldDescriptor (TX8 k).2.2.1 = some (tyX8 k) := by decide +kernel
def RX9 : String := "CommaCopies"
def TX9 : u_T := fun k => match k with
  | 0 => ("CommaCopies", "tape", "LCommaCopies$Tape;", true)
  | 1 => ("CommaCopies", "now", "LCommaCopies$State;", true)
  | 2 => ("CommaCopies", "kept", "LCommaCopies$State;", true)
  | 3 => ("CommaCopies", "sheets", "LCommaCopies$Sheets;", true)
  | 4 => ("CommaCopies", "laws", "LCommaCopies$Laws;", true)
  | 5 => ("CommaCopies", "joins", "LCommaCopies$Joins;", true)
  | 6 => ("CommaCopies", "matcher", "LCommaCopies$Matcher;", true)
  | 7 => ("CommaCopies", "chance", "LCommaCopies$Chance;", true)
  | 8 => ("CommaCopies", "hiding", "LCommaCopies$Hiding;", true)
  | 9 => ("CommaCopies", "scratchRow", "[I", true)
  | _ => ("CommaCopies", "imaged", "Z", false)
def tyX9 : Nat → FieldType := fun k => match k with
  | 0 => .object "CommaCopies$Tape"
  | 1 => .object "CommaCopies$State"
  | 2 => .object "CommaCopies$State"
  | 3 => .object "CommaCopies$Sheets"
  | 4 => .object "CommaCopies$Laws"
  | 5 => .object "CommaCopies$Joins"
  | 6 => .object "CommaCopies$Matcher"
  | 7 => .object "CommaCopies$Chance"
  | 8 => .object "CommaCopies$Hiding"
  | 9 => .array .int
  | _ => .boolean
theorem nmX9 : ∀ a, a < 11 → ∀ b, b < 11 → a ≠ b → (TX9 a).2.1 ≠ (TX9 b).2.1 := by decide +kernel
theorem tyX9_ok : ∀ k, k < 11 → parseFieldDescriptor (TX9 k).2.2.1 = some (tyX9 k) := by decide +kernel
def RX10 : String := "CommaCopiesModel"
def TX10 : u_T := fun k => match k with
  | 0 => ("CommaCopiesModel", "tape", "[I", true)
  | 1 => ("CommaCopiesModel", "taped", "I", false)
  | 2 => ("CommaCopiesModel", "size", "I", false)
  | 3 => ("CommaCopiesModel", "text", "[I", true)
  | 4 => ("CommaCopiesModel", "places", "I", false)
  | 5 => ("CommaCopiesModel", "openAt", "[I", true)
  | 6 => ("CommaCopiesModel", "closeAt", "[I", true)
  | 7 => ("CommaCopiesModel", "choiceMany", "[I", true)
  | 8 => ("CommaCopiesModel", "choiceAt", "[I", true)
  | 9 => ("CommaCopiesModel", "choiceEnd", "[I", true)
  | 10 => ("CommaCopiesModel", "costs", "[I", true)
  | 11 => ("CommaCopiesModel", "mendTo", "[I", true)
  | 12 => ("CommaCopiesModel", "copies", "I", false)
  | 13 => ("CommaCopiesModel", "rows", "[I", true)
  | 14 => ("CommaCopiesModel", "most", "I", false)
  | 15 => ("CommaCopiesModel", "how", "I", false)
  | 16 => ("CommaCopiesModel", "print", "[I", true)
  | 17 => ("CommaCopiesModel", "pasts", "I", false)
  | 18 => ("CommaCopiesModel", "pastParts", "[I", true)
  | 19 => ("CommaCopiesModel", "read", "[I", true)
  | 20 => ("CommaCopiesModel", "sets", "[I", true)
  | 21 => ("CommaCopiesModel", "setMany", "I", false)
  | 22 => ("CommaCopiesModel", "row", "[I", true)
  | 23 => ("CommaCopiesModel", "cans", "[I", true)
  | 24 => ("CommaCopiesModel", "breachSet", "I", false)
  | 25 => ("CommaCopiesModel", "breachOther", "I", false)
  | 26 => ("CommaCopiesModel", "named", "I", false)
  | 27 => ("CommaCopiesModel", "byScore", "[I", true)
  | 28 => ("CommaCopiesModel", "stands", "[I", true)
  | 29 => ("CommaCopiesModel", "best", "[I", true)
  | 30 => ("CommaCopiesModel", "image", "[I", true)
  | 31 => ("CommaCopiesModel", "kept", "Z", false)
  | 32 => ("CommaCopiesModel", "lanes", "[I", true)
  | 33 => ("CommaCopiesModel", "sizes", "[I", true)
  | 34 => ("CommaCopiesModel", "items", "[I", true)
  | _ => ("CommaCopiesModel", "moved", "[I", true)
def tyX10 : Nat → FieldType := fun k => match k with
  | 0 => .array .int
  | 1 => .int
  | 2 => .int
  | 3 => .array .int
  | 4 => .int
  | 5 => .array .int
  | 6 => .array .int
  | 7 => .array .int
  | 8 => .array .int
  | 9 => .array .int
  | 10 => .array .int
  | 11 => .array .int
  | 12 => .int
  | 13 => .array .int
  | 14 => .int
  | 15 => .int
  | 16 => .array .int
  | 17 => .int
  | 18 => .array .int
  | 19 => .array .int
  | 20 => .array .int
  | 21 => .int
  | 22 => .array .int
  | 23 => .array .int
  | 24 => .int
  | 25 => .int
  | 26 => .int
  | 27 => .array .int
  | 28 => .array .int
  | 29 => .array .int
  | 30 => .array .int
  | 31 => .boolean
  | 32 => .array .int
  | 33 => .array .int
  | 34 => .array .int
  | _ => .array .int
theorem nmX10 : ∀ a, a < 36 → ∀ b, b < 36 → a ≠ b → (TX10 a).2.1 ≠ (TX10 b).2.1 := by decide +kernel
theorem tyX10_ok : ∀ k, k < 36 → parseFieldDescriptor (TX10 k).2.2.1 = some (tyX10 k) := by decide +kernel
def RJ6 : String := "java/lang/Integer"
def RJ9 : String := "java/lang/Math"
def RJ10 : String := "java/lang/System"
def RJ7 : String := "java/util/Arrays"
abbrev vwCl : List vw_C := [(RX0, TX0, 1), (RX1, TX1, 4), (RX2, TX2, 14), (RX3, TX3, 8), (RX4, TX4, 7), (RX5, TX5, 1), (RX6, TX6, 3), (RX7, TX7, 13), (RX8, TX8, 2), (RX9, TX9, 11), (RX10, TX10, 36)]
def zRN : List String := ["CommaCopies$Chance", "CommaCopies$Hiding", "CommaCopies$Joins", "CommaCopies$Laws", "CommaCopies$Letter", "CommaCopies$Matcher", "CommaCopies$Sheets", "CommaCopies$State", "CommaCopies$Tape", "CommaCopies", "CommaCopiesModel", "java/lang/Integer", "java/lang/Math", "java/util/Arrays"]
