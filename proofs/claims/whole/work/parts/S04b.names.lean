/-! names and field tables of the classes (from the printed names) -/
def RX0 : String := "LentHands$Asked"
def TX0 : u_T := fun k => match k with
  | 0 => ("LentHands$Asked", "value", "[I", true)
  | _ => ("LentHands$Asked", "stack", "[I", true)
def tyX0 : Nat → FieldType := fun k => match k with
  | 0 => .array .int
  | _ => .array .int
theorem nmX0 : ∀ a, a < 2 → ∀ b, b < 2 → a ≠ b → (TX0 a).2.1 ≠ (TX0 b).2.1 := by decide +kernel
theorem tyX0_ok : ∀ k, k < 2 → parseFieldDescriptor (TX0 k).2.2.1 = some (tyX0 k) := by decide +kernel
def RX1 : String := "LentHands$Law"
def TX1 : u_T := fun k => match k with
  | 0 => ("LentHands$Law", "lines", "I", false)
  | 1 => ("LentHands$Law", "size", "I", false)
  | 2 => ("LentHands$Law", "verb", "[I", true)
  | 3 => ("LentHands$Law", "start", "[I", true)
  | 4 => ("LentHands$Law", "middle", "[I", true)
  | 5 => ("LentHands$Law", "stop", "[I", true)
  | _ => ("LentHands$Law", "code", "[I", true)
def tyX1 : Nat → FieldType := fun k => match k with
  | 0 => .int
  | 1 => .int
  | 2 => .array .int
  | 3 => .array .int
  | 4 => .array .int
  | 5 => .array .int
  | _ => .array .int
theorem nmX1 : ∀ a, a < 7 → ∀ b, b < 7 → a ≠ b → (TX1 a).2.1 ≠ (TX1 b).2.1 := by decide +kernel
theorem tyX1_ok : ∀ k, k < 7 → parseFieldDescriptor (TX1 k).2.2.1 = some (tyX1 k) := by decide +kernel
def RX2 : String := "LentHands$Reader"
def TX2 : u_T := fun k => match k with
  | 0 => ("LentHands$Reader", "kind", "[I", true)
  | 1 => ("LentHands$Reader", "value", "[I", true)
  | 2 => ("LentHands$Reader", "place", "[I", true)
  | 3 => ("LentHands$Reader", "tokens", "I", false)
  | 4 => ("LentHands$Reader", "next", "I", false)
  | 5 => ("LentHands$Reader", "fault", "I", false)
  | 6 => ("LentHands$Reader", "faultPlace", "I", false)
  | 7 => ("LentHands$Reader", "asks", "I", false)
  | 8 => ("LentHands$Reader", "law", "LLentHands$Law;", true)
  | _ => ("LentHands$Reader", "table", "LLentHands$Table;", true)
def tyX2 : Nat → FieldType := fun k => match k with
  | 0 => .array .int
  | 1 => .array .int
  | 2 => .array .int
  | 3 => .int
  | 4 => .int
  | 5 => .int
  | 6 => .int
  | 7 => .int
  | 8 => .object "LentHands$Law"
  | _ => .object "LentHands$Table"
theorem nmX2 : ∀ a, a < 10 → ∀ b, b < 10 → a ≠ b → (TX2 a).2.1 ≠ (TX2 b).2.1 := by decide +kernel
theorem tyX2_ok : ∀ k, k < 10 → parseFieldDescriptor (TX2 k).2.2.1 = some (tyX2 k) := by decide +kernel
def RX3 : String := "LentHands$Table"
def TX3 : u_T := fun k => match k with
  | 0 => ("LentHands$Table", "lines", "I", false)
  | _ => ("LentHands$Table", "cells", "[I", true)
def tyX3 : Nat → FieldType := fun k => match k with
  | 0 => .int
  | _ => .array .int
theorem nmX3 : ∀ a, a < 2 → ∀ b, b < 2 → a ≠ b → (TX3 a).2.1 ≠ (TX3 b).2.1 := by decide +kernel
theorem tyX3_ok : ∀ k, k < 2 → parseFieldDescriptor (TX3 k).2.2.1 = some (tyX3 k) := by decide +kernel
def RX4 : String := "LentHands$Texts"
def TX4 : u_T := fun k => match k with
  | 0 => ("LentHands$Texts", "laws", "[LLentHands$Law;", true)
  | 1 => ("LentHands$Texts", "bookings", "LLentHands$Table;", true)
  | _ => ("LentHands$Texts", "works", "LLentHands$Table;", true)
def tyX4 : Nat → FieldType := fun k => match k with
  | 0 => .array (.object "LentHands$Law")
  | 1 => .object "LentHands$Table"
  | _ => .object "LentHands$Table"
theorem nmX4 : ∀ a, a < 3 → ∀ b, b < 3 → a ≠ b → (TX4 a).2.1 ≠ (TX4 b).2.1 := by decide +kernel
theorem tyX4_ok : ∀ k, k < 3 → parseFieldDescriptor (TX4 k).2.2.1 = some (tyX4 k) := by decide +kernel
def RX5 : String := "LentHands$World"
def TX5 : u_T := fun k => match k with
  | 0 => ("LentHands$World", "draws", "I", false)
  | 1 => ("LentHands$World", "hour", "I", false)
  | 2 => ("LentHands$World", "people", "I", false)
  | 3 => ("LentHands$World", "loanCount", "I", false)
  | 4 => ("LentHands$World", "bookLines", "I", false)
  | 5 => ("LentHands$World", "coin", "[I", true)
  | 6 => ("LentHands$World", "child", "[I", true)
  | 7 => ("LentHands$World", "task", "[I", true)
  | 8 => ("LentHands$World", "guilt", "[I", true)
  | 9 => ("LentHands$World", "wrist", "[I", true)
  | 10 => ("LentHands$World", "place", "[I", true)
  | 11 => ("LentHands$World", "skill", "[I", true)
  | 12 => ("LentHands$World", "wear", "[I", true)
  | 13 => ("LentHands$World", "scars", "[I", true)
  | 14 => ("LentHands$World", "marks", "[I", true)
  | 15 => ("LentHands$World", "held", "[I", true)
  | _ => ("LentHands$World", "loans", "[I", true)
def tyX5 : Nat → FieldType := fun k => match k with
  | 0 => .int
  | 1 => .int
  | 2 => .int
  | 3 => .int
  | 4 => .int
  | 5 => .array .int
  | 6 => .array .int
  | 7 => .array .int
  | 8 => .array .int
  | 9 => .array .int
  | 10 => .array .int
  | 11 => .array .int
  | 12 => .array .int
  | 13 => .array .int
  | 14 => .array .int
  | 15 => .array .int
  | _ => .array .int
theorem nmX5 : ∀ a, a < 17 → ∀ b, b < 17 → a ≠ b → (TX5 a).2.1 ≠ (TX5 b).2.1 := by decide +kernel
theorem tyX5_ok : ∀ k, k < 17 → parseFieldDescriptor (TX5 k).2.2.1 = some (tyX5 k) := by decide +kernel
def RX6 : String := "LentHands"
def TX6 : u_T := fun k => match k with
  | 0 => ("LentHands", "now", "LLentHands$World;", true)
  | 1 => ("LentHands", "thought", "LLentHands$World;", true)
  | 2 => ("LentHands", "kept", "[LLentHands$World;", true)
  | 3 => ("LentHands", "keptCount", "I", false)
  | 4 => ("LentHands", "keptNext", "I", false)
  | 5 => ("LentHands", "texts", "LLentHands$Texts;", true)
  | 6 => ("LentHands", "lines", "[I", true)
  | 7 => ("LentHands", "imageWorld", "LLentHands$World;", true)
  | 8 => ("LentHands", "imageTexts", "LLentHands$Texts;", true)
  | 9 => ("LentHands", "imageLines", "[I", true)
  | 10 => ("LentHands", "imaged", "Z", false)
  | 11 => ("LentHands", "tape", "[C", true)
  | 12 => ("LentHands", "taped", "I", false)
  | 13 => ("LentHands", "reader", "LLentHands$Reader;", true)
  | 14 => ("LentHands", "asked", "LLentHands$Asked;", true)
  | _ => ("LentHands", "plan", "[I", true)
def tyX6 : Nat → FieldType := fun k => match k with
  | 0 => .object "LentHands$World"
  | 1 => .object "LentHands$World"
  | 2 => .array (.object "LentHands$World")
  | 3 => .int
  | 4 => .int
  | 5 => .object "LentHands$Texts"
  | 6 => .array .int
  | 7 => .object "LentHands$World"
  | 8 => .object "LentHands$Texts"
  | 9 => .array .int
  | 10 => .boolean
  | 11 => .array .char
  | 12 => .int
  | 13 => .object "LentHands$Reader"
  | 14 => .object "LentHands$Asked"
  | _ => .array .int
theorem nmX6 : ∀ a, a < 16 → ∀ b, b < 16 → a ≠ b → (TX6 a).2.1 ≠ (TX6 b).2.1 := by decide +kernel
theorem tyX6_ok : ∀ k, k < 16 → parseFieldDescriptor (TX6 k).2.2.1 = some (tyX6 k) := by decide +kernel
def RX7 : String := "LentHandsModel"
def TX7 : u_T := fun k => match k with
  | 0 => ("LentHandsModel", "w", "[I", true)
  | 1 => ("LentHandsModel", "kept", "[I", true)
  | 2 => ("LentHandsModel", "back", "[I", true)
  | 3 => ("LentHandsModel", "lying", "[I", true)
  | 4 => ("LentHandsModel", "backMany", "I", false)
  | 5 => ("LentHandsModel", "hasImage", "Z", false)
  | 6 => ("LentHandsModel", "freshLine", "[I", true)
  | 7 => ("LentHandsModel", "freshStep", "[I", true)
  | 8 => ("LentHandsModel", "freshRow", "[I", true)
  | 9 => ("LentHandsModel", "tape", "[I", true)
  | 10 => ("LentHandsModel", "pile", "[I", true)
  | 11 => ("LentHandsModel", "facts", "[I", true)
  | 12 => ("LentHandsModel", "reading", "I", false)
  | 13 => ("LentHandsModel", "lines", "I", false)
  | 14 => ("LentHandsModel", "steps", "I", false)
  | 15 => ("LentHandsModel", "rows", "I", false)
  | 16 => ("LentHandsModel", "taped", "I", false)
  | 17 => ("LentHandsModel", "at", "I", false)
  | 18 => ("LentHandsModel", "token", "I", false)
  | 19 => ("LentHandsModel", "tokenAt", "I", false)
  | 20 => ("LentHandsModel", "value", "I", false)
  | 21 => ("LentHandsModel", "wrong", "I", false)
  | 22 => ("LentHandsModel", "wrongAt", "I", false)
  | 23 => ("LentHandsModel", "faultKind", "I", false)
  | 24 => ("LentHandsModel", "depth", "I", false)
  | 25 => ("LentHandsModel", "faultPlace", "I", false)
  | 26 => ("LentHandsModel", "numbered", "I", false)
  | 27 => ("LentHandsModel", "failedAt", "I", false)
  | 28 => ("LentHandsModel", "failedHour", "I", false)
  | 29 => ("LentHandsModel", "paid", "[I", true)
  | 30 => ("LentHandsModel", "worker", "[I", true)
  | 31 => ("LentHandsModel", "learnt", "I", false)
  | 32 => ("LentHandsModel", "unscarred", "I", false)
  | 33 => ("LentHandsModel", "wishMany", "I", false)
  | 34 => ("LentHandsModel", "wishLeft", "I", false)
  | _ => ("LentHandsModel", "wishRight", "I", false)
def tyX7 : Nat → FieldType := fun k => match k with
  | 0 => .array .int
  | 1 => .array .int
  | 2 => .array .int
  | 3 => .array .int
  | 4 => .int
  | 5 => .boolean
  | 6 => .array .int
  | 7 => .array .int
  | 8 => .array .int
  | 9 => .array .int
  | 10 => .array .int
  | 11 => .array .int
  | 12 => .int
  | 13 => .int
  | 14 => .int
  | 15 => .int
  | 16 => .int
  | 17 => .int
  | 18 => .int
  | 19 => .int
  | 20 => .int
  | 21 => .int
  | 22 => .int
  | 23 => .int
  | 24 => .int
  | 25 => .int
  | 26 => .int
  | 27 => .int
  | 28 => .int
  | 29 => .array .int
  | 30 => .array .int
  | 31 => .int
  | 32 => .int
  | 33 => .int
  | 34 => .int
  | _ => .int
theorem nmX7 : ∀ a, a < 36 → ∀ b, b < 36 → a ≠ b → (TX7 a).2.1 ≠ (TX7 b).2.1 := by decide +kernel
theorem tyX7_ok : ∀ k, k < 36 → parseFieldDescriptor (TX7 k).2.2.1 = some (tyX7 k) := by decide +kernel
def RJ6 : String := "java/lang/Integer"
def RJ9 : String := "java/lang/Math"
def RJ0 : String := "java/lang/String"
def RJ1 : String := "java/lang/StringLatin1"
def RJ2 : String := "java/lang/StringUTF16"
def RJ10 : String := "java/lang/System"
def RJ3 : String := "jdk/internal/util/Preconditions"
def RL : String := "LentHandsLaw"
abbrev vwCl : List vw_C := [(RX0, TX0, 2), (RX1, TX1, 7), (RX2, TX2, 10), (RX3, TX3, 2), (RX4, TX4, 3), (RX5, TX5, 17), (RX6, TX6, 16), (RX7, TX7, 36)]
def am_nf (ci : Nat) : Nat := ([2, 7, 10, 2, 3, 17, 16, 36] : List Nat).getD ci 0
def am_isrl : List (List Bool) := [[true, true], [false, false, true, true, true, true, true], [true, true, true, false, false, false, false, false, true, true], [false, true], [true, true, true], [false, false, false, false, false, true, true, true, true, true, true, true, true, true, true, true, true], [true, true, true, false, false, true, true, true, true, true, false, true, false, true, true, true], [true, true, true, true, false, false, true, true, true, true, true, true, false, false, false, false, false, false, false, false, false, false, false, false, false, false, false, false, false, true, true, false, false, false, false, false]]
def am_isr (ci k : Nat) : Bool := (am_isrl.getD ci []).getD k false
