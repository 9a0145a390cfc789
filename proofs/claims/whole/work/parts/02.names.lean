/-! names: classes by numbers, their fields in the order of the slots; array kinds; lengths; constants -/
def Rn : Nat → String
  | 0 => "EchoValley"
  | 1 => "EchoValley$Land"
  | 2 => "EchoValley$Numbers"
  | 3 => "EchoValley$Posts"
  | 4 => "EchoValley$Reader"
  | 5 => "EchoValley$Returns"
  | 6 => "EchoValley$Slot"
  | 7 => "EchoValley$Spot"
  | 8 => "EchoValley$Tape"
  | 9 => "EchoValley$Wall"
  | 10 => "EchoValley$Ways"
  | 11 => "EchoValleyModel"
  | 100 => "java/lang/String"
  | _ => ""
def T_0 : u_T := fun k => match k with
  | 0 => ("EchoValley", "tape", "LEchoValley$Tape;", true)
  | 1 => ("EchoValley", "reader", "LEchoValley$Reader;", true)
  | 2 => ("EchoValley", "land", "LEchoValley$Land;", true)
  | 3 => ("EchoValley", "ways", "LEchoValley$Ways;", true)
  | 4 => ("EchoValley", "list", "LEchoValley$Returns;", true)
  | 5 => ("EchoValley", "echoes", "LEchoValley$Posts;", true)
  | 6 => ("EchoValley", "shouts", "LEchoValley$Posts;", true)
  | 7 => ("EchoValley", "slots", "[LEchoValley$Slot;", true)
  | 8 => ("EchoValley", "found", "LEchoValley$Numbers;", true)
  | 9 => ("EchoValley", "alike", "LEchoValley$Numbers;", true)
  | 10 => ("EchoValley", "answers", "[I", true)
  | _ => ("EchoValley", "faultPlace", "I", false)
def y_0 : Nat → FieldType := fun k => match k with
  | 0 => .object "EchoValley$Tape"
  | 1 => .object "EchoValley$Reader"
  | 2 => .object "EchoValley$Land"
  | 3 => .object "EchoValley$Ways"
  | 4 => .object "EchoValley$Returns"
  | 5 => .object "EchoValley$Posts"
  | 6 => .object "EchoValley$Posts"
  | 7 => .array (.object "EchoValley$Slot")
  | 8 => .object "EchoValley$Numbers"
  | 9 => .object "EchoValley$Numbers"
  | 10 => .array .int
  | _ => .int
theorem n_0 : ∀ a, a < 12 → ∀ b, b < 12 → a ≠ b → (T_0 a).2.1 ≠ (T_0 b).2.1 := by decide +kernel
theorem p_0 : ∀ k, k < 12 → parseFieldDescriptor (T_0 k).2.2.1 = some (y_0 k) := by decide +kernel
def T_1 : u_T := fun k => match k with
  | 0 => ("EchoValley$Land", "walls", "[LEchoValley$Wall;", true)
  | 1 => ("EchoValley$Land", "wallCount", "I", false)
  | 2 => ("EchoValley$Land", "men", "LEchoValley$Posts;", true)
  | 3 => ("EchoValley$Land", "ears", "LEchoValley$Posts;", true)
  | 4 => ("EchoValley$Land", "bells", "LEchoValley$Posts;", true)
  | 5 => ("EchoValley$Land", "wide", "I", false)
  | 6 => ("EchoValley$Land", "high", "I", false)
  | 7 => ("EchoValley$Land", "pace", "I", false)
  | 8 => ("EchoValley$Land", "fall", "I", false)
  | _ => ("EchoValley$Land", "gap", "I", false)
def y_1 : Nat → FieldType := fun k => match k with
  | 0 => .array (.object "EchoValley$Wall")
  | 1 => .int
  | 2 => .object "EchoValley$Posts"
  | 3 => .object "EchoValley$Posts"
  | 4 => .object "EchoValley$Posts"
  | 5 => .int
  | 6 => .int
  | 7 => .int
  | 8 => .int
  | _ => .int
theorem n_1 : ∀ a, a < 10 → ∀ b, b < 10 → a ≠ b → (T_1 a).2.1 ≠ (T_1 b).2.1 := by decide +kernel
theorem p_1 : ∀ k, k < 10 → parseFieldDescriptor (T_1 k).2.2.1 = some (y_1 k) := by decide +kernel
def T_2 : u_T := fun k => match k with
  | 0 => ("EchoValley$Numbers", "row", "[I", true)
  | _ => ("EchoValley$Numbers", "count", "I", false)
def y_2 : Nat → FieldType := fun k => match k with
  | 0 => .array .int
  | _ => .int
theorem n_2 : ∀ a, a < 2 → ∀ b, b < 2 → a ≠ b → (T_2 a).2.1 ≠ (T_2 b).2.1 := by decide +kernel
theorem p_2 : ∀ k, k < 2 → parseFieldDescriptor (T_2 k).2.2.1 = some (y_2 k) := by decide +kernel
def T_3 : u_T := fun k => match k with
  | 0 => ("EchoValley$Posts", "xs", "[I", true)
  | 1 => ("EchoValley$Posts", "ys", "[I", true)
  | 2 => ("EchoValley$Posts", "louds", "[I", true)
  | 3 => ("EchoValley$Posts", "times", "[I", true)
  | _ => ("EchoValley$Posts", "count", "I", false)
def y_3 : Nat → FieldType := fun k => match k with
  | 0 => .array .int
  | 1 => .array .int
  | 2 => .array .int
  | 3 => .array .int
  | _ => .int
theorem n_3 : ∀ a, a < 5 → ∀ b, b < 5 → a ≠ b → (T_3 a).2.1 ≠ (T_3 b).2.1 := by decide +kernel
theorem p_3 : ∀ k, k < 5 → parseFieldDescriptor (T_3 k).2.2.1 = some (y_3 k) := by decide +kernel
def T_4 : u_T := fun k => match k with
  | 0 => ("EchoValley$Reader", "tape", "LEchoValley$Tape;", true)
  | 1 => ("EchoValley$Reader", "kinds", "[I", true)
  | 2 => ("EchoValley$Reader", "starts", "[I", true)
  | 3 => ("EchoValley$Reader", "values", "[I", true)
  | 4 => ("EchoValley$Reader", "timesTold", "[I", true)
  | 5 => ("EchoValley$Reader", "numbers", "[I", true)
  | 6 => ("EchoValley$Reader", "tokens", "I", false)
  | 7 => ("EchoValley$Reader", "fault", "I", false)
  | 8 => ("EchoValley$Reader", "place", "I", false)
  | 9 => ("EchoValley$Reader", "cursor", "I", false)
  | 10 => ("EchoValley$Reader", "kind", "I", false)
  | 11 => ("EchoValley$Reader", "start", "I", false)
  | _ => ("EchoValley$Reader", "value", "I", false)
def y_4 : Nat → FieldType := fun k => match k with
  | 0 => .object "EchoValley$Tape"
  | 1 => .array .int
  | 2 => .array .int
  | 3 => .array .int
  | 4 => .array .int
  | 5 => .array .int
  | 6 => .int
  | 7 => .int
  | 8 => .int
  | 9 => .int
  | 10 => .int
  | 11 => .int
  | _ => .int
theorem n_4 : ∀ a, a < 13 → ∀ b, b < 13 → a ≠ b → (T_4 a).2.1 ≠ (T_4 b).2.1 := by decide +kernel
theorem p_4 : ∀ k, k < 13 → parseFieldDescriptor (T_4 k).2.2.1 = some (y_4 k) := by decide +kernel
def T_5 : u_T := fun k => match k with
  | 0 => ("EchoValley$Returns", "numbers", "[I", true)
  | 1 => ("EchoValley$Returns", "times", "[I", true)
  | 2 => ("EchoValley$Returns", "louds", "[I", true)
  | 3 => ("EchoValley$Returns", "lengths", "[I", true)
  | _ => ("EchoValley$Returns", "count", "I", false)
def y_5 : Nat → FieldType := fun k => match k with
  | 0 => .array .int
  | 1 => .array .int
  | 2 => .array .int
  | 3 => .array .int
  | _ => .int
theorem n_5 : ∀ a, a < 5 → ∀ b, b < 5 → a ≠ b → (T_5 a).2.1 ≠ (T_5 b).2.1 := by decide +kernel
theorem p_5 : ∀ k, k < 5 → parseFieldDescriptor (T_5 k).2.2.1 = some (y_5 k) := by decide +kernel
def T_6 : u_T := fun k => match k with
  | 0 => ("EchoValley$Slot", "wheres", "[I", true)
  | 1 => ("EchoValley$Slot", "standing", "I", false)
  | 2 => ("EchoValley$Slot", "paceHeld", "I", false)
  | _ => ("EchoValley$Slot", "full", "Z", false)
def y_6 : Nat → FieldType := fun k => match k with
  | 0 => .array .int
  | 1 => .int
  | 2 => .int
  | _ => .boolean
theorem n_6 : ∀ a, a < 4 → ∀ b, b < 4 → a ≠ b → (T_6 a).2.1 ≠ (T_6 b).2.1 := by decide +kernel
theorem p_6 : ∀ k, k < 4 → parseFieldDescriptor (T_6 k).2.2.1 = some (y_6 k) := by decide +kernel
def T_7 : u_T := fun k => match k with
  | 0 => ("EchoValley$Spot", "x", "J", false)
  | 1 => ("EchoValley$Spot", "y", "J", false)
  | _ => ("EchoValley$Spot", "d", "J", false)
def y_7 : Nat → FieldType := fun k => match k with
  | 0 => .long
  | 1 => .long
  | _ => .long
theorem n_7 : ∀ a, a < 3 → ∀ b, b < 3 → a ≠ b → (T_7 a).2.1 ≠ (T_7 b).2.1 := by decide +kernel
theorem p_7 : ∀ k, k < 3 → parseFieldDescriptor (T_7 k).2.2.1 = some (y_7 k) := by decide +kernel
def T_8 : u_T := fun k => match k with
  | 0 => ("EchoValley$Tape", "bytes", "[B", true)
  | _ => ("EchoValley$Tape", "length", "I", false)
def y_8 : Nat → FieldType := fun k => match k with
  | 0 => .array .byte
  | _ => .int
theorem n_8 : ∀ a, a < 2 → ∀ b, b < 2 → a ≠ b → (T_8 a).2.1 ≠ (T_8 b).2.1 := by decide +kernel
theorem p_8 : ∀ k, k < 2 → parseFieldDescriptor (T_8 k).2.2.1 = some (y_8 k) := by decide +kernel
def T_9 : u_T := fun k => match k with
  | 0 => ("EchoValley$Wall", "flat", "Z", false)
  | 1 => ("EchoValley$Wall", "where", "I", false)
  | 2 => ("EchoValley$Wall", "from", "I", false)
  | 3 => ("EchoValley$Wall", "to", "I", false)
  | 4 => ("EchoValley$Wall", "soft", "I", false)
  | _ => ("EchoValley$Wall", "there", "Z", false)
def y_9 : Nat → FieldType := fun k => match k with
  | 0 => .boolean
  | 1 => .int
  | 2 => .int
  | 3 => .int
  | 4 => .int
  | _ => .boolean
theorem n_9 : ∀ a, a < 6 → ∀ b, b < 6 → a ≠ b → (T_9 a).2.1 ≠ (T_9 b).2.1 := by decide +kernel
theorem p_9 : ∀ k, k < 6 → parseFieldDescriptor (T_9 k).2.2.1 = some (y_9 k) := by decide +kernel
def T_10 : u_T := fun k => match k with
  | 0 => ("EchoValley$Ways", "land", "LEchoValley$Land;", true)
  | 1 => ("EchoValley$Ways", "start", "LEchoValley$Spot;", true)
  | 2 => ("EchoValley$Ways", "end", "LEchoValley$Spot;", true)
  | 3 => ("EchoValley$Ways", "nearImage", "LEchoValley$Spot;", true)
  | 4 => ("EchoValley$Ways", "lastImage", "LEchoValley$Spot;", true)
  | 5 => ("EchoValley$Ways", "touchOne", "LEchoValley$Spot;", true)
  | 6 => ("EchoValley$Ways", "touchTwo", "LEchoValley$Spot;", true)
  | _ => ("EchoValley$Ways", "crossing", "LEchoValley$Spot;", true)
def y_10 : Nat → FieldType := fun k => match k with
  | 0 => .object "EchoValley$Land"
  | 1 => .object "EchoValley$Spot"
  | 2 => .object "EchoValley$Spot"
  | 3 => .object "EchoValley$Spot"
  | 4 => .object "EchoValley$Spot"
  | 5 => .object "EchoValley$Spot"
  | 6 => .object "EchoValley$Spot"
  | _ => .object "EchoValley$Spot"
theorem n_10 : ∀ a, a < 8 → ∀ b, b < 8 → a ≠ b → (T_10 a).2.1 ≠ (T_10 b).2.1 := by decide +kernel
theorem p_10 : ∀ k, k < 8 → parseFieldDescriptor (T_10 k).2.2.1 = some (y_10 k) := by decide +kernel
def T_11 : u_T := fun k => match k with
  | 0 => ("EchoValleyModel", "thrown", "I", false)
  | 1 => ("EchoValleyModel", "tape", "[B", true)
  | 2 => ("EchoValleyModel", "taped", "I", false)
  | 3 => ("EchoValleyModel", "text", "[B", true)
  | 4 => ("EchoValleyModel", "size", "I", false)
  | 5 => ("EchoValleyModel", "tKind", "[I", true)
  | 6 => ("EchoValleyModel", "tPlace", "[I", true)
  | 7 => ("EchoValleyModel", "tValue", "[I", true)
  | 8 => ("EchoValleyModel", "tName", "[J", true)
  | 9 => ("EchoValleyModel", "keys", "[J", true)
  | 10 => ("EchoValleyModel", "tokens", "I", false)
  | 11 => ("EchoValleyModel", "t", "I", false)
  | 12 => ("EchoValleyModel", "open", "I", false)
  | 13 => ("EchoValleyModel", "fault", "I", false)
  | 14 => ("EchoValleyModel", "faultPlace", "I", false)
  | 15 => ("EchoValleyModel", "worst", "I", false)
  | 16 => ("EchoValleyModel", "worstPlace", "I", false)
  | 17 => ("EchoValleyModel", "place", "I", false)
  | 18 => ("EchoValleyModel", "live", "I", false)
  | 19 => ("EchoValleyModel", "side", "I", false)
  | 20 => ("EchoValleyModel", "names", "I", false)
  | 21 => ("EchoValleyModel", "nameOf", "[J", true)
  | 22 => ("EchoValleyModel", "walls", "[I", true)
  | 23 => ("EchoValleyModel", "isFlat", "[Z", true)
  | 24 => ("EchoValleyModel", "stand", "[I", true)
  | 25 => ("EchoValleyModel", "from", "[I", true)
  | 26 => ("EchoValleyModel", "to", "[I", true)
  | 27 => ("EchoValleyModel", "soft", "[I", true)
  | 28 => ("EchoValleyModel", "isThere", "[Z", true)
  | 29 => ("EchoValleyModel", "men", "[I", true)
  | 30 => ("EchoValleyModel", "manX", "[I", true)
  | 31 => ("EchoValleyModel", "manY", "[I", true)
  | 32 => ("EchoValleyModel", "manLoud", "[I", true)
  | 33 => ("EchoValleyModel", "ears", "[I", true)
  | 34 => ("EchoValleyModel", "earX", "[I", true)
  | 35 => ("EchoValleyModel", "earY", "[I", true)
  | 36 => ("EchoValleyModel", "bells", "[I", true)
  | 37 => ("EchoValleyModel", "bellX", "[I", true)
  | 38 => ("EchoValleyModel", "bellY", "[I", true)
  | 39 => ("EchoValleyModel", "bellWhen", "[I", true)
  | 40 => ("EchoValleyModel", "wide", "[I", true)
  | 41 => ("EchoValleyModel", "high", "[I", true)
  | 42 => ("EchoValleyModel", "paces", "[I", true)
  | 43 => ("EchoValleyModel", "fall", "[I", true)
  | 44 => ("EchoValleyModel", "gap", "[I", true)
  | 45 => ("EchoValleyModel", "places", "I", false)
  | 46 => ("EchoValleyModel", "placeToken", "[I", true)
  | 47 => ("EchoValleyModel", "placeUp", "[Z", true)
  | 48 => ("EchoValleyModel", "pace", "I", false)
  | 49 => ("EchoValleyModel", "px", "I", false)
  | 50 => ("EchoValleyModel", "py", "I", false)
  | 51 => ("EchoValleyModel", "imageX", "I", false)
  | 52 => ("EchoValleyModel", "imageY", "I", false)
  | 53 => ("EchoValleyModel", "beginUp", "[I", true)
  | 54 => ("EchoValleyModel", "beginLow", "[I", true)
  | 55 => ("EchoValleyModel", "pieces", "I", false)
  | 56 => ("EchoValleyModel", "wayOne", "I", false)
  | 57 => ("EchoValleyModel", "wayOther", "I", false)
  | 58 => ("EchoValleyModel", "lineFlat", "Z", false)
  | 59 => ("EchoValleyModel", "lineAt", "I", false)
  | 60 => ("EchoValleyModel", "lineFrom", "I", false)
  | 61 => ("EchoValleyModel", "lineTo", "I", false)
  | 62 => ("EchoValleyModel", "crossUp", "I", false)
  | 63 => ("EchoValleyModel", "crossLow", "I", false)
  | 64 => ("EchoValleyModel", "many", "I", false)
  | 65 => ("EchoValleyModel", "number", "[I", true)
  | 66 => ("EchoValleyModel", "time", "[I", true)
  | 67 => ("EchoValleyModel", "loud", "[I", true)
  | 68 => ("EchoValleyModel", "length", "[I", true)
  | 69 => ("EchoValleyModel", "counted", "I", false)
  | 70 => ("EchoValleyModel", "firstPlace", "I", false)
  | 71 => ("EchoValleyModel", "told", "I", false)
  | 72 => ("EchoValleyModel", "toldX", "[I", true)
  | 73 => ("EchoValleyModel", "toldY", "[I", true)
  | 74 => ("EchoValleyModel", "toldLoud", "[I", true)
  | 75 => ("EchoValleyModel", "toldTime", "[I", true)
  | 76 => ("EchoValleyModel", "found", "[I", true)
  | 77 => ("EchoValleyModel", "founds", "I", false)
  | 78 => ("EchoValleyModel", "answers", "[I", true)
  | 79 => ("EchoValleyModel", "answered", "I", false)
  | 80 => ("EchoValleyModel", "shouts", "I", false)
  | 81 => ("EchoValleyModel", "shoutX", "[I", true)
  | 82 => ("EchoValleyModel", "shoutY", "[I", true)
  | 83 => ("EchoValleyModel", "shoutLoud", "[I", true)
  | 84 => ("EchoValleyModel", "shoutTime", "[I", true)
  | 85 => ("EchoValleyModel", "fit", "[I", true)
  | 86 => ("EchoValleyModel", "fits", "I", false)
  | 87 => ("EchoValleyModel", "isHeld", "[Z", true)
  | 88 => ("EchoValleyModel", "heldStand", "[I", true)
  | 89 => ("EchoValleyModel", "heldThere", "[Z", true)
  | _ => ("EchoValleyModel", "heldPace", "[I", true)
def y_11 : Nat → FieldType := fun k => match k with
  | 0 => .int
  | 1 => .array .byte
  | 2 => .int
  | 3 => .array .byte
  | 4 => .int
  | 5 => .array .int
  | 6 => .array .int
  | 7 => .array .int
  | 8 => .array .long
  | 9 => .array .long
  | 10 => .int
  | 11 => .int
  | 12 => .int
  | 13 => .int
  | 14 => .int
  | 15 => .int
  | 16 => .int
  | 17 => .int
  | 18 => .int
  | 19 => .int
  | 20 => .int
  | 21 => .array .long
  | 22 => .array .int
  | 23 => .array .boolean
  | 24 => .array .int
  | 25 => .array .int
  | 26 => .array .int
  | 27 => .array .int
  | 28 => .array .boolean
  | 29 => .array .int
  | 30 => .array .int
  | 31 => .array .int
  | 32 => .array .int
  | 33 => .array .int
  | 34 => .array .int
  | 35 => .array .int
  | 36 => .array .int
  | 37 => .array .int
  | 38 => .array .int
  | 39 => .array .int
  | 40 => .array .int
  | 41 => .array .int
  | 42 => .array .int
  | 43 => .array .int
  | 44 => .array .int
  | 45 => .int
  | 46 => .array .int
  | 47 => .array .boolean
  | 48 => .int
  | 49 => .int
  | 50 => .int
  | 51 => .int
  | 52 => .int
  | 53 => .array .int
  | 54 => .array .int
  | 55 => .int
  | 56 => .int
  | 57 => .int
  | 58 => .boolean
  | 59 => .int
  | 60 => .int
  | 61 => .int
  | 62 => .int
  | 63 => .int
  | 64 => .int
  | 65 => .array .int
  | 66 => .array .int
  | 67 => .array .int
  | 68 => .array .int
  | 69 => .int
  | 70 => .int
  | 71 => .int
  | 72 => .array .int
  | 73 => .array .int
  | 74 => .array .int
  | 75 => .array .int
  | 76 => .array .int
  | 77 => .int
  | 78 => .array .int
  | 79 => .int
  | 80 => .int
  | 81 => .array .int
  | 82 => .array .int
  | 83 => .array .int
  | 84 => .array .int
  | 85 => .array .int
  | 86 => .int
  | 87 => .array .boolean
  | 88 => .array .int
  | 89 => .array .boolean
  | _ => .array .int
theorem n_11 : ∀ a, a < 91 → ∀ b, b < 91 → a ≠ b → (T_11 a).2.1 ≠ (T_11 b).2.1 := by decide +kernel
theorem p_11 : ∀ k, k < 91 → parseFieldDescriptor (T_11 k).2.2.1 = some (y_11 k) := by decide +kernel
def Tn : Nat → u_T
  | 0 => T_0
  | 1 => T_1
  | 2 => T_2
  | 3 => T_3
  | 4 => T_4
  | 5 => T_5
  | 6 => T_6
  | 7 => T_7
  | 8 => T_8
  | 9 => T_9
  | 10 => T_10
  | 11 => T_11
  | _ => T_0
def Yn : Nat → Nat → FieldType
  | 0 => y_0
  | 1 => y_1
  | 2 => y_2
  | 3 => y_3
  | 4 => y_4
  | 5 => y_5
  | 6 => y_6
  | 7 => y_7
  | 8 => y_8
  | 9 => y_9
  | 10 => y_10
  | 11 => y_11
  | _ => y_0
def nfl : Nat → Nat
  | 0 => 12
  | 1 => 10
  | 2 => 2
  | 3 => 5
  | 4 => 13
  | 5 => 5
  | 6 => 4
  | 7 => 3
  | 8 => 2
  | 9 => 6
  | 10 => 8
  | 11 => 91
  | _ => 0
/-- a field's kind: 0 int, 1 boolean, 2 byte, 3 long, 4 a reference -/
def fty (c k : Nat) : Nat := match Yn c k with
  | .int => 0
  | .boolean => 1
  | .byte => 2
  | .long => 3
  | _ => 4
abbrev cl : List vw_C := [(Rn 0, T_0, 12), (Rn 1, T_1, 10), (Rn 2, T_2, 2), (Rn 3, T_3, 5), (Rn 4, T_4, 13), (Rn 5, T_5, 5), (Rn 6, T_6, 4), (Rn 7, T_7, 3), (Rn 8, T_8, 2), (Rn 9, T_9, 6), (Rn 10, T_10, 8), (Rn 11, T_11, 91)]
def aty (c : Nat) : Nat := bif Nat.beq c 20 then 2 else bif Nat.beq c 26 then 4 else bif Nat.beq c 37 then 5 else bif Nat.beq c 40 then 2 else bif Nat.beq c 41 then 2 else bif Nat.beq c 45 then 3 else bif Nat.beq c 46 then 3 else bif Nat.beq c 47 then 3 else bif Nat.beq c 49 then 1 else bif Nat.beq c 54 then 1 else bif Nat.beq c 72 then 1 else bif Nat.beq c 90 then 1 else bif Nat.beq c 92 then 1 else 0
def lenT : List (List Nat) := [[2000], [400], [400], [400], [8], [4], [9], [6, 6, 6, 20, 20], [6, 6, 6, 20, 20], [6, 6, 6, 20, 20], [6, 6, 6, 20, 20], [82], [82], [82], [82], [8, 8, 8], [1600, 1600], [3], [1600], [], [2000], [2000], [403], [403], [403], [403], [10], [28], [2], [18], [18], [18], [18], [18], [18], [2], [12], [12], [12], [2], [12], [12], [2], [12], [12], [12], [2], [2], [2], [2], [2], [40], [40], [4], [4], [90], [90], [90], [90], [20], [20], [20], [20], [80], [1600], [20], [20], [20], [20], [1600], [3], [24], [24], [3]]
def slen (c i : Nat) : Nat := (lenT.getD (c - 20) []).getD i 0
/-- how many objects and arrays of a kind there are when all is made -/
def cfT : List Nat := [1, 1, 2, 5, 1, 1, 3, 7, 1, 9, 1, 1, 0, 0, 0, 0, 0, 0, 0, 0, 1, 1, 1, 1, 1, 1, 1, 5, 5, 5, 5, 1, 1, 1, 1, 3, 2, 1, 1, 0, 1, 1, 1, 1, 1, 1, 1, 1, 1, 1, 1, 1, 1, 1, 1, 1, 1, 1, 1, 1, 1, 1, 1, 1, 1, 1, 1, 1, 1, 1, 1, 1, 1, 1, 1, 1, 1, 1, 1, 1, 1, 1, 1, 1, 1, 1, 1, 1, 1, 1, 1, 1, 1, 1]
def cF (c : Nat) : Nat := cfT.getD c 0
def isLg (c : Nat) : Bool := Nat.beq c 7 || Nat.beq c 45 || Nat.beq c 46 || Nat.beq c 47
def ordT : List (List Nat) := [[0], [9], [59, 61], [11, 16, 21, 48, 53], [3], [43], [64, 66, 68], [36, 37, 38, 39, 40, 41, 42], [1], [26, 27, 28, 29, 30, 31, 32, 33, 34], [35], [70], [], [], [], [], [], [], [], [], [2], [4], [5], [6], [7], [8], [10], [12, 17, 22, 49, 54], [13, 18, 23, 50, 55], [14, 19, 24, 51, 56], [15, 20, 25, 52, 57], [44], [45], [46], [47], [65, 67, 69], [60, 62], [58], [63], [], [71], [72], [73], [74], [75], [76], [77], [78], [79], [80], [81], [82], [83], [84], [85], [86], [87], [88], [89], [90], [91], [92], [93], [94], [95], [96], [97], [98], [99], [100], [101], [102], [103], [104], [105], [106], [107], [108], [109], [110], [111], [112], [113], [114], [115], [116], [117], [118], [119], [120], [121], [122], [123], [124]]
def ord (c i : Nat) : Nat := (ordT.getD c []).getD i 0
def allP : List (Nat × Nat) := (List.range 94).flatMap (fun c => (List.range (cF c)).map (fun i => (c, i)))
def strT : List (List Int) := [[119, 97, 108, 108], [117, 112], [102, 108, 97, 116], [109, 97, 110], [101, 97, 114], [98, 101, 108, 108], [109, 97, 112], [112, 97, 99, 101], [102, 97, 108, 108], [103, 97, 112]]
def staT : List (List Int) := [[4, 3, 2, 3, 2, 1, 1, 1], [8, 6, 6, 6, 400, 400, 400, 400], [0, 0, 0, 0, 0, 0, 1, 0, 0, 0, 0, 0, 0, 0, 0, 0, 1, 1, 0, 0, 1, 0, 0, 0, 1, 0, 0, 0, 0, 0, 0, 0], [99, 99, 99, 99, 99, 99, 99, 0, 99, 99, 0, 0, 99, 99, 9999, 0, 40, 40, 0, 0, 99, 0, 0, 0, 99, 0, 0, 0, 9999, 0, 0, 0]]
def romT (c : Nat) : List (List Int) := bif Nat.beq c 101 then strT else staT
def rom (c i j : Nat) : Int := ((romT c).getD i []).getD j 0
def rlen (c i : Nat) : Nat := ((romT c).getD i []).length
/-- what a maker may make: cells, slots -/
def budT : List (Nat × Nat) := [(69, 8930), (25, 318), (1, 1600), (4, 80), (5, 1212), (4, 328), (1, 8), (0, 0), (1, 2000), (0, 0), (7, 21), (54, 9814)]
def bud (j : Nat) : Nat × Nat := match Nat.beq (j % 1000) 0 with
  | true => bif Nat.beq j 120000 then (600000, 7302250) else budT.getD (j / 1000) (0, 0)
  | false => (0, 0)
