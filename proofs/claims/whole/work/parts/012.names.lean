/-! Names of the classes and their fields: rows of the printed names -/
def RX0 : String := "NothingAboveThree$Reckoner"
def TX0 : u_T := fun k => match k with
  | 0 => ("NothingAboveThree$Reckoner", "answers", "[I", true)
  | 1 => ("NothingAboveThree$Reckoner", "endings", "[I", false)
  | 2 => ("NothingAboveThree$Reckoner", "longer", "[I", false)
  | 3 => ("NothingAboveThree$Reckoner", "round", "[I", true)
  | 4 => ("NothingAboveThree$Reckoner", "bestRound", "I", false)
  | 5 => ("NothingAboveThree$Reckoner", "bestGot", "J", false)
  | 6 => ("NothingAboveThree$Reckoner", "bestGiven", "J", false)
  | 7 => ("NothingAboveThree$Reckoner", "roundGot", "J", false)
  | _ => ("NothingAboveThree$Reckoner", "roundGiven", "J", false)
def tyX0 : Nat → FieldType := fun k => match k with
  | 0 => .array .int
  | 1 => .array .int
  | 2 => .array .int
  | 3 => .array .int
  | 4 => .int
  | 5 => .long
  | 6 => .long
  | 7 => .long
  | _ => .long
theorem nmX0 : ∀ a, a < 9 → ∀ b, b < 9 → a ≠ b → (TX0 a).2.1 ≠ (TX0 b).2.1 := by decide +kernel
theorem tyX0_ok : ∀ k, k < 9 → parseFieldDescriptor (TX0 k).2.2.1 = some (tyX0 k) := by decide +kernel
def RX1 : String := "NothingAboveThree$Runner"
def TX1 : u_T := fun k => match k with
  | 0 => ("NothingAboveThree$Runner", "was", "[I", true)
  | 1 => ("NothingAboveThree$Runner", "heaps", "[I", true)
  | 2 => ("NothingAboveThree$Runner", "places", "[I", true)
  | 3 => ("NothingAboveThree$Runner", "at", "I", false)
  | 4 => ("NothingAboveThree$Runner", "acts", "I", false)
  | 5 => ("NothingAboveThree$Runner", "ends", "I", false)
  | _ => ("NothingAboveThree$Runner", "said", "I", false)
def tyX1 : Nat → FieldType := fun k => match k with
  | 0 => .array .int
  | 1 => .array .int
  | 2 => .array .int
  | 3 => .int
  | 4 => .int
  | 5 => .int
  | _ => .int
theorem nmX1 : ∀ a, a < 7 → ∀ b, b < 7 → a ≠ b → (TX1 a).2.1 ≠ (TX1 b).2.1 := by decide +kernel
theorem tyX1_ok : ∀ k, k < 7 → parseFieldDescriptor (TX1 k).2.2.1 = some (tyX1 k) := by decide +kernel
def RX2 : String := "NothingAboveThree$Sharer"
def TX2 : u_T := fun k => match k with
  | 0 => ("NothingAboveThree$Sharer", "best", "I", false)
  | 1 => ("NothingAboveThree$Sharer", "bestWorth", "I", false)
  | 2 => ("NothingAboveThree$Sharer", "fairOnes", "I", false)
  | _ => ("NothingAboveThree$Sharer", "thought", "[I", true)
def tyX2 : Nat → FieldType := fun k => match k with
  | 0 => .int
  | 1 => .int
  | 2 => .int
  | _ => .array .int
theorem nmX2 : ∀ a, a < 4 → ∀ b, b < 4 → a ≠ b → (TX2 a).2.1 ≠ (TX2 b).2.1 := by decide +kernel
theorem tyX2_ok : ∀ k, k < 4 → parseFieldDescriptor (TX2 k).2.2.1 = some (tyX2 k) := by decide +kernel
def RX3 : String := "NothingAboveThree$State"
def TX3 : u_T := fun k => match k with
  | 0 => ("NothingAboveThree$State", "valley", "[I", true)
  | 1 => ("NothingAboveThree$State", "heaps", "[I", true)
  | 2 => ("NothingAboveThree$State", "places", "[I", true)
  | 3 => ("NothingAboveThree$State", "ran", "Z", false)
  | 4 => ("NothingAboveThree$State", "outcome", "[I", true)
  | 5 => ("NothingAboveThree$State", "leftHeaps", "[I", true)
  | 6 => ("NothingAboveThree$State", "leftPlaces", "[I", true)
  | 7 => ("NothingAboveThree$State", "worth", "[I", true)
  | 8 => ("NothingAboveThree$State", "marks", "[I", true)
  | 9 => ("NothingAboveThree$State", "given", "[I", true)
  | 10 => ("NothingAboveThree$State", "got", "[I", true)
  | _ => ("NothingAboveThree$State", "rests", "[I", true)
def tyX3 : Nat → FieldType := fun k => match k with
  | 0 => .array .int
  | 1 => .array .int
  | 2 => .array .int
  | 3 => .boolean
  | 4 => .array .int
  | 5 => .array .int
  | 6 => .array .int
  | 7 => .array .int
  | 8 => .array .int
  | 9 => .array .int
  | 10 => .array .int
  | _ => .array .int
theorem nmX3 : ∀ a, a < 12 → ∀ b, b < 12 → a ≠ b → (TX3 a).2.1 ≠ (TX3 b).2.1 := by decide +kernel
theorem tyX3_ok : ∀ k, k < 12 → parseFieldDescriptor (TX3 k).2.2.1 = some (tyX3 k) := by decide +kernel
def RX4 : String := "NothingAboveThree$Tape"
def TX4 : u_T := fun k => match k with
  | 0 => ("NothingAboveThree$Tape", "bytes", "[I", true)
  | 1 => ("NothingAboveThree$Tape", "length", "I", false)
  | 2 => ("NothingAboveThree$Tape", "end", "I", false)
  | 3 => ("NothingAboveThree$Tape", "start", "I", false)
  | 4 => ("NothingAboveThree$Tape", "behind", "I", false)
  | 5 => ("NothingAboveThree$Tape", "kind", "I", false)
  | 6 => ("NothingAboveThree$Tape", "number", "I", false)
  | 7 => ("NothingAboveThree$Tape", "faultKind", "I", false)
  | _ => ("NothingAboveThree$Tape", "faultPlace", "I", false)
def tyX4 : Nat → FieldType := fun k => match k with
  | 0 => .array .int
  | 1 => .int
  | 2 => .int
  | 3 => .int
  | 4 => .int
  | 5 => .int
  | 6 => .int
  | 7 => .int
  | _ => .int
theorem nmX4 : ∀ a, a < 9 → ∀ b, b < 9 → a ≠ b → (TX4 a).2.1 ≠ (TX4 b).2.1 := by decide +kernel
theorem tyX4_ok : ∀ k, k < 9 → parseFieldDescriptor (TX4 k).2.2.1 = some (tyX4 k) := by decide +kernel
def RX5 : String := "NothingAboveThree$Task"
def TX5 : u_T := fun k => match k with
  | 0 => ("NothingAboveThree$Task", "signs", "[I", true)
  | 1 => ("NothingAboveThree$Task", "numbers", "[I", true)
  | _ => ("NothingAboveThree$Task", "stack", "[I", true)
def tyX5 : Nat → FieldType := fun k => match k with
  | 0 => .array .int
  | 1 => .array .int
  | _ => .array .int
theorem nmX5 : ∀ a, a < 3 → ∀ b, b < 3 → a ≠ b → (TX5 a).2.1 ≠ (TX5 b).2.1 := by decide +kernel
theorem tyX5_ok : ∀ k, k < 3 → parseFieldDescriptor (TX5 k).2.2.1 = some (tyX5 k) := by decide +kernel
def RX6 : String := "NothingAboveThree$TaskReader"
def TX6 : u_T := fun k => match k with
  | 0 => ("NothingAboveThree$TaskReader", "signs", "[I", true)
  | 1 => ("NothingAboveThree$TaskReader", "numbers", "[I", true)
  | 2 => ("NothingAboveThree$TaskReader", "size", "I", false)
  | 3 => ("NothingAboveThree$TaskReader", "waiting", "[I", true)
  | 4 => ("NothingAboveThree$TaskReader", "top", "I", false)
  | 5 => ("NothingAboveThree$TaskReader", "open", "I", false)
  | 6 => ("NothingAboveThree$TaskReader", "lacksValue", "Z", false)
  | 7 => ("NothingAboveThree$TaskReader", "beginsBasic", "Z", false)
  | 8 => ("NothingAboveThree$TaskReader", "endsInValue", "Z", false)
  | 9 => ("NothingAboveThree$TaskReader", "compared", "Z", false)
  | _ => ("NothingAboveThree$TaskReader", "ended", "Z", false)
def tyX6 : Nat → FieldType := fun k => match k with
  | 0 => .array .int
  | 1 => .array .int
  | 2 => .int
  | 3 => .array .int
  | 4 => .int
  | 5 => .int
  | 6 => .boolean
  | 7 => .boolean
  | 8 => .boolean
  | 9 => .boolean
  | _ => .boolean
theorem nmX6 : ∀ a, a < 11 → ∀ b, b < 11 → a ≠ b → (TX6 a).2.1 ≠ (TX6 b).2.1 := by decide +kernel
theorem tyX6_ok : ∀ k, k < 11 → parseFieldDescriptor (TX6 k).2.2.1 = some (tyX6 k) := by decide +kernel
def RX7 : String := "NothingAboveThree$Trials"
def TX7 : u_T := fun k => match k with
  | 0 => ("NothingAboveThree$Trials", "runner", "LNothingAboveThree$Runner;", true)
  | 1 => ("NothingAboveThree$Trials", "kinds", "[I", true)
  | 2 => ("NothingAboveThree$Trials", "firsts", "[I", true)
  | 3 => ("NothingAboveThree$Trials", "seconds", "[I", true)
  | 4 => ("NothingAboveThree$Trials", "many", "I", false)
  | 5 => ("NothingAboveThree$Trials", "picks", "[I", true)
  | 6 => ("NothingAboveThree$Trials", "way", "LNothingAboveThree$Way;", true)
  | _ => ("NothingAboveThree$Trials", "tried", "I", false)
def tyX7 : Nat → FieldType := fun k => match k with
  | 0 => .object "NothingAboveThree$Runner"
  | 1 => .array .int
  | 2 => .array .int
  | 3 => .array .int
  | 4 => .int
  | 5 => .array .int
  | 6 => .object "NothingAboveThree$Way"
  | _ => .int
theorem nmX7 : ∀ a, a < 8 → ∀ b, b < 8 → a ≠ b → (TX7 a).2.1 ≠ (TX7 b).2.1 := by decide +kernel
theorem tyX7_ok : ∀ k, k < 8 → parseFieldDescriptor (TX7 k).2.2.1 = some (tyX7 k) := by decide +kernel
def RX8 : String := "NothingAboveThree$ValleyReader"
def TX8 : u_T := fun k => match k with
  | 0 => ("NothingAboveThree$ValleyReader", "told", "[I", true)
  | 1 => ("NothingAboveThree$ValleyReader", "seen", "[Z", true)
  | _ => ("NothingAboveThree$ValleyReader", "clauses", "I", false)
def tyX8 : Nat → FieldType := fun k => match k with
  | 0 => .array .int
  | 1 => .array .boolean
  | _ => .int
theorem nmX8 : ∀ a, a < 3 → ∀ b, b < 3 → a ≠ b → (TX8 a).2.1 ≠ (TX8 b).2.1 := by decide +kernel
theorem tyX8_ok : ∀ k, k < 3 → parseFieldDescriptor (TX8 k).2.2.1 = some (tyX8 k) := by decide +kernel
def RX9 : String := "NothingAboveThree$Way"
def TX9 : u_T := fun k => match k with
  | 0 => ("NothingAboveThree$Way", "kinds", "[I", true)
  | 1 => ("NothingAboveThree$Way", "firsts", "[I", true)
  | 2 => ("NothingAboveThree$Way", "seconds", "[I", true)
  | _ => ("NothingAboveThree$Way", "many", "I", false)
def tyX9 : Nat → FieldType := fun k => match k with
  | 0 => .array .int
  | 1 => .array .int
  | 2 => .array .int
  | _ => .int
theorem nmX9 : ∀ a, a < 4 → ∀ b, b < 4 → a ≠ b → (TX9 a).2.1 ≠ (TX9 b).2.1 := by decide +kernel
theorem tyX9_ok : ∀ k, k < 4 → parseFieldDescriptor (TX9 k).2.2.1 = some (tyX9 k) := by decide +kernel
def RX10 : String := "NothingAboveThree$WayReader"
def TX10 : u_T := fun k => match k with
  | _ => ("NothingAboveThree$WayReader", "read", "LNothingAboveThree$Way;", true)
def tyX10 : Nat → FieldType := fun k => match k with
  | _ => .object "NothingAboveThree$Way"
theorem nmX10 : ∀ a, a < 1 → ∀ b, b < 1 → a ≠ b → (TX10 a).2.1 ≠ (TX10 b).2.1 := by decide +kernel
theorem tyX10_ok : ∀ k, k < 1 → parseFieldDescriptor (TX10 k).2.2.1 = some (tyX10 k) := by decide +kernel
def RX11 : String := "NothingAboveThree"
def TX11 : u_T := fun k => match k with
  | 0 => ("NothingAboveThree", "tape", "LNothingAboveThree$Tape;", true)
  | 1 => ("NothingAboveThree", "valleyReader", "LNothingAboveThree$ValleyReader;", true)
  | 2 => ("NothingAboveThree", "wayReader", "LNothingAboveThree$WayReader;", true)
  | 3 => ("NothingAboveThree", "taskReader", "LNothingAboveThree$TaskReader;", true)
  | 4 => ("NothingAboveThree", "ways", "[LNothingAboveThree$Way;", true)
  | 5 => ("NothingAboveThree", "tasks", "[LNothingAboveThree$Task;", true)
  | 6 => ("NothingAboveThree", "wayCount", "I", false)
  | 7 => ("NothingAboveThree", "taskCount", "I", false)
  | 8 => ("NothingAboveThree", "state", "LNothingAboveThree$State;", true)
  | 9 => ("NothingAboveThree", "images", "[LNothingAboveThree$State;", true)
  | 10 => ("NothingAboveThree", "imageCount", "I", false)
  | 11 => ("NothingAboveThree", "refused", "[I", true)
  | 12 => ("NothingAboveThree", "runner", "LNothingAboveThree$Runner;", true)
  | 13 => ("NothingAboveThree", "trials", "LNothingAboveThree$Trials;", true)
  | 14 => ("NothingAboveThree", "sharer", "LNothingAboveThree$Sharer;", true)
  | _ => ("NothingAboveThree", "reckoner", "LNothingAboveThree$Reckoner;", true)
def tyX11 : Nat → FieldType := fun k => match k with
  | 0 => .object "NothingAboveThree$Tape"
  | 1 => .object "NothingAboveThree$ValleyReader"
  | 2 => .object "NothingAboveThree$WayReader"
  | 3 => .object "NothingAboveThree$TaskReader"
  | 4 => .array (.object "NothingAboveThree$Way")
  | 5 => .array (.object "NothingAboveThree$Task")
  | 6 => .int
  | 7 => .int
  | 8 => .object "NothingAboveThree$State"
  | 9 => .array (.object "NothingAboveThree$State")
  | 10 => .int
  | 11 => .array .int
  | 12 => .object "NothingAboveThree$Runner"
  | 13 => .object "NothingAboveThree$Trials"
  | 14 => .object "NothingAboveThree$Sharer"
  | _ => .object "NothingAboveThree$Reckoner"
theorem nmX11 : ∀ a, a < 16 → ∀ b, b < 16 → a ≠ b → (TX11 a).2.1 ≠ (TX11 b).2.1 := by decide +kernel
theorem tyX11_ok : ∀ k, k < 16 → parseFieldDescriptor (TX11 k).2.2.1 = some (tyX11 k) := by decide +kernel
def RX12 : String := "NothingAboveThreeModel"
def TX12 : u_T := fun k => match k with
  | 0 => ("NothingAboveThreeModel", "thrown", "I", false)
  | 1 => ("NothingAboveThreeModel", "refused", "[I", true)
  | 2 => ("NothingAboveThreeModel", "s", "[I", true)
  | 3 => ("NothingAboveThreeModel", "image", "[I", true)
  | 4 => ("NothingAboveThreeModel", "images", "I", false)
  | 5 => ("NothingAboveThreeModel", "taped", "I", false)
  | 6 => ("NothingAboveThreeModel", "size", "I", false)
  | 7 => ("NothingAboveThreeModel", "at", "I", false)
  | 8 => ("NothingAboveThreeModel", "bad", "I", false)
  | 9 => ("NothingAboveThreeModel", "badKind", "I", false)
  | 10 => ("NothingAboveThreeModel", "opens", "I", false)
  | 11 => ("NothingAboveThreeModel", "faultAt", "I", false)
  | 12 => ("NothingAboveThreeModel", "tape", "[I", true)
  | 13 => ("NothingAboveThreeModel", "told", "[I", true)
  | 14 => ("NothingAboveThreeModel", "ways", "I", false)
  | 15 => ("NothingAboveThreeModel", "tasks", "I", false)
  | 16 => ("NothingAboveThreeModel", "length", "[I", true)
  | 17 => ("NothingAboveThreeModel", "kind", "[I", true)
  | 18 => ("NothingAboveThreeModel", "one", "[I", true)
  | 19 => ("NothingAboveThreeModel", "other", "[I", true)
  | 20 => ("NothingAboveThreeModel", "steps", "I", false)
  | 21 => ("NothingAboveThreeModel", "step", "[I", true)
  | 22 => ("NothingAboveThreeModel", "stepValue", "[I", true)
  | 23 => ("NothingAboveThreeModel", "condMany", "[I", true)
  | 24 => ("NothingAboveThreeModel", "condFrom", "[I", true)
  | 25 => ("NothingAboveThreeModel", "stack", "[I", true)
  | 26 => ("NothingAboveThreeModel", "was", "[I", true)
  | 27 => ("NothingAboveThreeModel", "heap", "[I", true)
  | 28 => ("NothingAboveThreeModel", "place", "[I", true)
  | 29 => ("NothingAboveThreeModel", "ended", "I", false)
  | 30 => ("NothingAboveThreeModel", "done", "I", false)
  | 31 => ("NothingAboveThreeModel", "stands", "I", false)
  | 32 => ("NothingAboveThreeModel", "said", "I", false)
  | 33 => ("NothingAboveThreeModel", "jump", "I", false)
  | 34 => ("NothingAboveThreeModel", "keepAt", "I", false)
  | 35 => ("NothingAboveThreeModel", "keepTask", "I", false)
  | 36 => ("NothingAboveThreeModel", "isKept", "Z", false)
  | 37 => ("NothingAboveThreeModel", "rightMany", "I", false)
  | 38 => ("NothingAboveThreeModel", "leastWrong", "I", false)
  | 39 => ("NothingAboveThreeModel", "choices", "I", false)
  | 40 => ("NothingAboveThreeModel", "choiceKind", "[I", true)
  | 41 => ("NothingAboveThreeModel", "choiceOne", "[I", true)
  | 42 => ("NothingAboveThreeModel", "choiceOther", "[I", true)
  | 43 => ("NothingAboveThreeModel", "picked", "[I", true)
  | 44 => ("NothingAboveThreeModel", "foundLength", "I", false)
  | 45 => ("NothingAboveThreeModel", "foundTried", "I", false)
  | 46 => ("NothingAboveThreeModel", "rivals", "I", false)
  | 47 => ("NothingAboveThreeModel", "found", "[I", true)
  | 48 => ("NothingAboveThreeModel", "foundKind", "[I", true)
  | 49 => ("NothingAboveThreeModel", "foundOne", "[I", true)
  | 50 => ("NothingAboveThreeModel", "foundOther", "[I", true)
  | 51 => ("NothingAboveThreeModel", "bestGet", "J", false)
  | 52 => ("NothingAboveThreeModel", "bestGive", "J", false)
  | 53 => ("NothingAboveThreeModel", "bestRound", "I", false)
  | 54 => ("NothingAboveThreeModel", "banned", "[I", true)
  | 55 => ("NothingAboveThreeModel", "figures", "[I", true)
  | 56 => ("NothingAboveThreeModel", "loose", "[J", true)
  | 57 => ("NothingAboveThreeModel", "then", "[J", true)
  | 58 => ("NothingAboveThreeModel", "bannedMany", "I", false)
  | _ => ("NothingAboveThreeModel", "words", "[I", true)
def tyX12 : Nat → FieldType := fun k => match k with
  | 0 => .int
  | 1 => .array .int
  | 2 => .array .int
  | 3 => .array .int
  | 4 => .int
  | 5 => .int
  | 6 => .int
  | 7 => .int
  | 8 => .int
  | 9 => .int
  | 10 => .int
  | 11 => .int
  | 12 => .array .int
  | 13 => .array .int
  | 14 => .int
  | 15 => .int
  | 16 => .array .int
  | 17 => .array .int
  | 18 => .array .int
  | 19 => .array .int
  | 20 => .int
  | 21 => .array .int
  | 22 => .array .int
  | 23 => .array .int
  | 24 => .array .int
  | 25 => .array .int
  | 26 => .array .int
  | 27 => .array .int
  | 28 => .array .int
  | 29 => .int
  | 30 => .int
  | 31 => .int
  | 32 => .int
  | 33 => .int
  | 34 => .int
  | 35 => .int
  | 36 => .boolean
  | 37 => .int
  | 38 => .int
  | 39 => .int
  | 40 => .array .int
  | 41 => .array .int
  | 42 => .array .int
  | 43 => .array .int
  | 44 => .int
  | 45 => .int
  | 46 => .int
  | 47 => .array .int
  | 48 => .array .int
  | 49 => .array .int
  | 50 => .array .int
  | 51 => .long
  | 52 => .long
  | 53 => .int
  | 54 => .array .int
  | 55 => .array .int
  | 56 => .array .long
  | 57 => .array .long
  | 58 => .int
  | _ => .array .int
theorem nmX12 : ∀ a, a < 60 → ∀ b, b < 60 → a ≠ b → (TX12 a).2.1 ≠ (TX12 b).2.1 := by decide +kernel
theorem tyX12_ok : ∀ k, k < 60 → parseFieldDescriptor (TX12 k).2.2.1 = some (tyX12 k) := by decide +kernel
abbrev vwCl : List vw_C := [(RX0, TX0, 9), (RX1, TX1, 7), (RX2, TX2, 4), (RX3, TX3, 12), (RX4, TX4, 9), (RX5, TX5, 3), (RX6, TX6, 11), (RX7, TX7, 8), (RX8, TX8, 3), (RX9, TX9, 4), (RX10, TX10, 1), (RX11, TX11, 16), (RX12, TX12, 60)]
def zfty (ci : Nat) : Nat → FieldType := match ci with
  | 0 => tyX0
  | 1 => tyX1
  | 2 => tyX2
  | 3 => tyX3
  | 4 => tyX4
  | 5 => tyX5
  | 6 => tyX6
  | 7 => tyX7
  | 8 => tyX8
  | 9 => tyX9
  | 10 => tyX10
  | 11 => tyX11
  | _ => tyX12
def zfn (ci : Nat) : Nat := match vwCl[ci]? with
  | some q => q.2.2
  | none => 0
