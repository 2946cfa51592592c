def RX0 : String := "WokenOnce$Bell"
def TX0 : u_T := fun k => match k with
  | 0 => ("WokenOnce$Bell", "chances", "[I", true)
  | _ => ("WokenOnce$Bell", "pairs", "I", false)
def tyX0 : Nat → FieldType := fun k => match k with
  | 0 => .array .int
  | _ => .int
theorem nmX0 : ∀ a, a < 2 → ∀ b, b < 2 → a ≠ b → (TX0 a).2.1 ≠ (TX0 b).2.1 := by decide +kernel
theorem tyX0_ok : ∀ k, k < 2 → parseFieldDescriptor (TX0 k).2.2.1 = some (tyX0 k) := by decide +kernel
def RX1 : String := "WokenOnce$BellReader"
def TX1 : u_T := fun k => match k with
  | 0 => ("WokenOnce$BellReader", "chances", "[I", true)
  | 1 => ("WokenOnce$BellReader", "pairs", "I", false)
  | 2 => ("WokenOnce$BellReader", "hour", "I", false)
  | 3 => ("WokenOnce$BellReader", "thing", "I", false)
  | 4 => ("WokenOnce$BellReader", "sum", "I", false)
  | _ => ("WokenOnce$BellReader", "place", "I", false)
def tyX1 : Nat → FieldType := fun k => match k with
  | 0 => .array .int
  | 1 => .int
  | 2 => .int
  | 3 => .int
  | 4 => .int
  | _ => .int
theorem nmX1 : ∀ a, a < 6 → ∀ b, b < 6 → a ≠ b → (TX1 a).2.1 ≠ (TX1 b).2.1 := by decide +kernel
theorem tyX1_ok : ∀ k, k < 6 → parseFieldDescriptor (TX1 k).2.2.1 = some (tyX1 k) := by decide +kernel
def RX2 : String := "WokenOnce$Choices"
def TX2 : u_T := fun k => match k with
  | 0 => ("WokenOnce$Choices", "sets", "[I", true)
  | 1 => ("WokenOnce$Choices", "spent", "[I", true)
  | 2 => ("WokenOnce$Choices", "gains", "[J", true)
  | 3 => ("WokenOnce$Choices", "alone", "[I", true)
  | 4 => ("WokenOnce$Choices", "size", "I", false)
  | _ => ("WokenOnce$Choices", "picked", "I", false)
def tyX2 : Nat → FieldType := fun k => match k with
  | 0 => .array .int
  | 1 => .array .int
  | 2 => .array .long
  | 3 => .array .int
  | 4 => .int
  | _ => .int
theorem nmX2 : ∀ a, a < 6 → ∀ b, b < 6 → a ≠ b → (TX2 a).2.1 ≠ (TX2 b).2.1 := by decide +kernel
theorem tyX2_ok : ∀ k, k < 6 → parseFieldDescriptor (TX2 k).2.2.1 = some (tyX2 k) := by decide +kernel
def RX3 : String := "WokenOnce$House"
def TX3 : u_T := fun k => match k with
  | 0 => ("WokenOnce$House", "kinds", "[I", true)
  | 1 => ("WokenOnce$House", "costs", "[I", true)
  | 2 => ("WokenOnce$House", "skills", "[I", true)
  | 3 => ("WokenOnce$House", "harms", "[I", true)
  | 4 => ("WokenOnce$House", "size", "I", false)
  | _ => ("WokenOnce$House", "nurses", "I", false)
def tyX3 : Nat → FieldType := fun k => match k with
  | 0 => .array .int
  | 1 => .array .int
  | 2 => .array .int
  | 3 => .array .int
  | 4 => .int
  | _ => .int
theorem nmX3 : ∀ a, a < 6 → ∀ b, b < 6 → a ≠ b → (TX3 a).2.1 ≠ (TX3 b).2.1 := by decide +kernel
theorem tyX3_ok : ∀ k, k < 6 → parseFieldDescriptor (TX3 k).2.2.1 = some (tyX3 k) := by decide +kernel
def RX4 : String := "WokenOnce$Image"
def TX4 : u_T := fun k => match k with
  | 0 => ("WokenOnce$Image", "skills", "[I", true)
  | 1 => ("WokenOnce$Image", "harms", "[I", true)
  | 2 => ("WokenOnce$Image", "size", "I", false)
  | 3 => ("WokenOnce$Image", "hour", "I", false)
  | 4 => ("WokenOnce$Image", "woken", "I", false)
  | 5 => ("WokenOnce$Image", "mended", "I", false)
  | _ => ("WokenOnce$Image", "left", "I", false)
def tyX4 : Nat → FieldType := fun k => match k with
  | 0 => .array .int
  | 1 => .array .int
  | 2 => .int
  | 3 => .int
  | 4 => .int
  | 5 => .int
  | _ => .int
theorem nmX4 : ∀ a, a < 7 → ∀ b, b < 7 → a ≠ b → (TX4 a).2.1 ≠ (TX4 b).2.1 := by decide +kernel
theorem tyX4_ok : ∀ k, k < 7 → parseFieldDescriptor (TX4 k).2.2.1 = some (tyX4 k) := by decide +kernel
def RX5 : String := "WokenOnce$Night"
def TX5 : u_T := fun k => match k with
  | 0 => ("WokenOnce$Night", "hour", "I", false)
  | 1 => ("WokenOnce$Night", "woken", "I", false)
  | 2 => ("WokenOnce$Night", "mended", "I", false)
  | _ => ("WokenOnce$Night", "left", "I", false)
def tyX5 : Nat → FieldType := fun k => match k with
  | 0 => .int
  | 1 => .int
  | 2 => .int
  | _ => .int
theorem nmX5 : ∀ a, a < 4 → ∀ b, b < 4 → a ≠ b → (TX5 a).2.1 ≠ (TX5 b).2.1 := by decide +kernel
theorem tyX5_ok : ∀ k, k < 4 → parseFieldDescriptor (TX5 k).2.2.1 = some (tyX5 k) := by decide +kernel
def RX6 : String := "WokenOnce$Page"
def TX6 : u_T := fun k => match k with
  | 0 => ("WokenOnce$Page", "codes", "[I", true)
  | _ => ("WokenOnce$Page", "length", "I", false)
def tyX6 : Nat → FieldType := fun k => match k with
  | 0 => .array .int
  | _ => .int
theorem nmX6 : ∀ a, a < 2 → ∀ b, b < 2 → a ≠ b → (TX6 a).2.1 ≠ (TX6 b).2.1 := by decide +kernel
theorem tyX6_ok : ∀ k, k < 2 → parseFieldDescriptor (TX6 k).2.2.1 = some (tyX6 k) := by decide +kernel
def RX8 : String := "WokenOnce$Rule"
def TX8 : u_T := fun k => match k with
  | 0 => ("WokenOnce$Rule", "order", "[I", true)
  | 1 => ("WokenOnce$Rule", "size", "I", false)
  | _ => ("WokenOnce$Rule", "tens", "I", false)
def tyX8 : Nat → FieldType := fun k => match k with
  | 0 => .array .int
  | 1 => .int
  | _ => .int
theorem nmX8 : ∀ a, a < 3 → ∀ b, b < 3 → a ≠ b → (TX8 a).2.1 ≠ (TX8 b).2.1 := by decide +kernel
theorem tyX8_ok : ∀ k, k < 3 → parseFieldDescriptor (TX8 k).2.2.1 = some (tyX8 k) := by decide +kernel
def RX9 : String := "WokenOnce$RuleReader"
def TX9 : u_T := fun k => match k with
  | 0 => ("WokenOnce$RuleReader", "order", "[I", true)
  | 1 => ("WokenOnce$RuleReader", "size", "I", false)
  | 2 => ("WokenOnce$RuleReader", "tens", "I", false)
  | 3 => ("WokenOnce$RuleReader", "sleepers", "I", false)
  | 4 => ("WokenOnce$RuleReader", "named", "I", false)
  | _ => ("WokenOnce$RuleReader", "place", "I", false)
def tyX9 : Nat → FieldType := fun k => match k with
  | 0 => .array .int
  | 1 => .int
  | 2 => .int
  | 3 => .int
  | 4 => .int
  | _ => .int
theorem nmX9 : ∀ a, a < 6 → ∀ b, b < 6 → a ≠ b → (TX9 a).2.1 ≠ (TX9 b).2.1 := by decide +kernel
theorem tyX9_ok : ∀ k, k < 6 → parseFieldDescriptor (TX9 k).2.2.1 = some (tyX9 k) := by decide +kernel
def RX10 : String := "WokenOnce$Table"
def TX10 : u_T := fun k => match k with
  | _ => ("WokenOnce$Table", "values", "[J", true)
def tyX10 : Nat → FieldType := fun k => match k with
  | _ => .array .long
theorem nmX10 : ∀ a, a < 1 → ∀ b, b < 1 → a ≠ b → (TX10 a).2.1 ≠ (TX10 b).2.1 := by decide +kernel
theorem tyX10_ok : ∀ k, k < 1 → parseFieldDescriptor (TX10 k).2.2.1 = some (tyX10 k) := by decide +kernel
def RX11 : String := "WokenOnce"
def TX11 : u_T := fun k => match k with
  | 0 => ("WokenOnce", "page", "LWokenOnce$Page;", true)
  | 1 => ("WokenOnce", "bellReader", "LWokenOnce$BellReader;", true)
  | 2 => ("WokenOnce", "ruleReader", "LWokenOnce$RuleReader;", true)
  | 3 => ("WokenOnce", "bell", "LWokenOnce$Bell;", true)
  | 4 => ("WokenOnce", "rule", "LWokenOnce$Rule;", true)
  | 5 => ("WokenOnce", "house", "LWokenOnce$House;", true)
  | 6 => ("WokenOnce", "night", "LWokenOnce$Night;", true)
  | 7 => ("WokenOnce", "image", "LWokenOnce$Image;", true)
  | 8 => ("WokenOnce", "choices", "LWokenOnce$Choices;", true)
  | 9 => ("WokenOnce", "plan", "LWokenOnce$Table;", true)
  | 10 => ("WokenOnce", "work", "LWokenOnce$Table;", true)
  | _ => ("WokenOnce", "planReady", "Z", false)
def tyX11 : Nat → FieldType := fun k => match k with
  | 0 => .object "WokenOnce$Page"
  | 1 => .object "WokenOnce$BellReader"
  | 2 => .object "WokenOnce$RuleReader"
  | 3 => .object "WokenOnce$Bell"
  | 4 => .object "WokenOnce$Rule"
  | 5 => .object "WokenOnce$House"
  | 6 => .object "WokenOnce$Night"
  | 7 => .object "WokenOnce$Image"
  | 8 => .object "WokenOnce$Choices"
  | 9 => .object "WokenOnce$Table"
  | 10 => .object "WokenOnce$Table"
  | _ => .boolean
theorem nmX11 : ∀ a, a < 12 → ∀ b, b < 12 → a ≠ b → (TX11 a).2.1 ≠ (TX11 b).2.1 := by decide +kernel
theorem tyX11_ok : ∀ k, k < 12 → parseFieldDescriptor (TX11 k).2.2.1 = some (tyX11 k) := by decide +kernel
def RX12 : String := "WokenOnceModel"
def TX12 : u_T := fun k => match k with
  | 0 => ("WokenOnceModel", "page", "[I", true)
  | 1 => ("WokenOnceModel", "pageMany", "I", false)
  | 2 => ("WokenOnceModel", "bellRows", "[I", true)
  | 3 => ("WokenOnceModel", "bellMany", "I", false)
  | 4 => ("WokenOnceModel", "readBell", "[I", true)
  | 5 => ("WokenOnceModel", "readHour", "I", false)
  | 6 => ("WokenOnceModel", "readThing", "I", false)
  | 7 => ("WokenOnceModel", "readPairs", "I", false)
  | 8 => ("WokenOnceModel", "state", "I", false)
  | 9 => ("WokenOnceModel", "ruleMany", "I", false)
  | 10 => ("WokenOnceModel", "ruleTens", "I", false)
  | 11 => ("WokenOnceModel", "rule", "[I", true)
  | 12 => ("WokenOnceModel", "readRuleMany", "I", false)
  | 13 => ("WokenOnceModel", "readTens", "I", false)
  | 14 => ("WokenOnceModel", "readRule", "[I", true)
  | 15 => ("WokenOnceModel", "sleepers", "I", false)
  | 16 => ("WokenOnceModel", "hourNow", "I", false)
  | 17 => ("WokenOnceModel", "woken", "I", false)
  | 18 => ("WokenOnceModel", "mendedAll", "I", false)
  | 19 => ("WokenOnceModel", "leftAll", "I", false)
  | 20 => ("WokenOnceModel", "kinds", "[I", true)
  | 21 => ("WokenOnceModel", "costs", "[I", true)
  | 22 => ("WokenOnceModel", "skills", "[I", true)
  | 23 => ("WokenOnceModel", "harms", "[I", true)
  | 24 => ("WokenOnceModel", "bests", "[J", true)
  | 25 => ("WokenOnceModel", "powers", "[J", true)
  | 26 => ("WokenOnceModel", "worsts", "[I", true)
  | 27 => ("WokenOnceModel", "ruled", "[J", true)
  | 28 => ("WokenOnceModel", "cameIn", "[I", true)
  | 29 => ("WokenOnceModel", "seedNow", "I", false)
  | 30 => ("WokenOnceModel", "keptHour", "I", false)
  | 31 => ("WokenOnceModel", "keptSleepers", "I", false)
  | 32 => ("WokenOnceModel", "keptWoken", "I", false)
  | 33 => ("WokenOnceModel", "keptMended", "I", false)
  | 34 => ("WokenOnceModel", "keptLeft", "I", false)
  | 35 => ("WokenOnceModel", "keptHarms", "[I", true)
  | 36 => ("WokenOnceModel", "keptSkills", "[I", true)
  | _ => ("WokenOnceModel", "hash", "J", false)
def tyX12 : Nat → FieldType := fun k => match k with
  | 0 => .array .int
  | 1 => .int
  | 2 => .array .int
  | 3 => .int
  | 4 => .array .int
  | 5 => .int
  | 6 => .int
  | 7 => .int
  | 8 => .int
  | 9 => .int
  | 10 => .int
  | 11 => .array .int
  | 12 => .int
  | 13 => .int
  | 14 => .array .int
  | 15 => .int
  | 16 => .int
  | 17 => .int
  | 18 => .int
  | 19 => .int
  | 20 => .array .int
  | 21 => .array .int
  | 22 => .array .int
  | 23 => .array .int
  | 24 => .array .long
  | 25 => .array .long
  | 26 => .array .int
  | 27 => .array .long
  | 28 => .array .int
  | 29 => .int
  | 30 => .int
  | 31 => .int
  | 32 => .int
  | 33 => .int
  | 34 => .int
  | 35 => .array .int
  | 36 => .array .int
  | _ => .long
theorem nmX12 : ∀ a, a < 38 → ∀ b, b < 38 → a ≠ b → (TX12 a).2.1 ≠ (TX12 b).2.1 := by decide +kernel
theorem tyX12_ok : ∀ k, k < 38 → parseFieldDescriptor (TX12 k).2.2.1 = some (tyX12 k) := by decide +kernel
abbrev vwCl : List vw_C := [(RX0, TX0, 2), (RX1, TX1, 6), (RX2, TX2, 6), (RX3, TX3, 6), (RX4, TX4, 7), (RX5, TX5, 4), (RX6, TX6, 2), (RX8, TX8, 3), (RX9, TX9, 6), (RX10, TX10, 1), (RX11, TX11, 12), (RX12, TX12, 38)]
/-- every word that travels -/
def me_GT : List Cond := lw_tbl.filter goodWord
def me_mnL : List MethodName := [⟨"WokenOnce$Bell", "<init>", "()V"⟩, ⟨"WokenOnce$Bell", "take", "(LWokenOnce$BellReader;)V"⟩, ⟨"WokenOnce$Bell", "chance", "(II)I"⟩, ⟨"WokenOnce$Bell", "thingBy", "(II)I"⟩, ⟨"WokenOnce$BellReader", "<init>", "()V"⟩, ⟨"WokenOnce$BellReader", "begin", "()V"⟩, ⟨"WokenOnce$BellReader", "beginPart", "(I)V"⟩, ⟨"WokenOnce$BellReader", "takes", "(I)Z"⟩, ⟨"WokenOnce$BellReader", "isWhole", "()Z"⟩, ⟨"WokenOnce$BellReader", "takesDash", "(I)Z"⟩, ⟨"WokenOnce$BellReader", "takesSlash", "(I)Z"⟩, ⟨"WokenOnce$BellReader", "takesLetter", "(I)Z"⟩, ⟨"WokenOnce$BellReader", "takesDigit", "(I)Z"⟩, ⟨"WokenOnce$Choices", "<init>", "()V"⟩, ⟨"WokenOnce$Choices", "gather", "(LWokenOnce$House;II)V"⟩, ⟨"WokenOnce$Choices", "add", "(LWokenOnce$House;II)V"⟩, ⟨"WokenOnce$Choices", "most", "(LWokenOnce$Table;IIJ)J"⟩, ⟨"WokenOnce$House", "<init>", "()V"⟩, ⟨"WokenOnce$House", "isKind", "(I)Z"⟩, ⟨"WokenOnce$House", "add", "(II)V"⟩, ⟨"WokenOnce$House", "has", "(I)Z"⟩, ⟨"WokenOnce$House", "kindOf", "(I)I"⟩, ⟨"WokenOnce$House", "costOf", "(I)I"⟩, ⟨"WokenOnce$House", "isOf", "(II)Z"⟩, ⟨"WokenOnce$House", "told", "(II)I"⟩, ⟨"WokenOnce$House", "tell", "(III)V"⟩, ⟨"WokenOnce$House", "harmOf", "(I)I"⟩, ⟨"WokenOnce$House", "setHarm", "(II)V"⟩, ⟨"WokenOnce$House", "everybody", "()I"⟩, ⟨"WokenOnce$House", "isSet", "(I)Z"⟩, ⟨"WokenOnce$House", "isSetToWake", "(I)Z"⟩, ⟨"WokenOnce$House", "spent", "(I)I"⟩, ⟨"WokenOnce$House", "costOfSet", "(I)I"⟩, ⟨"WokenOnce$House", "mayBeWoken", "(III)Z"⟩, ⟨"WokenOnce$House", "mends", "(III)I"⟩, ⟨"WokenOnce$House", "mendedBy", "(III)I"⟩, ⟨"WokenOnce$Image", "<init>", "()V"⟩, ⟨"WokenOnce$Image", "keep", "(LWokenOnce$House;LWokenOnce$Night;)V"⟩, ⟨"WokenOnce$Image", "giveBack", "(LWokenOnce$House;LWokenOnce$Night;)V"⟩, ⟨"WokenOnce$Night", "<init>", "()V"⟩, ⟨"WokenOnce$Night", "woke", "(I)Z"⟩, ⟨"WokenOnce$Night", "pass", "(III)V"⟩, ⟨"WokenOnce$Page", "<init>", "()V"⟩, ⟨"WokenOnce$Page", "add", "(I)V"⟩, ⟨"WokenOnce$Page", "codeAt", "(I)I"⟩, ⟨"WokenOnce$Page", "readBy", "(LWokenOnce$Reader;)I"⟩, ⟨"WokenOnce$Reader", "<init>", "()V"⟩, ⟨"WokenOnce$Rule", "<init>", "()V"⟩, ⟨"WokenOnce$Rule", "take", "(LWokenOnce$RuleReader;)V"⟩, ⟨"WokenOnce$Rule", "at", "(I)I"⟩, ⟨"WokenOnce$RuleReader", "<init>", "()V"⟩, ⟨"WokenOnce$RuleReader", "begin", "(I)V"⟩, ⟨"WokenOnce$RuleReader", "takes", "(I)Z"⟩, ⟨"WokenOnce$RuleReader", "isWhole", "()Z"⟩, ⟨"WokenOnce$RuleReader", "takesPlus", "(I)Z"⟩, ⟨"WokenOnce$RuleReader", "takesSleeper", "(I)Z"⟩, ⟨"WokenOnce$RuleReader", "takesTens", "(I)Z"⟩, ⟨"WokenOnce$Table", "<init>", "()V"⟩, ⟨"WokenOnce$Table", "at", "(II)J"⟩, ⟨"WokenOnce$Table", "put", "(IIJ)V"⟩, ⟨"WokenOnce$Table", "add", "(IIJ)V"⟩, ⟨"WokenOnce$Table", "clear", "(I)V"⟩, ⟨"WokenOnce$Table", "has", "(II)Z"⟩, ⟨"WokenOnce", "<init>", "()V"⟩, ⟨"WokenOnce", "letters", "(J)I"⟩, ⟨"WokenOnce", "blank", "()I"⟩, ⟨"WokenOnce", "fault", "(I)I"⟩, ⟨"WokenOnce", "bell", "()I"⟩, ⟨"WokenOnce", "rule", "()I"⟩, ⟨"WokenOnce", "tenths", "(II)I"⟩, ⟨"WokenOnce", "sleeper", "(II)I"⟩, ⟨"WokenOnce", "skill", "(III)I"⟩, ⟨"WokenOnce", "harm", "(II)I"⟩, ⟨"WokenOnce", "about", "(II)I"⟩, ⟨"WokenOnce", "as", "(II)I"⟩, ⟨"WokenOnce", "come", "(II)I"⟩, ⟨"WokenOnce", "evening", "()I"⟩, ⟨"WokenOnce", "best", "(I)J"⟩, ⟨"WokenOnce", "whom", "(I)I"⟩, ⟨"WokenOnce", "worst", "()I"⟩, ⟨"WokenOnce", "known", "(I)I"⟩, ⟨"WokenOnce", "byRule", "(I)J"⟩, ⟨"WokenOnce", "worth", "(II)J"⟩, ⟨"WokenOnce", "roster", "(I)I"⟩, ⟨"WokenOnce", "seen", "(I)I"⟩, ⟨"WokenOnce", "sure", "(II)I"⟩, ⟨"WokenOnce", "night", "(II)I"⟩, ⟨"WokenOnce", "image", "()I"⟩, ⟨"WokenOnce", "restore", "()I"⟩, ⟨"WokenOnce", "count", "(I)I"⟩, ⟨"WokenOnce", "digest", "()J"⟩, ⟨"WokenOnce", "isHour", "(I)Z"⟩, ⟨"WokenOnce", "isThing", "(I)Z"⟩, ⟨"WokenOnce", "isUpTo99", "(I)Z"⟩, ⟨"WokenOnce", "isPart", "(I)Z"⟩, ⟨"WokenOnce", "powerOfTen", "(I)J"⟩, ⟨"WokenOnce", "powerOfFive", "(I)I"⟩, ⟨"WokenOnce", "figureOf", "(II)I"⟩, ⟨"WokenOnce", "byteOf", "(JI)I"⟩, ⟨"WokenOnce", "lettersIn", "(J)I"⟩, ⟨"WokenOnce", "mix", "(JJ)J"⟩, ⟨"WokenOnce", "greatestDivisor", "(JJ)J"⟩, ⟨"WokenOnce", "partOf", "(JJI)J"⟩, ⟨"WokenOnce", "nextSeed", "(I)I"⟩, ⟨"WokenOnce", "asleep", "()I"⟩, ⟨"WokenOnce", "mayAll", "(I)Z"⟩, ⟨"WokenOnce", "aboutThing", "(II)I"⟩, ⟨"WokenOnce", "digestOfHouse", "(J)J"⟩, ⟨"WokenOnce", "makePlan", "()V"⟩, ⟨"WokenOnce", "planThing", "(IIJ)V"⟩, ⟨"WokenOnce", "plannedSet", "(III)I"⟩, ⟨"WokenOnce", "isBetterRoster", "(II)Z"⟩, ⟨"WokenOnce", "expectNothing", "(I)V"⟩, ⟨"WokenOnce", "expectThing", "(II)V"⟩, ⟨"WokenOnce", "fearThing", "(II)V"⟩, ⟨"WokenOnce", "ruledSet", "(III)I"⟩, ⟨"WokenOnce", "beginWays", "(II)V"⟩, ⟨"WokenOnce", "weighHour", "(I)J"⟩, ⟨"WokenOnce", "weighThings", "(IIJ)J"⟩, ⟨"WokenOnce", "waysTo", "(III)J"⟩, ⟨"WokenOnce", "goOn", "(IIJI)V"⟩, ⟨"WokenOnce", "drawNight", "(II)I"⟩, ⟨"WokenOnceModel", "<init>", "()V"⟩, ⟨"WokenOnceModel", "in", "(JJJ)Z"⟩, ⟨"WokenOnceModel", "letters", "(J)I"⟩, ⟨"WokenOnceModel", "blank", "()I"⟩, ⟨"WokenOnceModel", "readTenths", "()I"⟩, ⟨"WokenOnceModel", "goBell", "(I)Z"⟩, ⟨"WokenOnceModel", "bellFault", "()I"⟩, ⟨"WokenOnceModel", "goRule", "(I)Z"⟩, ⟨"WokenOnceModel", "ruleFault", "()I"⟩, ⟨"WokenOnceModel", "fault", "(I)I"⟩, ⟨"WokenOnceModel", "bell", "()I"⟩, ⟨"WokenOnceModel", "rule", "()I"⟩, ⟨"WokenOnceModel", "tenths", "(II)I"⟩, ⟨"WokenOnceModel", "isSleeper", "(I)Z"⟩, ⟨"WokenOnceModel", "sleeper", "(II)I"⟩, ⟨"WokenOnceModel", "skill", "(III)I"⟩, ⟨"WokenOnceModel", "harm", "(II)I"⟩, ⟨"WokenOnceModel", "mends", "(III)I"⟩, ⟨"WokenOnceModel", "mayWake", "(III)Z"⟩, ⟨"WokenOnceModel", "tellSleeper", "(II)I"⟩, ⟨"WokenOnceModel", "about", "(II)I"⟩, ⟨"WokenOnceModel", "as", "(II)I"⟩, ⟨"WokenOnceModel", "ones", "(I)I"⟩, ⟨"WokenOnceModel", "mayAll", "(III)Z"⟩, ⟨"WokenOnceModel", "mendedBy", "(III)I"⟩, ⟨"WokenOnceModel", "goneBy", "(II)I"⟩, ⟨"WokenOnceModel", "come", "(II)I"⟩, ⟨"WokenOnceModel", "evening", "()I"⟩, ⟨"WokenOnceModel", "bestSet", "(III)I"⟩, ⟨"WokenOnceModel", "layBests", "()V"⟩, ⟨"WokenOnceModel", "term", "(JJI)J"⟩, ⟨"WokenOnceModel", "isPart", "(I)Z"⟩, ⟨"WokenOnceModel", "tellBest", "(I)J"⟩, ⟨"WokenOnceModel", "best", "(I)J"⟩, ⟨"WokenOnceModel", "whom", "(I)I"⟩, ⟨"WokenOnceModel", "worstOf", "()I"⟩, ⟨"WokenOnceModel", "worst", "()I"⟩, ⟨"WokenOnceModel", "figure", "(II)I"⟩, ⟨"WokenOnceModel", "knownOf", "(I)I"⟩, ⟨"WokenOnceModel", "fives", "(I)I"⟩, ⟨"WokenOnceModel", "known", "(I)I"⟩, ⟨"WokenOnceModel", "byRuleOne", "(III)I"⟩, ⟨"WokenOnceModel", "tellRule", "(I)J"⟩, ⟨"WokenOnceModel", "byRule", "(I)J"⟩, ⟨"WokenOnceModel", "worth", "(II)J"⟩, ⟨"WokenOnceModel", "rosterOf", "(I)I"⟩, ⟨"WokenOnceModel", "roster", "(I)I"⟩, ⟨"WokenOnceModel", "isSeen", "(II)Z"⟩, ⟨"WokenOnceModel", "laySeen", "(I)I"⟩, ⟨"WokenOnceModel", "isSet", "(I)Z"⟩, ⟨"WokenOnceModel", "seen", "(I)I"⟩, ⟨"WokenOnceModel", "sure", "(II)I"⟩, ⟨"WokenOnceModel", "draw", "(I)I"⟩, ⟨"WokenOnceModel", "drawnThing", "(I)I"⟩, ⟨"WokenOnceModel", "night", "(II)I"⟩, ⟨"WokenOnceModel", "image", "()I"⟩, ⟨"WokenOnceModel", "restore", "()I"⟩, ⟨"WokenOnceModel", "countOf", "(I)I"⟩, ⟨"WokenOnceModel", "count", "(I)I"⟩, ⟨"WokenOnceModel", "say", "(J)V"⟩, ⟨"WokenOnceModel", "saySleeper", "(I)V"⟩, ⟨"WokenOnceModel", "digest", "()J"⟩, ⟨"java/lang/Integer", "bitCount", "(I)I"⟩, ⟨"java/lang/Math", "min", "(II)I"⟩, ⟨"java/lang/Math", "min", "(JJ)J"⟩]
def me_mbL : List ByteArray := [prog_2_method_1_code, prog_2_method_2_code, prog_2_method_3_code, prog_2_method_4_code, prog_3_method_1_code, prog_3_method_2_code, prog_3_method_3_code, prog_3_method_4_code, prog_3_method_5_code, prog_3_method_6_code, prog_3_method_7_code, prog_3_method_8_code, prog_3_method_9_code, prog_4_method_1_code, prog_4_method_2_code, prog_4_method_3_code, prog_4_method_4_code, prog_5_method_1_code, prog_5_method_2_code, prog_5_method_3_code, prog_5_method_4_code, prog_5_method_5_code, prog_5_method_6_code, prog_5_method_7_code, prog_5_method_8_code, prog_5_method_9_code, prog_5_method_10_code, prog_5_method_11_code, prog_5_method_12_code, prog_5_method_13_code, prog_5_method_14_code, prog_5_method_15_code, prog_5_method_16_code, prog_5_method_17_code, prog_5_method_18_code, prog_5_method_19_code, prog_6_method_1_code, prog_6_method_2_code, prog_6_method_3_code, prog_7_method_1_code, prog_7_method_2_code, prog_7_method_3_code, prog_8_method_1_code, prog_8_method_2_code, prog_8_method_3_code, prog_8_method_4_code, prog_9_method_1_code, prog_10_method_1_code, prog_10_method_2_code, prog_10_method_3_code, prog_11_method_1_code, prog_11_method_2_code, prog_11_method_3_code, prog_11_method_4_code, prog_11_method_5_code, prog_11_method_6_code, prog_11_method_7_code, prog_12_method_1_code, prog_12_method_2_code, prog_12_method_3_code, prog_12_method_4_code, prog_12_method_5_code, prog_12_method_6_code, prog_1_method_1_code, prog_1_method_2_code, prog_1_method_3_code, prog_1_method_4_code, prog_1_method_5_code, prog_1_method_6_code, prog_1_method_7_code, prog_1_method_8_code, prog_1_method_9_code, prog_1_method_10_code, prog_1_method_11_code, prog_1_method_12_code, prog_1_method_13_code, prog_1_method_14_code, prog_1_method_15_code, prog_1_method_16_code, prog_1_method_17_code, prog_1_method_18_code, prog_1_method_19_code, prog_1_method_20_code, prog_1_method_21_code, prog_1_method_22_code, prog_1_method_23_code, prog_1_method_24_code, prog_1_method_25_code, prog_1_method_26_code, prog_1_method_27_code, prog_1_method_28_code, prog_1_method_29_code, prog_1_method_30_code, prog_1_method_31_code, prog_1_method_32_code, prog_1_method_33_code, prog_1_method_34_code, prog_1_method_35_code, prog_1_method_36_code, prog_1_method_37_code, prog_1_method_38_code, prog_1_method_39_code, prog_1_method_40_code, prog_1_method_41_code, prog_1_method_42_code, prog_1_method_43_code, prog_1_method_44_code, prog_1_method_45_code, prog_1_method_46_code, prog_1_method_47_code, prog_1_method_48_code, prog_1_method_49_code, prog_1_method_50_code, prog_1_method_51_code, prog_1_method_52_code, prog_1_method_53_code, prog_1_method_54_code, prog_1_method_55_code, prog_1_method_56_code, prog_1_method_57_code, prog_1_method_58_code, prog_1_method_59_code, prog_14_method_1_code, prog_14_method_2_code, prog_14_method_3_code, prog_14_method_4_code, prog_14_method_5_code, prog_14_method_6_code, prog_14_method_7_code, prog_14_method_8_code, prog_14_method_9_code, prog_14_method_10_code, prog_14_method_11_code, prog_14_method_12_code, prog_14_method_13_code, prog_14_method_14_code, prog_14_method_15_code, prog_14_method_16_code, prog_14_method_17_code, prog_14_method_18_code, prog_14_method_19_code, prog_14_method_20_code, prog_14_method_21_code, prog_14_method_22_code, prog_14_method_23_code, prog_14_method_24_code, prog_14_method_25_code, prog_14_method_26_code, prog_14_method_27_code, prog_14_method_28_code, prog_14_method_29_code, prog_14_method_30_code, prog_14_method_31_code, prog_14_method_32_code, prog_14_method_33_code, prog_14_method_34_code, prog_14_method_35_code, prog_14_method_36_code, prog_14_method_37_code, prog_14_method_38_code, prog_14_method_39_code, prog_14_method_40_code, prog_14_method_41_code, prog_14_method_42_code, prog_14_method_43_code, prog_14_method_44_code, prog_14_method_45_code, prog_14_method_46_code, prog_14_method_47_code, prog_14_method_48_code, prog_14_method_49_code, prog_14_method_50_code, prog_14_method_51_code, prog_14_method_52_code, prog_14_method_53_code, prog_14_method_54_code, prog_14_method_55_code, prog_14_method_56_code, prog_14_method_57_code, prog_14_method_58_code, prog_14_method_59_code, prog_14_method_60_code, prog_14_method_61_code, prog_14_method_62_code, prog_15_method_49_code, prog_16_method_69_code, prog_16_method_70_code]
def me_mLL : List Nat := [1, 2, 3, 5, 1, 2, 2, 2, 1, 2, 2, 3, 4, 1, 8, 4, 11, 1, 1, 3, 2, 2, 2, 4, 3, 4, 2, 3, 1, 2, 2, 2, 4, 4, 5, 6, 1, 3, 3, 1, 2, 4, 1, 2, 2, 3, 1, 1, 2, 2, 1, 2, 2, 1, 2, 3, 3, 1, 3, 5, 5, 3, 2, 1, 5, 2, 2, 1, 1, 3, 3, 5, 4, 3, 3, 4, 1, 2, 2, 3, 4, 5, 4, 5, 2, 5, 3, 1, 1, 2, 4, 1, 1, 1, 1, 1, 1, 3, 3, 5, 4, 11, 7, 1, 1, 3, 3, 7, 5, 8, 4, 5, 3, 4, 7, 6, 4, 7, 11, 8, 8, 9, 2, 6, 9, 2, 3, 4, 2, 4, 2, 2, 2, 2, 3, 2, 4, 5, 4, 5, 4, 3, 3, 4, 3, 6, 6, 5, 4, 1, 11, 9, 11, 1, 2, 2, 2, 8, 1, 4, 8, 3, 2, 5, 10, 2, 3, 10, 2, 6, 5, 4, 2, 5, 2, 5, 8, 2, 2, 2, 2, 3, 3, 2, 1, 2, 4]
def me_mrL : List (Option FieldType) := [none, none, (some .int), (some .int), none, none, none, (some .boolean), (some .boolean), (some .boolean), (some .boolean), (some .boolean), (some .boolean), none, none, none, (some .long), none, (some .boolean), none, (some .boolean), (some .int), (some .int), (some .boolean), (some .int), none, (some .int), none, (some .int), (some .boolean), (some .boolean), (some .int), (some .int), (some .boolean), (some .int), (some .int), none, none, none, none, (some .boolean), none, none, none, (some .int), (some .int), none, none, none, (some .int), none, none, (some .boolean), (some .boolean), (some .boolean), (some .boolean), (some .boolean), none, (some .long), none, none, none, (some .boolean), none, (some .int), (some .int), (some .int), (some .int), (some .int), (some .int), (some .int), (some .int), (some .int), (some .int), (some .int), (some .int), (some .int), (some .long), (some .int), (some .int), (some .int), (some .long), (some .long), (some .int), (some .int), (some .int), (some .int), (some .int), (some .int), (some .int), (some .long), (some .boolean), (some .boolean), (some .boolean), (some .boolean), (some .long), (some .int), (some .int), (some .int), (some .int), (some .long), (some .long), (some .long), (some .int), (some .int), (some .boolean), (some .int), (some .long), none, none, (some .int), (some .boolean), none, none, none, (some .int), none, (some .long), (some .long), (some .long), none, (some .int), none, (some .boolean), (some .int), (some .int), (some .int), (some .boolean), (some .int), (some .boolean), (some .int), (some .int), (some .int), (some .int), (some .int), (some .boolean), (some .int), (some .int), (some .int), (some .int), (some .boolean), (some .int), (some .int), (some .int), (some .int), (some .boolean), (some .int), (some .int), (some .int), (some .int), (some .int), none, (some .long), (some .boolean), (some .long), (some .long), (some .int), (some .int), (some .int), (some .int), (some .int), (some .int), (some .int), (some .int), (some .long), (some .long), (some .long), (some .int), (some .int), (some .boolean), (some .int), (some .boolean), (some .int), (some .int), (some .int), (some .int), (some .int), (some .int), (some .int), (some .int), (some .int), none, none, (some .long), (some .int), (some .int), (some .long)]
def me_mfL : List (Nat × Nat) := [(0, 0), (1, 26), (1, 20), (2, 42), (1, 20), (1, 21), (0, 0), (2, 42), (0, 0), (0, 0), (1, 21), (0, 0), (0, 0), (0, 0), (2, 46), (1, 21), (2, 43), (0, 0), (0, 0), (0, 0), (0, 0), (0, 0), (0, 0), (1, 21), (0, 0), (0, 0), (1, 20), (1, 20), (0, 0), (1, 20), (2, 41), (0, 0), (1, 21), (1, 21), (1, 22), (2, 46), (0, 0), (1, 26), (1, 26), (0, 0), (0, 0), (0, 0), (0, 0), (0, 0), (0, 0), (3, 63), (0, 0), (0, 0), (1, 26), (0, 0), (1, 20), (0, 0), (1, 22), (0, 0), (0, 0), (0, 0), (0, 0), (0, 0), (1, 21), (1, 21), (2, 45), (2, 45), (0, 0), (2, 40), (2, 46), (0, 0), (4, 85), (4, 85), (4, 85), (2, 42), (1, 22), (1, 23), (2, 42), (3, 68), (2, 44), (3, 71), (0, 0), (5, 124), (5, 124), (4, 99), (4, 96), (5, 127), (5, 124), (5, 124), (5, 125), (5, 125), (5, 124), (2, 48), (2, 48), (1, 20), (6, 151), (0, 0), (0, 0), (0, 0), (0, 0), (0, 0), (0, 0), (1, 20), (0, 0), (1, 22), (0, 0), (0, 0), (1, 30), (0, 0), (1, 20), (2, 44), (2, 46), (4, 90), (4, 100), (3, 73), (3, 73), (2, 43), (2, 45), (3, 73), (3, 73), (2, 46), (3, 67), (4, 101), (3, 71), (4, 98), (3, 71), (4, 96), (0, 0), (0, 0), (0, 0), (0, 0), (0, 0), (1, 25), (2, 48), (2, 46), (3, 69), (4, 90), (3, 69), (4, 90), (1, 25), (1, 25), (1, 25), (2, 46), (1, 25), (0, 0), (0, 0), (1, 25), (2, 47), (2, 46), (0, 0), (1, 23), (1, 24), (0, 0), (2, 49), (0, 0), (2, 49), (3, 79), (0, 0), (1, 25), (4, 107), (5, 128), (4, 107), (2, 49), (3, 76), (0, 0), (2, 49), (0, 0), (3, 76), (1, 24), (4, 107), (5, 136), (4, 107), (4, 107), (5, 136), (2, 48), (3, 73), (1, 25), (4, 97), (4, 97), (0, 0), (1, 21), (4, 107), (0, 0), (0, 0), (1, 22), (2, 43), (0, 0), (2, 47), (5, 136), (0, 0), (0, 0), (0, 0)]
def me_mjL : List (Nat × Nat × Nat × Nat × Nat) := [(157, 61, 9999, 156, 9999), (434, 61, 9999, 432, 433), (464, 61, 9999, 462, 463), (785, 61, 9999, 783, 784), (99, 59, 9999, 98, 9999), (369, 59, 9999, 367, 368), (373, 59, 9999, 372, 0), (387, 59, 9999, 386, 9999), (430, 59, 9999, 428, 429), (391, 59, 9999, 390, 1), (399, 59, 9999, 398, 3), (395, 59, 9999, 394, 2), (403, 59, 9999, 402, 4), (274, 66, 9999, 273, 9999), (627, 66, 9999, 625, 626), (636, 66, 9999, 635, 12), (642, 66, 9999, 640, 641), (189, 63, 9999, 188, 9999), (473, 63, 472, 9999, 9999), (480, 63, 9999, 478, 479), (488, 63, 9999, 486, 487), (517, 63, 9999, 515, 516), (521, 63, 9999, 519, 520), (551, 63, 9999, 549, 550), (492, 63, 9999, 490, 491), (496, 63, 9999, 494, 495), (504, 63, 9999, 502, 503), (509, 63, 9999, 507, 508), (563, 63, 9999, 561, 562), (559, 63, 9999, 557, 558), (753, 63, 9999, 751, 752), (583, 63, 9999, 581, 582), (740, 63, 9999, 738, 739), (529, 63, 9999, 527, 528), (538, 63, 9999, 536, 537), (577, 63, 9999, 575, 576), (245, 65, 9999, 244, 9999), (794, 65, 9999, 792, 793), (803, 65, 9999, 801, 802), (218, 64, 9999, 217, 9999), (525, 64, 9999, 523, 524), (587, 64, 9999, 585, 586), (84, 57, 9999, 83, 9999), (357, 57, 9999, 355, 356), (381, 57, 9999, 379, 380), (377, 57, 9999, 375, 376), (102, 58, 9999, 101, 9999), (171, 62, 9999, 170, 9999), (449, 62, 9999, 447, 448), (727, 62, 9999, 725, 726), (129, 60, 9999, 128, 9999), (422, 60, 9999, 420, 421), (406, 60, 9999, 405, 9999), (445, 60, 9999, 443, 444), (410, 60, 9999, 409, 5), (414, 60, 9999, 413, 6), (418, 60, 9999, 417, 7), (301, 67, 9999, 300, 9999), (646, 67, 9999, 644, 645), (611, 67, 9999, 609, 610), (650, 67, 9999, 648, 649), (607, 67, 9999, 605, 606), (614, 67, 613, 9999, 9999), (76, 56, 9999, 75, 9999), (347, 56, 9999, 345, 346), (361, 56, 9999, 359, 360), (365, 56, 9999, 363, 364), (426, 56, 9999, 424, 425), (441, 56, 9999, 439, 440), (454, 56, 9999, 452, 453), (470, 56, 9999, 468, 469), (484, 56, 9999, 482, 483), (500, 56, 9999, 498, 499), (513, 56, 9999, 511, 512), (547, 56, 9999, 545, 546), (555, 56, 9999, 553, 554), (591, 56, 9999, 589, 590), (595, 56, 9999, 593, 594), (666, 56, 9999, 664, 665), (674, 56, 9999, 672, 673), (690, 56, 9999, 688, 689), (706, 56, 9999, 704, 705), (731, 56, 9999, 729, 730), (736, 56, 9999, 734, 735), (749, 56, 9999, 747, 748), (766, 56, 9999, 764, 765), (770, 56, 9999, 768, 769), (790, 56, 9999, 788, 789), (799, 56, 9999, 797, 798), (807, 56, 9999, 805, 806), (811, 56, 9999, 809, 810), (457, 56, 456, 9999, 9999), (460, 56, 459, 9999, 9999), (476, 56, 475, 9999, 9999), (598, 56, 597, 9999, 9999), (621, 56, 620, 9999, 9999), (693, 56, 692, 9999, 9999), (698, 56, 697, 9999, 9999), (353, 56, 352, 9999, 9999), (350, 56, 349, 9999, 9999), (819, 56, 818, 9999, 9999), (662, 56, 661, 9999, 9999), (659, 56, 658, 9999, 9999), (777, 56, 776, 9999, 9999), (656, 56, 9999, 655, 13), (573, 56, 9999, 572, 9), (534, 56, 9999, 533, 8), (816, 56, 9999, 815, 26), (603, 56, 9999, 602, 10), (618, 56, 9999, 617, 11), (670, 56, 9999, 669, 14), (745, 56, 9999, 744, 22), (678, 56, 9999, 677, 15), (702, 56, 9999, 701, 17), (683, 56, 9999, 682, 16), (723, 56, 9999, 722, 21), (711, 56, 9999, 710, 18), (715, 56, 9999, 714, 19), (719, 56, 9999, 718, 20), (758, 56, 9999, 757, 23), (762, 56, 9999, 761, 24), (774, 56, 9999, 773, 25), (832, 68, 9999, 831, 9999), (974, 68, 973, 9999, 9999), (952, 68, 9999, 950, 951), (957, 68, 9999, 955, 956), (978, 68, 9999, 977, 29), (969, 68, 9999, 968, 28), (965, 68, 9999, 964, 27), (988, 68, 9999, 987, 31), (984, 68, 9999, 983, 30), (961, 68, 9999, 959, 960), (997, 68, 9999, 995, 996), (1001, 68, 9999, 999, 1000), (1005, 68, 9999, 1003, 1004), (993, 68, 9999, 992, 32), (1011, 68, 9999, 1009, 1010), (1017, 68, 9999, 1015, 1016), (1021, 68, 9999, 1019, 1020), (1035, 68, 9999, 1034, 34), (1039, 68, 9999, 1038, 35), (1029, 68, 9999, 1028, 33), (1025, 68, 9999, 1023, 1024), (1043, 68, 9999, 1041, 1042), (1051, 68, 1050, 9999, 9999), (1055, 68, 9999, 1054, 36), (1059, 68, 9999, 1058, 37), (1063, 68, 9999, 1062, 38), (1047, 68, 9999, 1045, 1046), (1067, 68, 9999, 1065, 1066), (1086, 68, 9999, 1085, 41), (1082, 68, 9999, 1081, 40), (1089, 68, 1088, 9999, 9999), (1074, 68, 1073, 9999, 9999), (1078, 68, 9999, 1077, 39), (1071, 68, 9999, 1069, 1070), (1094, 68, 9999, 1092, 1093), (1102, 68, 9999, 1101, 42), (1098, 68, 9999, 1096, 1097), (1117, 68, 1116, 9999, 9999), (1114, 68, 9999, 1113, 43), (1110, 68, 1109, 9999, 9999), (1107, 68, 9999, 1105, 1106), (1130, 68, 9999, 1129, 45), (1126, 68, 9999, 1125, 44), (1121, 68, 9999, 1119, 1120), (1134, 68, 9999, 1132, 1133), (1144, 68, 9999, 1143, 46), (1139, 68, 9999, 1137, 1138), (1160, 68, 9999, 1159, 49), (1156, 68, 9999, 1155, 48), (1152, 68, 9999, 1151, 47), (1148, 68, 9999, 1146, 1147), (1164, 68, 9999, 1162, 1163), (1177, 68, 9999, 1176, 51), (1173, 68, 9999, 1172, 50), (1168, 68, 9999, 1166, 1167), (1185, 68, 9999, 1183, 1184), (1189, 68, 9999, 1187, 1188), (1197, 68, 9999, 1196, 52), (1193, 68, 9999, 1191, 1192), (1206, 68, 9999, 1205, 53), (1211, 68, 9999, 1210, 54), (1201, 68, 9999, 1199, 1200), (566, 71, 565, 9999, 9999), (543, 70, 542, 9999, 9999), (686, 70, 685, 9999, 9999)]
def me_mpL : List Nat := [0, 1, 2, 2, 0, 0, 1, 1, 0, 1, 1, 1, 1, 0, 3, 3, 4, 0, 1, 2, 1, 1, 1, 2, 2, 3, 1, 2, 0, 1, 1, 1, 1, 3, 3, 3, 0, 2, 2, 0, 1, 3, 0, 1, 1, 1, 0, 0, 1, 1, 0, 1, 1, 0, 1, 1, 1, 0, 2, 3, 3, 1, 2, 0, 1, 0, 1, 0, 0, 2, 2, 3, 2, 2, 2, 2, 0, 1, 1, 0, 1, 1, 2, 1, 1, 2, 2, 0, 0, 1, 0, 1, 1, 1, 1, 1, 1, 2, 2, 1, 2, 2, 3, 1, 0, 1, 2, 1, 0, 3, 3, 2, 1, 2, 2, 3, 2, 1, 3, 3, 4, 2, 0, 3, 1, 0, 0, 1, 0, 1, 0, 1, 0, 0, 2, 1, 2, 3, 2, 3, 3, 2, 2, 2, 1, 3, 3, 2, 2, 0, 3, 0, 3, 1, 1, 1, 1, 0, 0, 2, 1, 1, 1, 3, 1, 1, 2, 1, 1, 2, 1, 1, 1, 2, 1, 1, 2, 0, 0, 1, 1, 1, 1, 0, 1, 2, 2]
def me_mn (y : Nat) : MethodName := me_mnL[y]?.getD ⟨"", "", ""⟩
def me_mb (y : Nat) : ByteArray := me_mbL[y]?.getD ⟨#[]⟩
def me_mL (y : Nat) : Nat := me_mLL[y]?.getD 0
def me_mr (y : Nat) : Option FieldType := me_mrL[y]?.getD none
def me_mf (y : Nat) : Nat × Nat := me_mfL[y]?.getD (0, 0)
def me_mj (y : Nat) : Nat × Nat × Nat × Nat × Nat := me_mjL[y]?.getD (9999, 9999, 9999, 9999, 9999)
def me_mp (y : Nat) : Nat := me_mpL[y]?.getD 0
