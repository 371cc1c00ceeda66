/-! classes, fields, methods: names as the claim prints them -/
def RX0 : String := "CommaChoir$History"
def TX0 : u_T := fun k => match k with
  | 0 => ("CommaChoir$History", "states", "[LCommaChoir$Score;", true)
  | 1 => ("CommaChoir$History", "stateCount", "I", false)
  | 2 => ("CommaChoir$History", "current", "LCommaChoir$Score;", false)
  | _ => ("CommaChoir$History", "before", "LCommaChoir$Score;", false)
def tyX0 : Nat → FieldType := fun k => match k with
  | 0 => .array (.object "CommaChoir$Score")
  | 1 => .int
  | 2 => .object "CommaChoir$Score"
  | _ => .object "CommaChoir$Score"
theorem nmX0 : ∀ a, a < 4 → ∀ b, b < 4 → a ≠ b → (TX0 a).2.1 ≠ (TX0 b).2.1 := by decide +kernel
theorem tyX0_ok : ∀ k, k < 4 → parseFieldDescriptor (TX0 k).2.2.1 = some (tyX0 k) := by decide +kernel
def RX2 : String := "CommaChoir$Reader"
def TX2 : u_T := fun k => match k with
  | 0 => ("CommaChoir$Reader", "letters", "[I", true)
  | 1 => ("CommaChoir$Reader", "numbers", "[I", true)
  | 2 => ("CommaChoir$Reader", "orderCount", "I", false)
  | 3 => ("CommaChoir$Reader", "wanted", "I", false)
  | 4 => ("CommaChoir$Reader", "begun", "I", false)
  | _ => ("CommaChoir$Reader", "figures", "I", false)
def tyX2 : Nat → FieldType := fun k => match k with
  | 0 => .array .int
  | 1 => .array .int
  | 2 => .int
  | 3 => .int
  | 4 => .int
  | _ => .int
theorem nmX2 : ∀ a, a < 6 → ∀ b, b < 6 → a ≠ b → (TX2 a).2.1 ≠ (TX2 b).2.1 := by decide +kernel
theorem tyX2_ok : ∀ k, k < 6 → parseFieldDescriptor (TX2 k).2.2.1 = some (tyX2 k) := by decide +kernel
def RX3 : String := "CommaChoir$Score"
def TX3 : u_T := fun k => match k with
  | 0 => ("CommaChoir$Score", "toneCounts", "[I", true)
  | 1 => ("CommaChoir$Score", "powers", "[I", true)
  | 2 => ("CommaChoir$Score", "heldTones", "[I", true)
  | 3 => ("CommaChoir$Score", "heldAs", "[I", true)
  | 4 => ("CommaChoir$Score", "chordCount", "I", false)
  | _ => ("CommaChoir$Score", "limit", "I", false)
def tyX3 : Nat → FieldType := fun k => match k with
  | 0 => .array .int
  | 1 => .array .int
  | 2 => .array .int
  | 3 => .array .int
  | 4 => .int
  | _ => .int
theorem nmX3 : ∀ a, a < 6 → ∀ b, b < 6 → a ≠ b → (TX3 a).2.1 ≠ (TX3 b).2.1 := by decide +kernel
theorem tyX3_ok : ∀ k, k < 6 → parseFieldDescriptor (TX3 k).2.2.1 = some (tyX3 k) := by decide +kernel
def RX4 : String := "CommaChoir$Tuning"
def TX4 : u_T := fun k => match k with
  | 0 => ("CommaChoir$Tuning", "rootPowers", "[I", true)
  | 1 => ("CommaChoir$Tuning", "partNumbers", "[I", true)
  | 2 => ("CommaChoir$Tuning", "firsts", "[I", true)
  | 3 => ("CommaChoir$Tuning", "lasts", "[I", true)
  | 4 => ("CommaChoir$Tuning", "shares", "[I", true)
  | 5 => ("CommaChoir$Tuning", "sets", "[I", true)
  | 6 => ("CommaChoir$Tuning", "partCount", "I", false)
  | _ => ("CommaChoir$Tuning", "greatestShare", "I", false)
def tyX4 : Nat → FieldType := fun k => match k with
  | 0 => .array .int
  | 1 => .array .int
  | 2 => .array .int
  | 3 => .array .int
  | 4 => .array .int
  | 5 => .array .int
  | 6 => .int
  | _ => .int
theorem nmX4 : ∀ a, a < 8 → ∀ b, b < 8 → a ≠ b → (TX4 a).2.1 ≠ (TX4 b).2.1 := by decide +kernel
theorem tyX4_ok : ∀ k, k < 8 → parseFieldDescriptor (TX4 k).2.2.1 = some (tyX4 k) := by decide +kernel
def RX5 : String := "CommaChoir"
def TX5 : u_T := fun k => match k with
  | 0 => ("CommaChoir", "history", "LCommaChoir$History;", true)
  | 1 => ("CommaChoir", "tuning", "LCommaChoir$Tuning;", true)
  | 2 => ("CommaChoir", "reader", "LCommaChoir$Reader;", true)
  | 3 => ("CommaChoir", "bytes", "[I", true)
  | 4 => ("CommaChoir", "byteCount", "I", false)
  | 5 => ("CommaChoir", "badCount", "I", false)
  | 6 => ("CommaChoir", "noCount", "I", false)
  | _ => ("CommaChoir", "fullCount", "I", false)
def tyX5 : Nat → FieldType := fun k => match k with
  | 0 => .object "CommaChoir$History"
  | 1 => .object "CommaChoir$Tuning"
  | 2 => .object "CommaChoir$Reader"
  | 3 => .array .int
  | 4 => .int
  | 5 => .int
  | 6 => .int
  | _ => .int
theorem nmX5 : ∀ a, a < 8 → ∀ b, b < 8 → a ≠ b → (TX5 a).2.1 ≠ (TX5 b).2.1 := by decide +kernel
theorem tyX5_ok : ∀ k, k < 8 → parseFieldDescriptor (TX5 k).2.2.1 = some (tyX5 k) := by decide +kernel
def RX6 : String := "CommaChoirModel"
def TX6 : u_T := fun k => match k with
  | 0 => ("CommaChoirModel", "now", "[I", true)
  | 1 => ("CommaChoirModel", "aside", "[I", true)
  | 2 => ("CommaChoirModel", "past", "[I", true)
  | 3 => ("CommaChoirModel", "states", "I", false)
  | 4 => ("CommaChoirModel", "refused", "[I", true)
  | 5 => ("CommaChoirModel", "text", "[I", true)
  | 6 => ("CommaChoirModel", "length", "I", false)
  | 7 => ("CommaChoirModel", "roots", "[I", true)
  | 8 => ("CommaChoirModel", "partOf", "[I", true)
  | 9 => ("CommaChoirModel", "firstOf", "[I", true)
  | 10 => ("CommaChoirModel", "lastOf", "[I", true)
  | 11 => ("CommaChoirModel", "shares", "[I", true)
  | 12 => ("CommaChoirModel", "sets", "[I", true)
  | 13 => ("CommaChoirModel", "parts", "I", false)
  | 14 => ("CommaChoirModel", "at", "I", false)
  | 15 => ("CommaChoirModel", "orders", "I", false)
  | 16 => ("CommaChoirModel", "letters", "[I", true)
  | 17 => ("CommaChoirModel", "numbers", "[I", true)
  | _ => ("CommaChoirModel", "hash", "J", false)
def tyX6 : Nat → FieldType := fun k => match k with
  | 0 => .array .int
  | 1 => .array .int
  | 2 => .array .int
  | 3 => .int
  | 4 => .array .int
  | 5 => .array .int
  | 6 => .int
  | 7 => .array .int
  | 8 => .array .int
  | 9 => .array .int
  | 10 => .array .int
  | 11 => .array .int
  | 12 => .array .int
  | 13 => .int
  | 14 => .int
  | 15 => .int
  | 16 => .array .int
  | 17 => .array .int
  | _ => .long
theorem nmX6 : ∀ a, a < 19 → ∀ b, b < 19 → a ≠ b → (TX6 a).2.1 ≠ (TX6 b).2.1 := by decide +kernel
theorem tyX6_ok : ∀ k, k < 19 → parseFieldDescriptor (TX6 k).2.2.1 = some (tyX6 k) := by decide +kernel
abbrev vwCl : List vw_C := [(RX0, TX0, 4), (RX2, TX2, 6), (RX3, TX3, 6), (RX4, TX4, 8), (RX5, TX5, 8), (RX6, TX6, 19)]
def mm_yl_1 : List MethodName := [⟨"java/lang/Math", "floorMod", "(II)I"⟩, ⟨"java/lang/Math", "abs", "(I)I"⟩, ⟨"java/lang/Math", "max", "(II)I"⟩, ⟨"java/lang/Math", "min", "(II)I"⟩, ⟨"CommaChoir$Ratios", "isTerm", "(I)Z"⟩, ⟨"CommaChoir$Ratios", "powerIn", "(II)I"⟩, ⟨"CommaChoir$Ratios", "sizeOf", "([II)I"⟩, ⟨"CommaChoir$Ratios", "primeToPower", "(II)I"⟩, ⟨"CommaChoir$Ratios", "offNearest", "(II)I"⟩, ⟨"CommaChoir$Score", "copyFrom", "(LCommaChoir$Score;)V"⟩, ⟨"CommaChoir$Score", "addChord", "()I"⟩, ⟨"CommaChoir$Score", "addTone", "(III)I"⟩, ⟨"CommaChoir$Score", "changeTone", "(IIII)I"⟩, ⟨"CommaChoir$Score", "addTie", "(III)I"⟩, ⟨"CommaChoir$Score", "removeTie", "(I)I"⟩, ⟨"CommaChoir$Score", "removeLastChord", "()I"⟩, ⟨"CommaChoir$Score", "changeLimit", "(I)I"⟩, ⟨"CommaChoir$Score", "writeRatio", "(IIII)V"⟩, ⟨"CommaChoir$Score", "startOf", "(II)I"⟩, ⟨"CommaChoir$Score", "hasChord", "(I)Z"⟩, ⟨"CommaChoir$Score", "hasNext", "(I)Z"⟩, ⟨"CommaChoir$Score", "hasTone", "(II)Z"⟩, ⟨"CommaChoir$Score", "isTied", "(I)Z"⟩, ⟨"CommaChoir$Score", "heldTone", "(I)I"⟩, ⟨"CommaChoir$Score", "heldAs", "(I)I"⟩, ⟨"CommaChoir$Score", "chordCount", "()I"⟩, ⟨"CommaChoir$Score", "toneCount", "(I)I"⟩, ⟨"CommaChoir$Score", "allTones", "()I"⟩, ⟨"CommaChoir$Score", "greatestAllowed", "()I"⟩, ⟨"CommaChoir$Score", "powerAt", "(III)I"⟩, ⟨"CommaChoir$Score", "sizeAt", "(II)I"⟩, ⟨"CommaChoir$Score", "tiePower", "(II)I"⟩, ⟨"CommaChoir$Score", "intervalTerm", "(III)I"⟩, ⟨"CommaChoir$Score", "toneByRank", "(II)I"⟩, ⟨"CommaChoir$Score", "rankOf", "(II)I"⟩, ⟨"CommaChoir$Score", "toneOfVoice", "(II)I"⟩, ⟨"CommaChoir$History", "current", "()LCommaChoir$Score;"⟩, ⟨"CommaChoir$History", "stateCount", "()I"⟩, ⟨"CommaChoir$History", "opened", "()LCommaChoir$Score;"⟩, ⟨"CommaChoir$History", "dismiss", "()V"⟩, ⟨"CommaChoir$History", "keep", "()V"⟩, ⟨"CommaChoir$History", "loseOldest", "()V"⟩, ⟨"CommaChoir$History", "goBack", "()V"⟩, ⟨"CommaChoir$Tuning", "follow", "(LCommaChoir$Score;)V"⟩, ⟨"CommaChoir$Tuning", "beginPart", "(I)V"⟩]
def mm_yl_2 : List MethodName := [⟨"CommaChoir$Tuning", "moveRoot", "(LCommaChoir$Score;I)V"⟩, ⟨"CommaChoir$Tuning", "spread", "(II)V"⟩, ⟨"CommaChoir$Tuning", "rootPower", "(II)I"⟩, ⟨"CommaChoir$Tuning", "rootSize", "(I)I"⟩, ⟨"CommaChoir$Tuning", "driftAt", "(I)I"⟩, ⟨"CommaChoir$Tuning", "partAt", "(I)I"⟩, ⟨"CommaChoir$Tuning", "partCount", "()I"⟩, ⟨"CommaChoir$Tuning", "firstOfPart", "(I)I"⟩, ⟨"CommaChoir$Tuning", "lastOfPart", "(I)I"⟩, ⟨"CommaChoir$Tuning", "shareAt", "(I)I"⟩, ⟨"CommaChoir$Tuning", "setAt", "(I)I"⟩, ⟨"CommaChoir$Tuning", "greatestShare", "()I"⟩, ⟨"CommaChoir$Reader", "orderCount", "()I"⟩, ⟨"CommaChoir$Reader", "faultIn", "([II)I"⟩, ⟨"CommaChoir$Reader", "takes", "(I)Z"⟩, ⟨"CommaChoir$Reader", "takesFigure", "(I)Z"⟩, ⟨"CommaChoir$Reader", "takesEnd", "()Z"⟩, ⟨"CommaChoir$Reader", "takesLetter", "(I)Z"⟩, ⟨"CommaChoir$Reader", "numbersOf", "(I)I"⟩, ⟨"CommaChoir$Reader", "carryOut", "(ILCommaChoir$Score;)I"⟩, ⟨"CommaChoir", "chord", "()I"⟩, ⟨"CommaChoir", "tone", "(III)I"⟩, ⟨"CommaChoir", "tunes", "(IIII)I"⟩, ⟨"CommaChoir", "holds", "(III)I"⟩, ⟨"CommaChoir", "frees", "(I)I"⟩, ⟨"CommaChoir", "drops", "()I"⟩, ⟨"CommaChoir", "limit", "(I)I"⟩, ⟨"CommaChoir", "of", "(III)I"⟩, ⟨"CommaChoir", "root", "(II)I"⟩, ⟨"CommaChoir", "pitch", "(III)I"⟩, ⟨"CommaChoir", "tie", "(II)I"⟩, ⟨"CommaChoir", "loop", "(III)I"⟩, ⟨"CommaChoir", "part", "(II)I"⟩, ⟨"CommaChoir", "share", "(I)I"⟩, ⟨"CommaChoir", "set", "(I)I"⟩, ⟨"CommaChoir", "count", "(I)I"⟩, ⟨"CommaChoir", "interval", "(IIII)I"⟩, ⟨"CommaChoir", "order", "(II)I"⟩, ⟨"CommaChoir", "voice", "(II)I"⟩, ⟨"CommaChoir", "leap", "(II)I"⟩, ⟨"CommaChoir", "type", "(I)I"⟩, ⟨"CommaChoir", "clear", "()I"⟩, ⟨"CommaChoir", "does", "()I"⟩, ⟨"CommaChoir", "back", "()I"⟩, ⟨"CommaChoir", "told", "(I)I"⟩]
def mm_yl_3 : List MethodName := [⟨"CommaChoir", "digest", "()J"⟩, ⟨"CommaChoir", "digestOfRoot", "(JI)J"⟩, ⟨"CommaChoir", "digestOfTones", "(JI)J"⟩, ⟨"CommaChoir", "digestOfTies", "(J)J"⟩, ⟨"CommaChoir", "digestOfParts", "(J)J"⟩, ⟨"CommaChoir", "sungSize", "(II)I"⟩, ⟨"CommaChoir", "settled", "(I)I"⟩, ⟨"CommaChoir", "refused", "(I)I"⟩, ⟨"CommaChoir", "isRefusal", "(I)Z"⟩, ⟨"CommaChoir", "isWithin", "(II)Z"⟩, ⟨"CommaChoir", "isVoice", "(I)Z"⟩, ⟨"CommaChoir", "meeting", "(II)I"⟩, ⟨"CommaChoirModel", "within", "(III)Z"⟩, ⟨"CommaChoirModel", "counts", "(I)I"⟩, ⟨"CommaChoirModel", "size", "(I)I"⟩, ⟨"CommaChoirModel", "often", "(II)I"⟩, ⟨"CommaChoirModel", "isMade", "(I)Z"⟩, ⟨"CommaChoirModel", "weight", "(I)I"⟩, ⟨"CommaChoirModel", "apart", "(II)I"⟩, ⟨"CommaChoirModel", "leaves", "()V"⟩, ⟨"CommaChoirModel", "back", "()I"⟩, ⟨"CommaChoirModel", "isChord", "(I)Z"⟩, ⟨"CommaChoirModel", "isTone", "(II)Z"⟩, ⟨"CommaChoirModel", "placeOf", "(II)I"⟩, ⟨"CommaChoirModel", "lays", "(IIII)V"⟩, ⟨"CommaChoirModel", "mayTone", "(III)I"⟩, ⟨"CommaChoirModel", "mayHold", "(III)I"⟩, ⟨"CommaChoirModel", "mayFree", "(I)I"⟩, ⟨"CommaChoirModel", "adds", "()I"⟩, ⟨"CommaChoirModel", "addsTone", "(III)I"⟩, ⟨"CommaChoirModel", "ties", "(II)I"⟩, ⟨"CommaChoirModel", "chord", "()I"⟩, ⟨"CommaChoirModel", "tone", "(III)I"⟩, ⟨"CommaChoirModel", "tunes", "(IIII)I"⟩, ⟨"CommaChoirModel", "holds", "(III)I"⟩, ⟨"CommaChoirModel", "frees", "(I)I"⟩, ⟨"CommaChoirModel", "drops", "()I"⟩, ⟨"CommaChoirModel", "limits", "(I)I"⟩, ⟨"CommaChoirModel", "limit", "(I)I"⟩, ⟨"CommaChoirModel", "isTied", "(I)Z"⟩, ⟨"CommaChoirModel", "rootSize", "(I)I"⟩, ⟨"CommaChoirModel", "driftOf", "(I)I"⟩, ⟨"CommaChoirModel", "laysRoot", "(I)V"⟩, ⟨"CommaChoirModel", "laysShares", "(I)V"⟩, ⟨"CommaChoirModel", "laysAll", "()V"⟩]
def mm_yl_4 : List MethodName := [⟨"CommaChoirModel", "ratioSize", "(II)I"⟩, ⟨"CommaChoirModel", "of", "(III)I"⟩, ⟨"CommaChoirModel", "rootIs", "(II)I"⟩, ⟨"CommaChoirModel", "root", "(II)I"⟩, ⟨"CommaChoirModel", "pitchIs", "(III)I"⟩, ⟨"CommaChoirModel", "pitch", "(III)I"⟩, ⟨"CommaChoirModel", "tie", "(II)I"⟩, ⟨"CommaChoirModel", "tieIs", "(II)I"⟩, ⟨"CommaChoirModel", "loop", "(III)I"⟩, ⟨"CommaChoirModel", "partIs", "(II)I"⟩, ⟨"CommaChoirModel", "part", "(II)I"⟩, ⟨"CommaChoirModel", "share", "(I)I"⟩, ⟨"CommaChoirModel", "set", "(I)I"⟩, ⟨"CommaChoirModel", "tonesOfAll", "()I"⟩, ⟨"CommaChoirModel", "greatestShare", "()I"⟩, ⟨"CommaChoirModel", "countIs", "(I)I"⟩, ⟨"CommaChoirModel", "count", "(I)I"⟩, ⟨"CommaChoirModel", "times", "(III)I"⟩, ⟨"CommaChoirModel", "intervalIs", "(IIII)I"⟩, ⟨"CommaChoirModel", "interval", "(IIII)I"⟩, ⟨"CommaChoirModel", "orderIs", "(II)I"⟩, ⟨"CommaChoirModel", "order", "(II)I"⟩, ⟨"CommaChoirModel", "voiceIs", "(II)I"⟩, ⟨"CommaChoirModel", "voice", "(II)I"⟩, ⟨"CommaChoirModel", "leap", "(II)I"⟩, ⟨"CommaChoirModel", "type", "(I)I"⟩, ⟨"CommaChoirModel", "clear", "()I"⟩, ⟨"CommaChoirModel", "blanks", "()V"⟩, ⟨"CommaChoirModel", "isFigure", "()Z"⟩, ⟨"CommaChoirModel", "passesNumber", "(I)Z"⟩, ⟨"CommaChoirModel", "numbersOf", "(I)I"⟩, ⟨"CommaChoirModel", "passesOrder", "()Z"⟩, ⟨"CommaChoirModel", "reads", "()Z"⟩, ⟨"CommaChoirModel", "isDone", "(I)Z"⟩, ⟨"CommaChoirModel", "does", "()I"⟩, ⟨"CommaChoirModel", "toldIs", "(I)I"⟩, ⟨"CommaChoirModel", "told", "(I)I"⟩, ⟨"CommaChoirModel", "mix", "(I)V"⟩, ⟨"CommaChoirModel", "mixChord", "(I)V"⟩, ⟨"CommaChoirModel", "digest", "()J"⟩, ⟨"CommaChoirLaw", "law", "([I)Z"⟩]
def mm_yl : List MethodName := mm_yl_1 ++ mm_yl_2 ++ mm_yl_3 ++ mm_yl_4
def mm_byl_1 : List ByteArray := [prog_9_method_50_code, prog_9_method_59_code, prog_9_method_65_code, prog_9_method_69_code, prog_3_method_2_code, prog_3_method_3_code, prog_3_method_4_code, prog_3_method_5_code, prog_3_method_6_code, prog_5_method_2_code, prog_5_method_3_code, prog_5_method_4_code, prog_5_method_5_code, prog_5_method_6_code, prog_5_method_7_code, prog_5_method_8_code, prog_5_method_9_code, prog_5_method_10_code, prog_5_method_11_code, prog_5_method_12_code, prog_5_method_13_code, prog_5_method_14_code, prog_5_method_15_code, prog_5_method_16_code, prog_5_method_17_code, prog_5_method_18_code, prog_5_method_19_code, prog_5_method_20_code, prog_5_method_21_code, prog_5_method_22_code, prog_5_method_23_code, prog_5_method_24_code, prog_5_method_25_code, prog_5_method_26_code, prog_5_method_27_code, prog_5_method_28_code, prog_2_method_2_code, prog_2_method_3_code, prog_2_method_4_code, prog_2_method_5_code, prog_2_method_6_code, prog_2_method_7_code, prog_2_method_8_code, prog_6_method_2_code, prog_6_method_3_code]
def mm_byl_2 : List ByteArray := [prog_6_method_4_code, prog_6_method_5_code, prog_6_method_6_code, prog_6_method_7_code, prog_6_method_8_code, prog_6_method_9_code, prog_6_method_10_code, prog_6_method_11_code, prog_6_method_12_code, prog_6_method_13_code, prog_6_method_14_code, prog_6_method_15_code, prog_4_method_2_code, prog_4_method_3_code, prog_4_method_4_code, prog_4_method_5_code, prog_4_method_6_code, prog_4_method_7_code, prog_4_method_8_code, prog_4_method_9_code, prog_1_method_2_code, prog_1_method_3_code, prog_1_method_4_code, prog_1_method_5_code, prog_1_method_6_code, prog_1_method_7_code, prog_1_method_8_code, prog_1_method_9_code, prog_1_method_10_code, prog_1_method_11_code, prog_1_method_12_code, prog_1_method_13_code, prog_1_method_14_code, prog_1_method_15_code, prog_1_method_16_code, prog_1_method_17_code, prog_1_method_18_code, prog_1_method_19_code, prog_1_method_20_code, prog_1_method_21_code, prog_1_method_22_code, prog_1_method_23_code, prog_1_method_24_code, prog_1_method_25_code, prog_1_method_26_code]
def mm_byl_3 : List ByteArray := [prog_1_method_27_code, prog_1_method_28_code, prog_1_method_29_code, prog_1_method_30_code, prog_1_method_31_code, prog_1_method_32_code, prog_1_method_33_code, prog_1_method_34_code, prog_1_method_35_code, prog_1_method_36_code, prog_1_method_37_code, prog_1_method_38_code, prog_8_method_3_code, prog_8_method_4_code, prog_8_method_5_code, prog_8_method_6_code, prog_8_method_7_code, prog_8_method_8_code, prog_8_method_9_code, prog_8_method_10_code, prog_8_method_11_code, prog_8_method_12_code, prog_8_method_13_code, prog_8_method_14_code, prog_8_method_15_code, prog_8_method_16_code, prog_8_method_17_code, prog_8_method_18_code, prog_8_method_19_code, prog_8_method_20_code, prog_8_method_21_code, prog_8_method_22_code, prog_8_method_23_code, prog_8_method_24_code, prog_8_method_25_code, prog_8_method_26_code, prog_8_method_27_code, prog_8_method_28_code, prog_8_method_29_code, prog_8_method_30_code, prog_8_method_31_code, prog_8_method_32_code, prog_8_method_33_code, prog_8_method_34_code, prog_8_method_35_code]
def mm_byl_4 : List ByteArray := [prog_8_method_36_code, prog_8_method_37_code, prog_8_method_38_code, prog_8_method_39_code, prog_8_method_40_code, prog_8_method_41_code, prog_8_method_42_code, prog_8_method_43_code, prog_8_method_44_code, prog_8_method_45_code, prog_8_method_46_code, prog_8_method_47_code, prog_8_method_48_code, prog_8_method_49_code, prog_8_method_50_code, prog_8_method_51_code, prog_8_method_52_code, prog_8_method_53_code, prog_8_method_54_code, prog_8_method_55_code, prog_8_method_56_code, prog_8_method_57_code, prog_8_method_58_code, prog_8_method_59_code, prog_8_method_60_code, prog_8_method_61_code, prog_8_method_62_code, prog_8_method_63_code, prog_8_method_64_code, prog_8_method_65_code, prog_8_method_66_code, prog_8_method_67_code, prog_8_method_68_code, prog_8_method_69_code, prog_8_method_70_code, prog_8_method_71_code, prog_8_method_72_code, prog_8_method_73_code, prog_8_method_74_code, prog_8_method_75_code, code]
def mm_byl : List ByteArray := mm_byl_1 ++ mm_byl_2 ++ mm_byl_3 ++ mm_byl_4
def mm_rml_1 : List (Nat × Nat) := [(0, 0), (0, 0), (0, 0), (0, 0), (1, 23), (0, 0), (0, 0), (0, 0), (1, 22), (1, 60), (0, 0), (2, 49), (3, 64), (3, 64), (3, 63), (0, 0), (1, 21), (1, 23), (0, 0), (1, 21), (1, 21), (2, 42), (2, 42), (0, 0), (0, 0), (0, 0), (0, 0), (0, 0), (0, 0), (1, 21), (1, 23), (2, 44), (2, 44), (3, 71), (2, 45), (4, 94), (0, 0), (0, 0), (2, 81), (2, 81), (1, 22), (0, 0), (2, 81), (4, 95), (0, 0), (3, 66), (3, 65), (0, 0), (1, 23), (2, 44), (0, 0), (0, 0), (0, 0), (0, 0), (0, 0), (0, 0), (0, 0), (0, 0), (3, 63), (2, 42), (0, 0), (0, 0), (1, 20), (0, 0), (4, 88), (6, 138), (6, 138), (6, 138), (6, 138), (6, 138), (6, 138), (6, 138), (3, 64), (3, 65), (3, 67), (3, 63), (2, 44), (3, 65), (3, 63), (2, 42), (1, 22), (3, 69), (4, 94), (5, 116), (5, 116), (1, 21), (0, 0), (5, 117), (5, 117), (1, 21), (6, 145), (4, 87), (5, 117), (4, 86), (4, 89), (2, 45), (5, 117), (0, 0), (0, 0), (0, 0), (1, 21), (0, 0), (0, 0), (0, 0), (0, 0), (0, 0), (1, 24), (0, 0), (0, 0), (0, 0), (1, 21), (1, 22), (2, 43), (0, 0), (1, 24), (2, 47), (3, 65), (2, 43), (0, 0), (2, 49), (0, 0), (1, 21), (3, 72), (3, 65), (4, 88), (3, 64), (1, 21), (0, 0), (1, 22), (0, 0), (1, 20), (2, 43), (1, 22), (3, 64), (4, 91), (1, 22), (3, 65), (3, 64), (5, 112), (2, 46), (5, 112), (2, 43), (0, 0), (5, 112), (3, 64), (5, 112), (5, 112), (5, 112), (0, 0), (1, 20), (5, 112), (6, 133), (0, 0), (2, 46), (3, 75), (2, 46), (3, 72), (3, 72), (4, 95), (5, 112), (1, 22), (0, 0), (0, 0), (1, 22), (2, 42), (0, 0), (3, 65), (4, 87), (4, 88), (5, 113), (0, 0), (1, 22), (0, 0), (4, 86), (6, 133), (7, 169)]
def mm_rml : List (Nat × Nat) := mm_rml_1
def mm_wpl_1 : List (Nat × Nat × Nat × Nat) := [(317, 65, 316, 0), (320, 65, 319, 0), (326, 65, 325, 0), (323, 65, 322, 0), (341, 64, 340, 0), (344, 64, 343, 0), (308, 64, 307, 0), (508, 64, 507, 0), (314, 64, 313, 0), (212, 59, 210, 211), (219, 59, 217, 218), (334, 59, 332, 333), (360, 59, 358, 359), (373, 59, 371, 372), (382, 59, 380, 381), (390, 59, 388, 389), (398, 59, 396, 397), (351, 59, 350, 6), (285, 59, 284, 0), (338, 59, 336, 337), (263, 59, 261, 262), (364, 59, 362, 363), (259, 59, 257, 258), (445, 59, 443, 444), (449, 59, 447, 448), (255, 59, 253, 254), (631, 59, 629, 630), (492, 59, 490, 491), (293, 59, 291, 292), (282, 59, 280, 281), (409, 59, 407, 408), (278, 59, 276, 277), (505, 59, 503, 504), (519, 59, 517, 518), (523, 59, 522, 8), (535, 59, 533, 534), (247, 58, 245, 246), (601, 58, 599, 600), (208, 58, 206, 207), (593, 58, 591, 592), (239, 58, 237, 238), (243, 58, 242, 2), (605, 58, 603, 604), (251, 60, 249, 250), (289, 60, 288, 4), (270, 60, 269, 3), (297, 60, 296, 5), (274, 60, 272, 273), (305, 60, 303, 304), (301, 60, 299, 300), (421, 60, 419, 420), (463, 60, 461, 462), (467, 60, 465, 466), (471, 60, 469, 470), (479, 60, 477, 478), (434, 60, 432, 433), (497, 60, 495, 496), (580, 61, 578, 579), (557, 61, 555, 556), (561, 61, 560, 9), (565, 61, 564, 10), (569, 61, 568, 11), (573, 61, 572, 12), (576, 61, 575, 0), (584, 61, 582, 583), (204, 57, 202, 203), (330, 57, 328, 329), (356, 57, 354, 355), (369, 57, 367, 368), (378, 57, 376, 377), (386, 57, 384, 385), (394, 57, 392, 393), (402, 57, 400, 401), (414, 57, 412, 413), (426, 57, 424, 425), (438, 57, 436, 437), (453, 57, 451, 452), (459, 57, 457, 458), (475, 57, 473, 474), (483, 57, 481, 482), (487, 57, 485, 486), (501, 57, 499, 500), (515, 57, 513, 514), (528, 57, 526, 527), (541, 57, 539, 540), (545, 57, 543, 544), (549, 57, 547, 548), (553, 57, 551, 552), (597, 57, 595, 596), (609, 57, 607, 608), (613, 57, 611, 612), (621, 57, 620, 13), (627, 57, 626, 14), (638, 57, 637, 15), (644, 57, 643, 16), (430, 57, 429, 7), (225, 57, 224, 0), (235, 57, 234, 1), (228, 57, 227, 0), (266, 57, 265, 0), (531, 57, 530, 0), (511, 57, 510, 0), (747, 62, 746, 0), (718, 62, 717, 17), (854, 62, 853, 0), (753, 62, 752, 0), (750, 62, 749, 0), (816, 62, 815, 0), (851, 62, 850, 0), (728, 62, 727, 18), (713, 62, 711, 712), (744, 62, 743, 21), (773, 62, 772, 25), (765, 62, 764, 24), (761, 62, 760, 23), (740, 62, 739, 20), (781, 62, 780, 26), (793, 62, 792, 28), (732, 62, 731, 19), (757, 62, 756, 22), (785, 62, 784, 27), (723, 62, 721, 722), (736, 62, 734, 735), (769, 62, 767, 768), (777, 62, 775, 776), (789, 62, 787, 788), (797, 62, 795, 796), (805, 62, 804, 29), (801, 62, 799, 800), (836, 62, 835, 33), (848, 62, 847, 36), (844, 62, 843, 35), (832, 62, 831, 32), (840, 62, 839, 34), (828, 62, 827, 31), (813, 62, 812, 30), (809, 62, 807, 808), (858, 62, 857, 37), (824, 62, 822, 823), (866, 62, 865, 38), (862, 62, 860, 861), (870, 62, 868, 869), (874, 62, 873, 39), (879, 62, 877, 878), (887, 62, 886, 40), (883, 62, 881, 882), (891, 62, 889, 890), (895, 62, 893, 894), (907, 62, 906, 42), (911, 62, 910, 43), (903, 62, 902, 41), (899, 62, 897, 898), (922, 62, 921, 0), (919, 62, 918, 44), (915, 62, 913, 914), (930, 62, 929, 45), (926, 62, 924, 925), (938, 62, 937, 46), (934, 62, 932, 933), (942, 62, 940, 941), (946, 62, 944, 945), (950, 62, 948, 949), (962, 62, 961, 48), (977, 62, 976, 51), (973, 62, 972, 50), (969, 62, 968, 0), (966, 62, 965, 49), (958, 62, 957, 47), (981, 62, 980, 52), (954, 62, 952, 953), (989, 62, 988, 53), (985, 62, 983, 984), (998, 62, 997, 54), (1003, 62, 1002, 55), (993, 62, 991, 992), (0, 0, 0, 0)]
def mm_wpl : List (Nat × Nat × Nat × Nat) := mm_wpl_1
def mm_y (i : Nat) : MethodName := mm_yl.getD i ⟨"", "", ""⟩
def mm_by (i : Nat) : ByteArray := mm_byl.getD i ⟨#[]⟩
def mm_wp (i : Nat) : Nat × Nat × Nat × Nat := mm_wpl.getD i (0, 0, 0, 0)
def mm_rm (i : Nat) : Nat × Nat := mm_rml.getD i (0, 0)
def mm_re (t : Nat) : Option FieldType := match t with
  | 0 => none
  | 1 => some .int
  | 2 => some .boolean
  | 3 => some .long
  | _ => some (.object "CommaChoir$Score")
def mm_nal : List Nat := [2, 1, 2, 2, 1, 2, 2, 2, 2, 2, 1, 4, 5, 4, 2, 1, 2, 5, 2, 2, 2, 3, 2, 2, 2, 1, 2, 1, 1, 4, 3, 3, 4, 3, 3, 3, 1, 1, 1, 1, 1, 1, 1, 2, 2, 3, 3, 3, 2, 2, 2, 1, 2, 2, 2, 2, 1, 1, 3, 2, 2, 1, 2, 1, 3, 1, 4, 5, 4, 2, 1, 2, 4, 3, 4, 3, 4, 3, 2, 2, 2, 5, 3, 3, 3, 2, 1, 1, 1, 2, 1, 3, 3, 2, 2, 3, 2, 2, 1, 2, 1, 2, 3, 2, 1, 2, 1, 1, 2, 1, 1, 2, 3, 3, 5, 4, 4, 2, 1, 4, 3, 1, 4, 5, 4, 2, 1, 2, 2, 2, 2, 2, 2, 2, 1, 3, 4, 3, 3, 4, 4, 3, 3, 4, 3, 3, 2, 2, 1, 1, 2, 2, 3, 5, 5, 3, 3, 3, 3, 3, 2, 1, 1, 1, 2, 1, 1, 1, 2, 1, 2, 2, 2, 2, 1, 1]
def mm_na (i : Nat) : Nat := mm_nal.getD i 0
