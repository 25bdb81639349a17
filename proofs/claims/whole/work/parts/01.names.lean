def RX0 : String := "LampRound$Case"
def TX0 : u_T := fun k => match k with
  | 0 => ("LampRound$Case", "joined", "[I", true)
  | 1 => ("LampRound$Case", "parted", "[I", true)
  | 2 => ("LampRound$Case", "split", "[I", true)
  | 3 => ("LampRound$Case", "isSecond", "[Z", true)
  | 4 => ("LampRound$Case", "depth", "I", false)
  | _ => ("LampRound$Case", "isOver", "Z", false)
def tyX0 : Nat → FieldType := fun k => match k with
  | 0 => .array .int
  | 1 => .array .int
  | 2 => .array .int
  | 3 => .array .boolean
  | 4 => .int
  | _ => .boolean
abbrev wsX00 : List Cond := u_ws RX0 TX0 6
theorem nmX0 : ∀ a, a < 6 → ∀ b, b < 6 → a ≠ b → (TX0 a).2.1 ≠ (TX0 b).2.1 := by decide +kernel
theorem tyX0_ok : ∀ k, k < 6 → parseFieldDescriptor (TX0 k).2.2.1 = some (tyX0 k) := by decide +kernel
abbrev cX0_init : ByteArray := prog_2_method_1_code
def yX0_init : MethodName := ⟨RX0, "<init>", "()V"⟩
abbrev cX0_startEmpty : ByteArray := prog_2_method_2_code
def yX0_startEmpty : MethodName := ⟨RX0, "startEmpty", "()V"⟩
abbrev cX0_isFree : ByteArray := prog_2_method_3_code
def yX0_isFree : MethodName := ⟨RX0, "isFree", "(II)Z"⟩
abbrev cX0_splitBy : ByteArray := prog_2_method_4_code
def yX0_splitBy : MethodName := ⟨RX0, "splitBy", "(II)V"⟩
abbrev cX0_goOn : ByteArray := prog_2_method_5_code
def yX0_goOn : MethodName := ⟨RX0, "goOn", "()V"⟩
abbrev cX0_toggle : ByteArray := prog_2_method_6_code
def yX0_toggle : MethodName := ⟨RX0, "toggle", "([II)V"⟩
abbrev cX0_ringOf : ByteArray := prog_2_method_7_code
def yX0_ringOf : MethodName := ⟨RX0, "ringOf", "(I)I"⟩
def RX1 : String := "LampRound$Judge"
def TX1 : u_T := fun k => match k with
  | 0 => ("LampRound$Judge", "lamps", "LLampRound$Lamps;", true)
  | 1 => ("LampRound$Judge", "present", "LLampRound$Case;", true)
  | _ => ("LampRound$Judge", "tree", "LLampRound$Tree;", true)
def tyX1 : Nat → FieldType := fun k => match k with
  | 0 => .object "LampRound$Lamps"
  | 1 => .object "LampRound$Case"
  | _ => .object "LampRound$Tree"
abbrev wsX10 : List Cond := u_ws RX1 TX1 3
theorem nmX1 : ∀ a, a < 3 → ∀ b, b < 3 → a ≠ b → (TX1 a).2.1 ≠ (TX1 b).2.1 := by decide +kernel
theorem tyX1_ok : ∀ k, k < 3 → parseFieldDescriptor (TX1 k).2.2.1 = some (tyX1 k) := by decide +kernel
abbrev cX1_init : ByteArray := prog_3_method_1_code
def yX1_init : MethodName := ⟨RX1, "<init>", "(LLampRound$Lamps;LLampRound$Case;LLampRound$Tree;)V"⟩
abbrev cX1_wrongLine : ByteArray := prog_3_method_2_code
def yX1_wrongLine : MethodName := ⟨RX1, "wrongLine", "(LLampRound$Lines;I)I"⟩
abbrev cX1_write : ByteArray := prog_3_method_3_code
def yX1_write : MethodName := ⟨RX1, "write", "(LLampRound$Lines;I)Z"⟩
abbrev cX1_follow : ByteArray := prog_3_method_4_code
def yX1_follow : MethodName := ⟨RX1, "follow", "(LLampRound$Lines;I)V"⟩
abbrev cX1_canStand : ByteArray := prog_3_method_5_code
def yX1_canStand : MethodName := ⟨RX1, "canStand", "(IIII)Z"⟩
abbrev cX1_pricesStand : ByteArray := prog_3_method_6_code
def yX1_pricesStand : MethodName := ⟨RX1, "pricesStand", "(I)Z"⟩
abbrev cX1_partedTwins : ByteArray := prog_3_method_7_code
def yX1_partedTwins : MethodName := ⟨RX1, "partedTwins", "(I)I"⟩
abbrev cX1_standsAlone : ByteArray := prog_3_method_8_code
def yX1_standsAlone : MethodName := ⟨RX1, "standsAlone", "(II)Z"⟩
abbrev cX1_isRing : ByteArray := prog_3_method_9_code
def yX1_isRing : MethodName := ⟨RX1, "isRing", "(I)Z"⟩
abbrev cX1_writeNext : ByteArray := prog_3_method_10_code
def yX1_writeNext : MethodName := ⟨RX1, "writeNext", "(LLampRound$Lines;I)Z"⟩
abbrev cX1_writeTwins : ByteArray := prog_3_method_11_code
def yX1_writeTwins : MethodName := ⟨RX1, "writeTwins", "(LLampRound$Lines;)Z"⟩
abbrev cX1_writeAlone : ByteArray := prog_3_method_12_code
def yX1_writeAlone : MethodName := ⟨RX1, "writeAlone", "(LLampRound$Lines;I)Z"⟩
def RX2 : String := "LampRound$Lamps"
def TX2 : u_T := fun k => match k with
  | 0 => ("LampRound$Lamps", "town", "LLampRound$Town;", true)
  | 1 => ("LampRound$Lamps", "crossings", "[I", true)
  | 2 => ("LampRound$Lamps", "kinds", "[I", true)
  | 3 => ("LampRound$Lamps", "others", "[I", true)
  | 4 => ("LampRound$Lamps", "prices", "[I", true)
  | 5 => ("LampRound$Lamps", "twins", "[I", true)
  | 6 => ("LampRound$Lamps", "needs", "[I", true)
  | 7 => ("LampRound$Lamps", "gaps", "[[I", true)
  | 8 => ("LampRound$Lamps", "live", "I", false)
  | 9 => ("LampRound$Lamps", "count", "I", false)
  | _ => ("LampRound$Lamps", "surveyed", "Z", false)
def tyX2 : Nat → FieldType := fun k => match k with
  | 0 => .object "LampRound$Town"
  | 1 => .array .int
  | 2 => .array .int
  | 3 => .array .int
  | 4 => .array .int
  | 5 => .array .int
  | 6 => .array .int
  | 7 => .array (.array .int)
  | 8 => .int
  | 9 => .int
  | _ => .boolean
abbrev wsX20 : List Cond := u_ws RX2 TX2 11
theorem nmX2 : ∀ a, a < 11 → ∀ b, b < 11 → a ≠ b → (TX2 a).2.1 ≠ (TX2 b).2.1 := by decide +kernel
theorem tyX2_ok : ∀ k, k < 11 → parseFieldDescriptor (TX2 k).2.2.1 = some (tyX2 k) := by decide +kernel
abbrev cX2_init : ByteArray := prog_4_method_1_code
def yX2_init : MethodName := ⟨RX2, "<init>", "(LLampRound$Town;)V"⟩
abbrev cX2_isLamp : ByteArray := prog_4_method_2_code
def yX2_isLamp : MethodName := ⟨RX2, "isLamp", "(I)Z"⟩
abbrev cX2_isLive : ByteArray := prog_4_method_3_code
def yX2_isLive : MethodName := ⟨RX2, "isLive", "(I)Z"⟩
abbrev cX2_liveCount : ByteArray := prog_4_method_4_code
def yX2_liveCount : MethodName := ⟨RX2, "liveCount", "()I"⟩
abbrev cX2_firstLive : ByteArray := prog_4_method_5_code
def yX2_firstLive : MethodName := ⟨RX2, "firstLive", "()I"⟩
abbrev cX2_worthOf : ByteArray := prog_4_method_6_code
def yX2_worthOf : MethodName := ⟨RX2, "worthOf", "(I)I"⟩
abbrev cX2_worthOfLive : ByteArray := prog_4_method_7_code
def yX2_worthOfLive : MethodName := ⟨RX2, "worthOfLive", "()I"⟩
abbrev cX2_standsAt : ByteArray := prog_4_method_8_code
def yX2_standsAt : MethodName := ⟨RX2, "standsAt", "(I)Z"⟩
abbrev cX2_raise : ByteArray := prog_4_method_9_code
def yX2_raise : MethodName := ⟨RX2, "raise", "(III)I"⟩
abbrev cX2_flip : ByteArray := prog_4_method_10_code
def yX2_flip : MethodName := ⟨RX2, "flip", "(I)V"⟩
abbrev cX2_survey : ByteArray := prog_4_method_11_code
def yX2_survey : MethodName := ⟨RX2, "survey", "()V"⟩
abbrev cX2_twinOf : ByteArray := prog_4_method_12_code
def yX2_twinOf : MethodName := ⟨RX2, "twinOf", "(I)I"⟩
abbrev cX2_nearest : ByteArray := prog_4_method_13_code
def yX2_nearest : MethodName := ⟨RX2, "nearest", "(I)I"⟩
abbrev cX2_tieTwins : ByteArray := prog_4_method_14_code
def yX2_tieTwins : MethodName := ⟨RX2, "tieTwins", "(II)V"⟩
def RX3 : String := "LampRound$Lines"
def TX3 : u_T := fun k => match k with
  | 0 => ("LampRound$Lines", "ops", "[I", true)
  | 1 => ("LampRound$Lines", "as", "[I", true)
  | 2 => ("LampRound$Lines", "bs", "[I", true)
  | _ => ("LampRound$Lines", "count", "I", false)
def tyX3 : Nat → FieldType := fun k => match k with
  | 0 => .array .int
  | 1 => .array .int
  | 2 => .array .int
  | _ => .int
abbrev wsX30 : List Cond := u_ws RX3 TX3 4
theorem nmX3 : ∀ a, a < 4 → ∀ b, b < 4 → a ≠ b → (TX3 a).2.1 ≠ (TX3 b).2.1 := by decide +kernel
theorem tyX3_ok : ∀ k, k < 4 → parseFieldDescriptor (TX3 k).2.2.1 = some (tyX3 k) := by decide +kernel
abbrev cX3_init : ByteArray := prog_5_method_1_code
def yX3_init : MethodName := ⟨RX3, "<init>", "()V"⟩
abbrev cX3_hasLine : ByteArray := prog_5_method_2_code
def yX3_hasLine : MethodName := ⟨RX3, "hasLine", "(I)Z"⟩
abbrev cX3_write : ByteArray := prog_5_method_3_code
def yX3_write : MethodName := ⟨RX3, "write", "(IIII)V"⟩
abbrev cX3_append : ByteArray := prog_5_method_4_code
def yX3_append : MethodName := ⟨RX3, "append", "(III)V"⟩
abbrev cX3_copyFrom : ByteArray := prog_5_method_5_code
def yX3_copyFrom : MethodName := ⟨RX3, "copyFrom", "(LLampRound$Lines;)V"⟩
def RX4 : String := "LampRound$Rows"
def TX4 : u_T := fun k => match k with
  | 0 => ("LampRound$Rows", "cells", "[[J", true)
  | 1 => ("LampRound$Rows", "kinds", "[I", true)
  | _ => ("LampRound$Rows", "sizes", "[I", true)
def tyX4 : Nat → FieldType := fun k => match k with
  | 0 => .array (.array .long)
  | 1 => .array .int
  | _ => .array .int
abbrev wsX40 : List Cond := u_ws RX4 TX4 3
theorem nmX4 : ∀ a, a < 3 → ∀ b, b < 3 → a ≠ b → (TX4 a).2.1 ≠ (TX4 b).2.1 := by decide +kernel
theorem tyX4_ok : ∀ k, k < 3 → parseFieldDescriptor (TX4 k).2.2.1 = some (tyX4 k) := by decide +kernel
abbrev cX4_init : ByteArray := prog_6_method_1_code
def yX4_init : MethodName := ⟨RX4, "<init>", "()V"⟩
abbrev cX4_isNumber : ByteArray := prog_6_method_2_code
def yX4_isNumber : MethodName := ⟨RX4, "isNumber", "(I)Z"⟩
abbrev cX4_isMissing : ByteArray := prog_6_method_3_code
def yX4_isMissing : MethodName := ⟨RX4, "isMissing", "(I)Z"⟩
abbrev cX4_hasCell : ByteArray := prog_6_method_4_code
def yX4_hasCell : MethodName := ⟨RX4, "hasCell", "(II)Z"⟩
abbrev cX4_make : ByteArray := prog_6_method_5_code
def yX4_make : MethodName := ⟨RX4, "make", "(III)V"⟩
abbrev cX4_write : ByteArray := prog_6_method_6_code
def yX4_write : MethodName := ⟨RX4, "write", "(IIJ)V"⟩
abbrev cX4_drop : ByteArray := prog_6_method_7_code
def yX4_drop : MethodName := ⟨RX4, "drop", "(I)V"⟩
def RX5 : String := "LampRound$Search"
def TX5 : u_T := fun k => match k with
  | 0 => ("LampRound$Search", "lamps", "LLampRound$Lamps;", true)
  | 1 => ("LampRound$Search", "musts", "[I", true)
  | 2 => ("LampRound$Search", "bans", "[I", true)
  | 3 => ("LampRound$Search", "live", "[I", true)
  | 4 => ("LampRound$Search", "order", "[I", true)
  | 5 => ("LampRound$Search", "best", "[I", true)
  | 6 => ("LampRound$Search", "shunned", "[I", true)
  | 7 => ("LampRound$Search", "shuns", "Z", false)
  | 8 => ("LampRound$Search", "size", "I", false)
  | _ => ("LampRound$Search", "bestLength", "I", false)
def tyX5 : Nat → FieldType := fun k => match k with
  | 0 => .object "LampRound$Lamps"
  | 1 => .array .int
  | 2 => .array .int
  | 3 => .array .int
  | 4 => .array .int
  | 5 => .array .int
  | 6 => .array .int
  | 7 => .boolean
  | 8 => .int
  | _ => .int
abbrev wsX50 : List Cond := u_ws RX5 TX5 10
theorem nmX5 : ∀ a, a < 10 → ∀ b, b < 10 → a ≠ b → (TX5 a).2.1 ≠ (TX5 b).2.1 := by decide +kernel
theorem tyX5_ok : ∀ k, k < 10 → parseFieldDescriptor (TX5 k).2.2.1 = some (tyX5 k) := by decide +kernel
abbrev cX5_init : ByteArray := prog_7_method_1_code
def yX5_init : MethodName := ⟨RX5, "<init>", "(LLampRound$Lamps;)V"⟩
abbrev cX5_begin : ByteArray := prog_7_method_2_code
def yX5_begin : MethodName := ⟨RX5, "begin", "()V"⟩
abbrev cX5_tie : ByteArray := prog_7_method_3_code
def yX5_tie : MethodName := ⟨RX5, "tie", "([III)V"⟩
abbrev cX5_run : ByteArray := prog_7_method_4_code
def yX5_run : MethodName := ⟨RX5, "run", "()Z"⟩
abbrev cX5_isHungTogether : ByteArray := prog_7_method_5_code
def yX5_isHungTogether : MethodName := ⟨RX5, "isHungTogether", "()Z"⟩
abbrev cX5_extend : ByteArray := prog_7_method_6_code
def yX5_extend : MethodName := ⟨RX5, "extend", "(III)V"⟩
abbrev cX5_mayFollow : ByteArray := prog_7_method_7_code
def yX5_mayFollow : MethodName := ⟨RX5, "mayFollow", "(III)Z"⟩
abbrev cX5_isContent : ByteArray := prog_7_method_8_code
def yX5_isContent : MethodName := ⟨RX5, "isContent", "(III)Z"⟩
abbrev cX5_finish : ByteArray := prog_7_method_9_code
def yX5_finish : MethodName := ⟨RX5, "finish", "(I)V"⟩
abbrev cX5_isShunned : ByteArray := prog_7_method_10_code
def yX5_isShunned : MethodName := ⟨RX5, "isShunned", "()Z"⟩
def RX6 : String := "LampRound$ToldRound"
def TX6 : u_T := fun k => match k with
  | 0 => ("LampRound$ToldRound", "lamps", "LLampRound$Lamps;", true)
  | 1 => ("LampRound$ToldRound", "order", "[I", true)
  | _ => ("LampRound$ToldRound", "count", "I", false)
def tyX6 : Nat → FieldType := fun k => match k with
  | 0 => .object "LampRound$Lamps"
  | 1 => .array .int
  | _ => .int
abbrev wsX60 : List Cond := u_ws RX6 TX6 3
theorem nmX6 : ∀ a, a < 3 → ∀ b, b < 3 → a ≠ b → (TX6 a).2.1 ≠ (TX6 b).2.1 := by decide +kernel
theorem tyX6_ok : ∀ k, k < 3 → parseFieldDescriptor (TX6 k).2.2.1 = some (tyX6 k) := by decide +kernel
abbrev cX6_init : ByteArray := prog_8_method_1_code
def yX6_init : MethodName := ⟨RX6, "<init>", "(LLampRound$Lamps;)V"⟩
abbrev cX6_isWhole : ByteArray := prog_8_method_2_code
def yX6_isWhole : MethodName := ⟨RX6, "isWhole", "()Z"⟩
abbrev cX6_holds : ByteArray := prog_8_method_3_code
def yX6_holds : MethodName := ⟨RX6, "holds", "(I)Z"⟩
abbrev cX6_append : ByteArray := prog_8_method_4_code
def yX6_append : MethodName := ⟨RX6, "append", "(I)I"⟩
abbrev cX6_empty : ByteArray := prog_8_method_5_code
def yX6_empty : MethodName := ⟨RX6, "empty", "()I"⟩
abbrev cX6_copyFrom : ByteArray := prog_8_method_6_code
def yX6_copyFrom : MethodName := ⟨RX6, "copyFrom", "([II)V"⟩
abbrev cX6_measure : ByteArray := prog_8_method_7_code
def yX6_measure : MethodName := ⟨RX6, "measure", "()I"⟩
abbrev cX6_keepsTwins : ByteArray := prog_8_method_8_code
def yX6_keepsTwins : MethodName := ⟨RX6, "keepsTwins", "()Z"⟩
abbrev cX6_reverse : ByteArray := prog_8_method_9_code
def yX6_reverse : MethodName := ⟨RX6, "reverse", "(II)V"⟩
abbrev cX6_turnFirstShorter : ByteArray := prog_8_method_10_code
def yX6_turnFirstShorter : MethodName := ⟨RX6, "turnFirstShorter", "()Z"⟩
abbrev cX6_isShorterTurned : ByteArray := prog_8_method_11_code
def yX6_isShorterTurned : MethodName := ⟨RX6, "isShorterTurned", "(II)Z"⟩
abbrev cX6_writeOut : ByteArray := prog_8_method_12_code
def yX6_writeOut : MethodName := ⟨RX6, "writeOut", "([I)V"⟩
abbrev cX6_after : ByteArray := prog_8_method_13_code
def yX6_after : MethodName := ⟨RX6, "after", "(I)I"⟩
abbrev cX6_before : ByteArray := prog_8_method_14_code
def yX6_before : MethodName := ⟨RX6, "before", "(I)I"⟩
def RX7 : String := "LampRound$Town"
def TX7 : u_T := fun k => match k with
  | 0 => ("LampRound$Town", "from", "[I", true)
  | 1 => ("LampRound$Town", "to", "[I", true)
  | 2 => ("LampRound$Town", "size", "[I", true)
  | 3 => ("LampRound$Town", "isOpen", "[Z", true)
  | 4 => ("LampRound$Town", "ways", "[[I", true)
  | 5 => ("LampRound$Town", "reckoned", "J", false)
  | _ => ("LampRound$Town", "count", "I", false)
def tyX7 : Nat → FieldType := fun k => match k with
  | 0 => .array .int
  | 1 => .array .int
  | 2 => .array .int
  | 3 => .array .boolean
  | 4 => .array (.array .int)
  | 5 => .long
  | _ => .int
abbrev wsX70 : List Cond := u_ws RX7 TX7 7
theorem nmX7 : ∀ a, a < 7 → ∀ b, b < 7 → a ≠ b → (TX7 a).2.1 ≠ (TX7 b).2.1 := by decide +kernel
theorem tyX7_ok : ∀ k, k < 7 → parseFieldDescriptor (TX7 k).2.2.1 = some (tyX7 k) := by decide +kernel
abbrev cX7_init : ByteArray := prog_9_method_1_code
def yX7_init : MethodName := ⟨RX7, "<init>", "()V"⟩
abbrev cX7_isLane : ByteArray := prog_9_method_2_code
def yX7_isLane : MethodName := ⟨RX7, "isLane", "(I)Z"⟩
abbrev cX7_build : ByteArray := prog_9_method_3_code
def yX7_build : MethodName := ⟨RX7, "build", "(III)I"⟩
abbrev cX7_resize : ByteArray := prog_9_method_4_code
def yX7_resize : MethodName := ⟨RX7, "resize", "(IJ)V"⟩
abbrev cX7_forgetWays : ByteArray := prog_9_method_5_code
def yX7_forgetWays : MethodName := ⟨RX7, "forgetWays", "()V"⟩
abbrev cX7_waysFrom : ByteArray := prog_9_method_6_code
def yX7_waysFrom : MethodName := ⟨RX7, "waysFrom", "(I)[I"⟩
abbrev cX7_reckon : ByteArray := prog_9_method_7_code
def yX7_reckon : MethodName := ⟨RX7, "reckon", "([II)V"⟩
abbrev cX7_shorten : ByteArray := prog_9_method_8_code
def yX7_shorten : MethodName := ⟨RX7, "shorten", "([II)Z"⟩
abbrev cX7_crossingOnWalk : ByteArray := prog_9_method_9_code
def yX7_crossingOnWalk : MethodName := ⟨RX7, "crossingOnWalk", "(III)I"⟩
abbrev cX7_nextOnWalk : ByteArray := prog_9_method_10_code
def yX7_nextOnWalk : MethodName := ⟨RX7, "nextOnWalk", "(I[I)I"⟩
abbrev cX7_farEnd : ByteArray := prog_9_method_11_code
def yX7_farEnd : MethodName := ⟨RX7, "farEnd", "(II)I"⟩
def RX8 : String := "LampRound$Tree"
def TX8 : u_T := fun k => match k with
  | 0 => ("LampRound$Tree", "lamps", "LLampRound$Lamps;", true)
  | 1 => ("LampRound$Tree", "present", "LLampRound$Case;", true)
  | 2 => ("LampRound$Tree", "ranked", "[J", true)
  | 3 => ("LampRound$Tree", "takenPairs", "[I", true)
  | 4 => ("LampRound$Tree", "hung", "[I", true)
  | 5 => ("LampRound$Tree", "pairs", "I", false)
  | 6 => ("LampRound$Tree", "takenCount", "I", false)
  | 7 => ("LampRound$Tree", "takenOfFirst", "I", false)
  | _ => ("LampRound$Tree", "sum", "J", false)
def tyX8 : Nat → FieldType := fun k => match k with
  | 0 => .object "LampRound$Lamps"
  | 1 => .object "LampRound$Case"
  | 2 => .array .long
  | 3 => .array .int
  | 4 => .array .int
  | 5 => .int
  | 6 => .int
  | 7 => .int
  | _ => .long
abbrev wsX80 : List Cond := u_ws RX8 TX8 9
theorem nmX8 : ∀ a, a < 9 → ∀ b, b < 9 → a ≠ b → (TX8 a).2.1 ≠ (TX8 b).2.1 := by decide +kernel
theorem tyX8_ok : ∀ k, k < 9 → parseFieldDescriptor (TX8 k).2.2.1 = some (tyX8 k) := by decide +kernel
abbrev cX8_init : ByteArray := prog_10_method_1_code
def yX8_init : MethodName := ⟨RX8, "<init>", "(LLampRound$Lamps;LLampRound$Case;)V"⟩
abbrev cX8_rank : ByteArray := prog_10_method_2_code
def yX8_rank : MethodName := ⟨RX8, "rank", "()V"⟩
abbrev cX8_rankAnew : ByteArray := prog_10_method_3_code
def yX8_rankAnew : MethodName := ⟨RX8, "rankAnew", "()V"⟩
abbrev cX8_keyOf : ByteArray := prog_10_method_4_code
def yX8_keyOf : MethodName := ⟨RX8, "keyOf", "(II)J"⟩
abbrev cX8_sort : ByteArray := prog_10_method_5_code
def yX8_sort : MethodName := ⟨RX8, "sort", "()V"⟩
abbrev cX8_pairAt : ByteArray := prog_10_method_6_code
def yX8_pairAt : MethodName := ⟨RX8, "pairAt", "(I)I"⟩
abbrev cX8_pricedAt : ByteArray := prog_10_method_7_code
def yX8_pricedAt : MethodName := ⟨RX8, "pricedAt", "(I)J"⟩
abbrev cX8_firstFreePair : ByteArray := prog_10_method_8_code
def yX8_firstFreePair : MethodName := ⟨RX8, "firstFreePair", "()I"⟩
abbrev cX8_grow : ByteArray := prog_10_method_9_code
def yX8_grow : MethodName := ⟨RX8, "grow", "()V"⟩
abbrev cX8_takeOthers : ByteArray := prog_10_method_10_code
def yX8_takeOthers : MethodName := ⟨RX8, "takeOthers", "(IZ)V"⟩
abbrev cX8_takeOfFirst : ByteArray := prog_10_method_11_code
def yX8_takeOfFirst : MethodName := ⟨RX8, "takeOfFirst", "(IZ)V"⟩
abbrev cX8_mayTake : ByteArray := prog_10_method_12_code
def yX8_mayTake : MethodName := ⟨RX8, "mayTake", "(IZ)Z"⟩
abbrev cX8_take : ByteArray := prog_10_method_13_code
def yX8_take : MethodName := ⟨RX8, "take", "(I)V"⟩
abbrev cX8_sumOfCase : ByteArray := prog_10_method_14_code
def yX8_sumOfCase : MethodName := ⟨RX8, "sumOfCase", "()J"⟩
abbrev cX8_raisePrices : ByteArray := prog_10_method_15_code
def yX8_raisePrices : MethodName := ⟨RX8, "raisePrices", "()V"⟩
def RX9 : String := "LampRound"
def TX9 : u_T := fun k => match k with
  | 0 => ("LampRound", "rows", "LLampRound$Rows;", true)
  | 1 => ("LampRound", "town", "LLampRound$Town;", true)
  | 2 => ("LampRound", "lamps", "LLampRound$Lamps;", true)
  | 3 => ("LampRound", "told", "LLampRound$ToldRound;", true)
  | 4 => ("LampRound", "search", "LLampRound$Search;", true)
  | 5 => ("LampRound", "present", "LLampRound$Case;", true)
  | 6 => ("LampRound", "tree", "LLampRound$Tree;", true)
  | 7 => ("LampRound", "judge", "LLampRound$Judge;", true)
  | 8 => ("LampRound", "proof", "LLampRound$Lines;", true)
  | _ => ("LampRound", "draft", "LLampRound$Lines;", true)
def tyX9 : Nat → FieldType := fun k => match k with
  | 0 => .object "LampRound$Rows"
  | 1 => .object "LampRound$Town"
  | 2 => .object "LampRound$Lamps"
  | 3 => .object "LampRound$ToldRound"
  | 4 => .object "LampRound$Search"
  | 5 => .object "LampRound$Case"
  | 6 => .object "LampRound$Tree"
  | 7 => .object "LampRound$Judge"
  | 8 => .object "LampRound$Lines"
  | _ => .object "LampRound$Lines"
abbrev wsX90 : List Cond := u_ws RX9 TX9 10
theorem nmX9 : ∀ a, a < 10 → ∀ b, b < 10 → a ≠ b → (TX9 a).2.1 ≠ (TX9 b).2.1 := by decide +kernel
theorem tyX9_ok : ∀ k, k < 10 → parseFieldDescriptor (TX9 k).2.2.1 = some (tyX9 k) := by decide +kernel
abbrev cX9_init : ByteArray := prog_1_method_1_code
def yX9_init : MethodName := ⟨RX9, "<init>", "()V"⟩
abbrev cX9_lane : ByteArray := prog_1_method_2_code
def yX9_lane : MethodName := ⟨RX9, "lane", "(III)I"⟩
abbrev cX9_open : ByteArray := prog_1_method_3_code
def yX9_open : MethodName := ⟨RX9, "open", "(IZ)I"⟩
abbrev cX9_about : ByteArray := prog_1_method_4_code
def yX9_about : MethodName := ⟨RX9, "about", "(II)I"⟩
abbrev cX9_row : ByteArray := prog_1_method_5_code
def yX9_row : MethodName := ⟨RX9, "row", "(III)I"⟩
abbrev cX9_cell : ByteArray := prog_1_method_6_code
def yX9_cell : MethodName := ⟨RX9, "cell", "(IIJ)I"⟩
abbrev cX9_told : ByteArray := prog_1_method_7_code
def yX9_told : MethodName := ⟨RX9, "told", "(II)J"⟩
abbrev cX9_lose : ByteArray := prog_1_method_8_code
def yX9_lose : MethodName := ⟨RX9, "lose", "(I)I"⟩
abbrev cX9_lay : ByteArray := prog_1_method_9_code
def yX9_lay : MethodName := ⟨RX9, "lay", "(IIII)I"⟩
abbrev cX9_way : ByteArray := prog_1_method_10_code
def yX9_way : MethodName := ⟨RX9, "way", "(II)I"⟩
abbrev cX9_walk : ByteArray := prog_1_method_11_code
def yX9_walk : MethodName := ⟨RX9, "walk", "(III)I"⟩
abbrev cX9_lamp : ByteArray := prog_1_method_12_code
def yX9_lamp : MethodName := ⟨RX9, "lamp", "(III)I"⟩
abbrev cX9_dark : ByteArray := prog_1_method_13_code
def yX9_dark : MethodName := ⟨RX9, "dark", "(IZ)I"⟩
abbrev cX9_twin : ByteArray := prog_1_method_14_code
def yX9_twin : MethodName := ⟨RX9, "twin", "(I)I"⟩
abbrev cX9_of : ByteArray := prog_1_method_15_code
def yX9_of : MethodName := ⟨RX9, "of", "(II)I"⟩
abbrev cX9_many : ByteArray := prog_1_method_16_code
def yX9_many : MethodName := ⟨RX9, "many", "(I)I"⟩
abbrev cX9_least : ByteArray := prog_1_method_17_code
def yX9_least : MethodName := ⟨RX9, "least", "()I"⟩
abbrev cX9_second : ByteArray := prog_1_method_18_code
def yX9_second : MethodName := ⟨RX9, "second", "()I"⟩
abbrev cX9_with : ByteArray := prog_1_method_19_code
def yX9_with : MethodName := ⟨RX9, "with", "(IIZ)I"⟩
abbrev cX9_put : ByteArray := prog_1_method_20_code
def yX9_put : MethodName := ⟨RX9, "put", "(I)I"⟩
abbrev cX9_clear : ByteArray := prog_1_method_21_code
def yX9_clear : MethodName := ⟨RX9, "clear", "()I"⟩
abbrev cX9_at : ByteArray := prog_1_method_22_code
def yX9_at : MethodName := ⟨RX9, "at", "(I)I"⟩
abbrev cX9_length : ByteArray := prog_1_method_23_code
def yX9_length : MethodName := ⟨RX9, "length", "()I"⟩
abbrev cX9_keeps : ByteArray := prog_1_method_24_code
def yX9_keeps : MethodName := ⟨RX9, "keeps", "()I"⟩
abbrev cX9_turn : ByteArray := prog_1_method_25_code
def yX9_turn : MethodName := ⟨RX9, "turn", "(II)I"⟩
abbrev cX9_better : ByteArray := prog_1_method_26_code
def yX9_better : MethodName := ⟨RX9, "better", "()I"⟩
abbrev cX9_price : ByteArray := prog_1_method_27_code
def yX9_price : MethodName := ⟨RX9, "price", "(II)I"⟩
abbrev cX9_climb : ByteArray := prog_1_method_28_code
def yX9_climb : MethodName := ⟨RX9, "climb", "(I)I"⟩
abbrev cX9_bound : ByteArray := prog_1_method_29_code
def yX9_bound : MethodName := ⟨RX9, "bound", "()J"⟩
abbrev cX9_taken : ByteArray := prog_1_method_30_code
def yX9_taken : MethodName := ⟨RX9, "taken", "(I)I"⟩
abbrev cX9_prove : ByteArray := prog_1_method_31_code
def yX9_prove : MethodName := ⟨RX9, "prove", "(I)I"⟩
abbrev cX9_line : ByteArray := prog_1_method_32_code
def yX9_line : MethodName := ⟨RX9, "line", "(III)I"⟩
abbrev cX9_alter : ByteArray := prog_1_method_33_code
def yX9_alter : MethodName := ⟨RX9, "alter", "(IIII)I"⟩
abbrev cX9_cut : ByteArray := prog_1_method_34_code
def yX9_cut : MethodName := ⟨RX9, "cut", "(I)I"⟩
abbrev cX9_shown : ByteArray := prog_1_method_35_code
def yX9_shown : MethodName := ⟨RX9, "shown", "(II)I"⟩
abbrev cX9_check : ByteArray := prog_1_method_36_code
def yX9_check : MethodName := ⟨RX9, "check", "(I)I"⟩
abbrev cX9_isCrossing : ByteArray := prog_1_method_37_code
def yX9_isCrossing : MethodName := ⟨RX9, "isCrossing", "(I)Z"⟩
abbrev cX9_isLength : ByteArray := prog_1_method_38_code
def yX9_isLength : MethodName := ⟨RX9, "isLength", "(J)Z"⟩
abbrev cX9_isOp : ByteArray := prog_1_method_39_code
def yX9_isOp : MethodName := ⟨RX9, "isOp", "(I)Z"⟩
abbrev cX9_isIn : ByteArray := prog_1_method_40_code
def yX9_isIn : MethodName := ⟨RX9, "isIn", "(II)Z"⟩
abbrev cX9_pairOf : ByteArray := prog_1_method_41_code
def yX9_pairOf : MethodName := ⟨RX9, "pairOf", "(II)I"⟩
abbrev cX9_lesserOf : ByteArray := prog_1_method_42_code
def yX9_lesserOf : MethodName := ⟨RX9, "lesserOf", "(I)I"⟩
abbrev cX9_greaterOf : ByteArray := prog_1_method_43_code
def yX9_greaterOf : MethodName := ⟨RX9, "greaterOf", "(I)I"⟩
abbrev cX9_isLarge : ByteArray := prog_1_method_44_code
def yX9_isLarge : MethodName := ⟨RX9, "isLarge", "()Z"⟩
abbrev cX9_isTooSmall : ByteArray := prog_1_method_45_code
def yX9_isTooSmall : MethodName := ⟨RX9, "isTooSmall", "()Z"⟩
abbrev cX9_lanesChanged : ByteArray := prog_1_method_46_code
def yX9_lanesChanged : MethodName := ⟨RX9, "lanesChanged", "()V"⟩
abbrev cX9_lampsChanged : ByteArray := prog_1_method_47_code
def yX9_lampsChanged : MethodName := ⟨RX9, "lampsChanged", "()V"⟩
abbrev cX9_beginEmptyCase : ByteArray := prog_1_method_48_code
def yX9_beginEmptyCase : MethodName := ⟨RX9, "beginEmptyCase", "()V"⟩
abbrev cX9_growEmptyCase : ByteArray := prog_1_method_49_code
def yX9_growEmptyCase : MethodName := ⟨RX9, "growEmptyCase", "()V"⟩
def RX10 : String := "LampRoundModel"
def TX10 : u_T := fun k => match k with
  | 0 => ("LampRoundModel", "lanes", "I", false)
  | 1 => ("LampRoundModel", "from", "[I", true)
  | 2 => ("LampRoundModel", "to", "[I", true)
  | 3 => ("LampRoundModel", "length", "[I", true)
  | 4 => ("LampRoundModel", "isOpen", "[Z", true)
  | 5 => ("LampRoundModel", "rowKind", "[I", true)
  | 6 => ("LampRoundModel", "rowSize", "[I", true)
  | 7 => ("LampRoundModel", "cell", "[J", true)
  | 8 => ("LampRoundModel", "ways", "[I", true)
  | 9 => ("LampRoundModel", "lamps", "I", false)
  | 10 => ("LampRoundModel", "crossing", "[I", true)
  | 11 => ("LampRoundModel", "kind", "[I", true)
  | 12 => ("LampRoundModel", "other", "[I", true)
  | 13 => ("LampRoundModel", "isOut", "[Z", true)
  | 14 => ("LampRoundModel", "price", "[I", true)
  | 15 => ("LampRoundModel", "told", "I", false)
  | 16 => ("LampRoundModel", "round", "[I", true)
  | 17 => ("LampRoundModel", "lines", "I", false)
  | 18 => ("LampRoundModel", "op", "[I", true)
  | 19 => ("LampRoundModel", "left", "[I", true)
  | 20 => ("LampRoundModel", "right", "[I", true)
  | 21 => ("LampRoundModel", "order", "[I", true)
  | 22 => ("LampRoundModel", "best", "[I", true)
  | 23 => ("LampRoundModel", "written", "[I", true)
  | 24 => ("LampRoundModel", "pairs", "[I", true)
  | 25 => ("LampRoundModel", "hang", "[I", true)
  | 26 => ("LampRoundModel", "takenPair", "[I", true)
  | 27 => ("LampRoundModel", "taken", "I", false)
  | 28 => ("LampRoundModel", "isTaken", "[Z", true)
  | 29 => ("LampRoundModel", "waiting", "[I", true)
  | 30 => ("LampRoundModel", "waits", "I", false)
  | 31 => ("LampRoundModel", "ring", "[Z", true)
  | 32 => ("LampRoundModel", "newOp", "[I", true)
  | 33 => ("LampRoundModel", "newLeft", "[I", true)
  | 34 => ("LampRoundModel", "newRight", "[I", true)
  | _ => ("LampRoundModel", "news", "I", false)
def tyX10 : Nat → FieldType := fun k => match k with
  | 0 => .int
  | 1 => .array .int
  | 2 => .array .int
  | 3 => .array .int
  | 4 => .array .boolean
  | 5 => .array .int
  | 6 => .array .int
  | 7 => .array .long
  | 8 => .array .int
  | 9 => .int
  | 10 => .array .int
  | 11 => .array .int
  | 12 => .array .int
  | 13 => .array .boolean
  | 14 => .array .int
  | 15 => .int
  | 16 => .array .int
  | 17 => .int
  | 18 => .array .int
  | 19 => .array .int
  | 20 => .array .int
  | 21 => .array .int
  | 22 => .array .int
  | 23 => .array .int
  | 24 => .array .int
  | 25 => .array .int
  | 26 => .array .int
  | 27 => .int
  | 28 => .array .boolean
  | 29 => .array .int
  | 30 => .int
  | 31 => .array .boolean
  | 32 => .array .int
  | 33 => .array .int
  | 34 => .array .int
  | _ => .int
abbrev wsX100 : List Cond := u_ws RX10 TX10 36
theorem nmX10 : ∀ a, a < 36 → ∀ b, b < 36 → a ≠ b → (TX10 a).2.1 ≠ (TX10 b).2.1 := by decide +kernel
theorem tyX10_ok : ∀ k, k < 36 → parseFieldDescriptor (TX10 k).2.2.1 = some (tyX10 k) := by decide +kernel
abbrev cX10_init : ByteArray := prog_12_method_1_code
def yX10_init : MethodName := ⟨RX10, "<init>", "()V"⟩
abbrev cX10_work : ByteArray := prog_12_method_2_code
def yX10_work : MethodName := ⟨RX10, "work", "()V"⟩
abbrev cX10_isCrossing : ByteArray := prog_12_method_3_code
def yX10_isCrossing : MethodName := ⟨RX10, "isCrossing", "(I)Z"⟩
abbrev cX10_isLane : ByteArray := prog_12_method_4_code
def yX10_isLane : MethodName := ⟨RX10, "isLane", "(I)Z"⟩
abbrev cX10_isLamp : ByteArray := prog_12_method_5_code
def yX10_isLamp : MethodName := ⟨RX10, "isLamp", "(I)Z"⟩
abbrev cX10_isLit : ByteArray := prog_12_method_6_code
def yX10_isLit : MethodName := ⟨RX10, "isLit", "(I)Z"⟩
abbrev cX10_lit : ByteArray := prog_12_method_7_code
def yX10_lit : MethodName := ⟨RX10, "lit", "()I"⟩
abbrev cX10_between : ByteArray := prog_12_method_8_code
def yX10_between : MethodName := ⟨RX10, "between", "(II)I"⟩
abbrev cX10_lane : ByteArray := prog_12_method_9_code
def yX10_lane : MethodName := ⟨RX10, "lane", "(III)I"⟩
abbrev cX10_open : ByteArray := prog_12_method_10_code
def yX10_open : MethodName := ⟨RX10, "open", "(IZ)I"⟩
abbrev cX10_about : ByteArray := prog_12_method_11_code
def yX10_about : MethodName := ⟨RX10, "about", "(II)I"⟩
abbrev cX10_isRow : ByteArray := prog_12_method_12_code
def yX10_isRow : MethodName := ⟨RX10, "isRow", "(I)Z"⟩
abbrev cX10_row : ByteArray := prog_12_method_13_code
def yX10_row : MethodName := ⟨RX10, "row", "(III)I"⟩
abbrev cX10_cell : ByteArray := prog_12_method_14_code
def yX10_cell : MethodName := ⟨RX10, "cell", "(IIJ)I"⟩
abbrev cX10_told : ByteArray := prog_12_method_15_code
def yX10_told : MethodName := ⟨RX10, "told", "(II)J"⟩
abbrev cX10_lose : ByteArray := prog_12_method_16_code
def yX10_lose : MethodName := ⟨RX10, "lose", "(I)I"⟩
abbrev cX10_lay : ByteArray := prog_12_method_17_code
def yX10_lay : MethodName := ⟨RX10, "lay", "(IIII)I"⟩
abbrev cX10_way : ByteArray := prog_12_method_18_code
def yX10_way : MethodName := ⟨RX10, "way", "(II)I"⟩
abbrev cX10_next : ByteArray := prog_12_method_19_code
def yX10_next : MethodName := ⟨RX10, "next", "(II)I"⟩
abbrev cX10_walk : ByteArray := prog_12_method_20_code
def yX10_walk : MethodName := ⟨RX10, "walk", "(III)I"⟩
abbrev cX10_lamp : ByteArray := prog_12_method_21_code
def yX10_lamp : MethodName := ⟨RX10, "lamp", "(III)I"⟩
abbrev cX10_dark : ByteArray := prog_12_method_22_code
def yX10_dark : MethodName := ⟨RX10, "dark", "(IZ)I"⟩
abbrev cX10_twinOf : ByteArray := prog_12_method_23_code
def yX10_twinOf : MethodName := ⟨RX10, "twinOf", "(I)I"⟩
abbrev cX10_twin : ByteArray := prog_12_method_24_code
def yX10_twin : MethodName := ⟨RX10, "twin", "(I)I"⟩
abbrev cX10_of : ByteArray := prog_12_method_25_code
def yX10_of : MethodName := ⟨RX10, "of", "(II)I"⟩
abbrev cX10_many : ByteArray := prog_12_method_26_code
def yX10_many : MethodName := ⟨RX10, "many", "(I)I"⟩
abbrev cX10_lengthOf : ByteArray := prog_12_method_27_code
def yX10_lengthOf : MethodName := ⟨RX10, "lengthOf", "([II)I"⟩
abbrev cX10_placeOf : ByteArray := prog_12_method_28_code
def yX10_placeOf : MethodName := ⟨RX10, "placeOf", "([III)I"⟩
abbrev cX10_areBeside : ByteArray := prog_12_method_29_code
def yX10_areBeside : MethodName := ⟨RX10, "areBeside", "([IIII)Z"⟩
abbrev cX10_keepsTwins : ByteArray := prog_12_method_30_code
def yX10_keepsTwins : MethodName := ⟨RX10, "keepsTwins", "([II)Z"⟩
abbrev cX10_nextOrder : ByteArray := prog_12_method_31_code
def yX10_nextOrder : MethodName := ⟨RX10, "nextOrder", "(I)Z"⟩
abbrev cX10_swap : ByteArray := prog_12_method_32_code
def yX10_swap : MethodName := ⟨RX10, "swap", "(II)V"⟩
abbrev cX10_isWritten : ByteArray := prog_12_method_33_code
def yX10_isWritten : MethodName := ⟨RX10, "isWritten", "(I)Z"⟩
abbrev cX10_search : ByteArray := prog_12_method_34_code
def yX10_search : MethodName := ⟨RX10, "search", "(III)I"⟩
abbrev cX10_least : ByteArray := prog_12_method_35_code
def yX10_least : MethodName := ⟨RX10, "least", "()I"⟩
abbrev cX10_isWhole : ByteArray := prog_12_method_36_code
def yX10_isWhole : MethodName := ⟨RX10, "isWhole", "()Z"⟩
abbrev cX10_write : ByteArray := prog_12_method_37_code
def yX10_write : MethodName := ⟨RX10, "write", "()V"⟩
abbrev cX10_second : ByteArray := prog_12_method_38_code
def yX10_second : MethodName := ⟨RX10, "second", "()I"⟩
abbrev cX10_with : ByteArray := prog_12_method_39_code
def yX10_with : MethodName := ⟨RX10, "with", "(IIZ)I"⟩
abbrev cX10_put : ByteArray := prog_12_method_40_code
def yX10_put : MethodName := ⟨RX10, "put", "(I)I"⟩
abbrev cX10_clear : ByteArray := prog_12_method_41_code
def yX10_clear : MethodName := ⟨RX10, "clear", "()I"⟩
abbrev cX10_at : ByteArray := prog_12_method_42_code
def yX10_at : MethodName := ⟨RX10, "at", "(I)I"⟩
abbrev cX10_length : ByteArray := prog_12_method_43_code
def yX10_length : MethodName := ⟨RX10, "length", "()I"⟩
abbrev cX10_keeps : ByteArray := prog_12_method_44_code
def yX10_keeps : MethodName := ⟨RX10, "keeps", "()I"⟩
abbrev cX10_turnRound : ByteArray := prog_12_method_45_code
def yX10_turnRound : MethodName := ⟨RX10, "turnRound", "(II)V"⟩
abbrev cX10_turn : ByteArray := prog_12_method_46_code
def yX10_turn : MethodName := ⟨RX10, "turn", "(II)I"⟩
abbrev cX10_betters : ByteArray := prog_12_method_47_code
def yX10_betters : MethodName := ⟨RX10, "betters", "()Z"⟩
abbrev cX10_better : ByteArray := prog_12_method_48_code
def yX10_better : MethodName := ⟨RX10, "better", "()I"⟩
abbrev cX10_pairOf : ByteArray := prog_12_method_49_code
def yX10_pairOf : MethodName := ⟨RX10, "pairOf", "(II)I"⟩
abbrev cX10_freeAll : ByteArray := prog_12_method_50_code
def yX10_freeAll : MethodName := ⟨RX10, "freeAll", "()V"⟩
abbrev cX10_priced : ByteArray := prog_12_method_51_code
def yX10_priced : MethodName := ⟨RX10, "priced", "(I)J"⟩
abbrev cX10_isPair : ByteArray := prog_12_method_52_code
def yX10_isPair : MethodName := ⟨RX10, "isPair", "(I)Z"⟩
abbrev cX10_hasWay : ByteArray := prog_12_method_53_code
def yX10_hasWay : MethodName := ⟨RX10, "hasWay", "(I)Z"⟩
abbrev cX10_isAhead : ByteArray := prog_12_method_54_code
def yX10_isAhead : MethodName := ⟨RX10, "isAhead", "(II)Z"⟩
abbrev cX10_first : ByteArray := prog_12_method_55_code
def yX10_first : MethodName := ⟨RX10, "first", "()I"⟩
abbrev cX10_nextPair : ByteArray := prog_12_method_56_code
def yX10_nextPair : MethodName := ⟨RX10, "nextPair", "(Z)I"⟩
abbrev cX10_take : ByteArray := prog_12_method_57_code
def yX10_take : MethodName := ⟨RX10, "take", "(I)V"⟩
abbrev cX10_tree : ByteArray := prog_12_method_58_code
def yX10_tree : MethodName := ⟨RX10, "tree", "()J"⟩
abbrev cX10_price : ByteArray := prog_12_method_59_code
def yX10_price : MethodName := ⟨RX10, "price", "(II)I"⟩
abbrev cX10_climb : ByteArray := prog_12_method_60_code
def yX10_climb : MethodName := ⟨RX10, "climb", "(I)I"⟩
abbrev cX10_bound : ByteArray := prog_12_method_61_code
def yX10_bound : MethodName := ⟨RX10, "bound", "()J"⟩
abbrev cX10_taken : ByteArray := prog_12_method_62_code
def yX10_taken : MethodName := ⟨RX10, "taken", "(I)I"⟩
abbrev cX10_pushCase : ByteArray := prog_12_method_63_code
def yX10_pushCase : MethodName := ⟨RX10, "pushCase", "()V"⟩
abbrev cX10_popCase : ByteArray := prog_12_method_64_code
def yX10_popCase : MethodName := ⟨RX10, "popCase", "()V"⟩
abbrev cX10_joinedOf : ByteArray := prog_12_method_65_code
def yX10_joinedOf : MethodName := ⟨RX10, "joinedOf", "(I)I"⟩
abbrev cX10_isFew : ByteArray := prog_12_method_66_code
def yX10_isFew : MethodName := ⟨RX10, "isFew", "(I)Z"⟩
abbrev cX10_isMany : ByteArray := prog_12_method_67_code
def yX10_isMany : MethodName := ⟨RX10, "isMany", "(I)Z"⟩
abbrev cX10_isRing : ByteArray := prog_12_method_68_code
def yX10_isRing : MethodName := ⟨RX10, "isRing", "(I)Z"⟩
abbrev cX10_isTwins : ByteArray := prog_12_method_69_code
def yX10_isTwins : MethodName := ⟨RX10, "isTwins", "(II)Z"⟩
abbrev cX10_isPart : ByteArray := prog_12_method_70_code
def yX10_isPart : MethodName := ⟨RX10, "isPart", "(II)Z"⟩
abbrev cX10_stands : ByteArray := prog_12_method_71_code
def yX10_stands : MethodName := ⟨RX10, "stands", "(IIII)Z"⟩
abbrev cX10_part : ByteArray := prog_12_method_72_code
def yX10_part : MethodName := ⟨RX10, "part", "(II)V"⟩
abbrev cX10_write_ : ByteArray := prog_12_method_73_code
def yX10_write_ : MethodName := ⟨RX10, "write", "(III)Z"⟩
abbrev cX10_ending : ByteArray := prog_12_method_74_code
def yX10_ending : MethodName := ⟨RX10, "ending", "(I)I"⟩
abbrev cX10_freePair : ByteArray := prog_12_method_75_code
def yX10_freePair : MethodName := ⟨RX10, "freePair", "()I"⟩
abbrev cX10_prove : ByteArray := prog_12_method_76_code
def yX10_prove : MethodName := ⟨RX10, "prove", "(I)I"⟩
abbrev cX10_line : ByteArray := prog_12_method_77_code
def yX10_line : MethodName := ⟨RX10, "line", "(III)I"⟩
abbrev cX10_alter : ByteArray := prog_12_method_78_code
def yX10_alter : MethodName := ⟨RX10, "alter", "(IIII)I"⟩
abbrev cX10_cut : ByteArray := prog_12_method_79_code
def yX10_cut : MethodName := ⟨RX10, "cut", "(I)I"⟩
abbrev cX10_shown : ByteArray := prog_12_method_80_code
def yX10_shown : MethodName := ⟨RX10, "shown", "(II)I"⟩
abbrev cX10_check : ByteArray := prog_12_method_81_code
def yX10_check : MethodName := ⟨RX10, "check", "(I)I"⟩
def RJ6 : String := "java/lang/Integer"
def TJ6 : u_T := fun k => match k with
  | _ => ("", "", "", false)
def tyJ6 : Nat → FieldType := fun k => match k with
  | _ => .int
abbrev wsJ60 : List Cond := u_ws RJ6 TJ6 0
theorem nmJ6 : ∀ a, a < 0 → ∀ b, b < 0 → a ≠ b → (TJ6 a).2.1 ≠ (TJ6 b).2.1 := by decide +kernel
theorem tyJ6_ok : ∀ k, k < 0 → parseFieldDescriptor (TJ6 k).2.2.1 = some (tyJ6 k) := by decide +kernel
abbrev cJ6_bitCount_0f7a4 : ByteArray := prog_13_method_49_code
def yJ6_bitCount_0f7a4 : MethodName := ⟨RJ6, "bitCount", "(I)I"⟩
def RJ10 : String := "java/lang/System"
def TJ10 : u_T := fun k => match k with
  | _ => ("", "", "", false)
def tyJ10 : Nat → FieldType := fun k => match k with
  | _ => .int
abbrev wsJ100 : List Cond := u_ws RJ10 TJ10 0
theorem nmJ10 : ∀ a, a < 0 → ∀ b, b < 0 → a ≠ b → (TJ10 a).2.1 ≠ (TJ10 b).2.1 := by decide +kernel
theorem tyJ10_ok : ∀ k, k < 0 → parseFieldDescriptor (TJ10 k).2.2.1 = some (tyJ10 k) := by decide +kernel
def RJ7 : String := "java/util/Arrays"
def TJ7 : u_T := fun k => match k with
  | _ => ("", "", "", false)
def tyJ7 : Nat → FieldType := fun k => match k with
  | _ => .int
abbrev wsJ70 : List Cond := u_ws RJ7 TJ7 0
theorem nmJ7 : ∀ a, a < 0 → ∀ b, b < 0 → a ≠ b → (TJ7 a).2.1 ≠ (TJ7 b).2.1 := by decide +kernel
theorem tyJ7_ok : ∀ k, k < 0 → parseFieldDescriptor (TJ7 k).2.2.1 = some (tyJ7 k) := by decide +kernel
abbrev cJ7_fill_d0a16 : ByteArray := prog_15_method_101_code
def yJ7_fill_d0a16 : MethodName := ⟨RJ7, "fill", "([JJ)V"⟩
abbrev cJ7_fill_53178 : ByteArray := prog_15_method_103_code
def yJ7_fill_53178 : MethodName := ⟨RJ7, "fill", "([II)V"⟩
def RL : String := "LampRoundLaw"
abbrev cL_law : ByteArray := code
def yL_law : MethodName := ⟨RL, "law", "([I)Z"⟩
def wsL_law_r1 : List Cond := [Cond.classLink RL 7 RX9, Cond.instantiable RX9 10, Cond.initialized RX9, Cond.classLink RL 10 RX10, Cond.instantiable RX10 36, Cond.initialized RX10, Cond.constantLong RL 32 (4294967295), Cond.methodLink RL 9 yX9_init, Cond.instanceMethod yX9_init, Cond.code yX9_init cX9_init 1 none, Cond.methodLink RX9 3 objectInit, Cond.instanceMethod objectInit, Cond.code objectInit ⟨#[0xb1]⟩ 1 none, Cond.classLink RX9 9 RX4, Cond.instantiable RX4 3, Cond.initialized RX4, Cond.fieldLink RX9 12 "LampRound" "rows" "LLampRound$Rows;", Cond.classLink RX9 16 RX7, Cond.instantiable RX7 7, Cond.initialized RX7, Cond.fieldLink RX9 19 "LampRound" "town" "LLampRound$Town;", Cond.classLink RX9 23 RX2, Cond.instantiable RX2 11, Cond.initialized RX2]
def wsL_law_r2 : List Cond := [Cond.fieldLink RX9 28 "LampRound" "lamps" "LLampRound$Lamps;", Cond.classLink RX9 32 RX6, Cond.instantiable RX6 3, Cond.initialized RX6, Cond.fieldLink RX9 37 "LampRound" "told" "LLampRound$ToldRound;", Cond.classLink RX9 41 RX5, Cond.instantiable RX5 10, Cond.initialized RX5, Cond.fieldLink RX9 44 "LampRound" "search" "LLampRound$Search;", Cond.classLink RX9 48 RX0, Cond.instantiable RX0 6, Cond.initialized RX0, Cond.fieldLink RX9 51 "LampRound" "present" "LLampRound$Case;", Cond.classLink RX9 55 RX8, Cond.instantiable RX8 9, Cond.initialized RX8, Cond.fieldLink RX9 60 "LampRound" "tree" "LLampRound$Tree;", Cond.classLink RX9 64 RX1, Cond.instantiable RX1 3, Cond.initialized RX1, Cond.fieldLink RX9 69 "LampRound" "judge" "LLampRound$Judge;", Cond.classLink RX9 73 RX3, Cond.instantiable RX3 4, Cond.initialized RX3]
def wsL_law_r3 : List Cond := [Cond.fieldLink RX9 76 "LampRound" "proof" "LLampRound$Lines;", Cond.fieldLink RX9 80 "LampRound" "draft" "LLampRound$Lines;", Cond.methodLink RX9 11 yX4_init, Cond.instanceMethod yX4_init, Cond.code yX4_init cX4_init 1 none, Cond.methodLink RX4 3 objectInit, Cond.classLink RX4 9 "[[J", Cond.arrayClass .long, Cond.fieldLink RX4 11 "LampRound$Rows" "cells" "[[J", Cond.arrayClass .int, Cond.fieldLink RX4 16 "LampRound$Rows" "kinds" "[I", Cond.fieldLink RX4 20 "LampRound$Rows" "sizes" "[I", Cond.methodLink RX4 23 yJ7_fill_53178, Cond.static yJ7_fill_53178, Cond.initialized RJ7, Cond.code yJ7_fill_53178 cJ7_fill_53178 4 none, Cond.instanceMethod yX7_init, Cond.code yX7_init cX7_init 1 none, Cond.methodLink RX7 3 objectInit, Cond.fieldLink RX7 9 "LampRound$Town" "from" "[I", Cond.fieldLink RX7 15 "LampRound$Town" "to" "[I", Cond.fieldLink RX7 18 "LampRound$Town" "size" "[I", Cond.arrayClass .boolean, Cond.fieldLink RX7 21 "LampRound$Town" "isOpen" "[Z"]
def wsL_law_r4 : List Cond := [Cond.classLink RX7 25 "[[I", Cond.fieldLink RX7 27 "LampRound$Town" "ways" "[[I", Cond.fieldLink RX7 30 "LampRound$Town" "reckoned" "J", Cond.fieldLink RX7 34 "LampRound$Town" "count" "I", Cond.methodLink RX9 25 yX2_init, Cond.instanceMethod yX2_init, Cond.code yX2_init cX2_init 2 none, Cond.methodLink RX2 3 objectInit, Cond.fieldLink RX2 9 "LampRound$Lamps" "crossings" "[I", Cond.fieldLink RX2 15 "LampRound$Lamps" "kinds" "[I", Cond.fieldLink RX2 18 "LampRound$Lamps" "others" "[I", Cond.fieldLink RX2 21 "LampRound$Lamps" "prices" "[I", Cond.fieldLink RX2 24 "LampRound$Lamps" "twins" "[I", Cond.fieldLink RX2 27 "LampRound$Lamps" "needs" "[I", Cond.classLink RX2 30 "[[I", Cond.fieldLink RX2 32 "LampRound$Lamps" "gaps" "[[I", Cond.fieldLink RX2 35 "LampRound$Lamps" "live" "I", Cond.fieldLink RX2 39 "LampRound$Lamps" "count" "I", Cond.fieldLink RX2 42 "LampRound$Lamps" "surveyed" "Z", Cond.fieldLink RX2 46 "LampRound$Lamps" "town" "LLampRound$Town;", Cond.methodLink RX9 34 yX6_init, Cond.instanceMethod yX6_init, Cond.code yX6_init cX6_init 2 none, Cond.methodLink RX6 3 objectInit]
def wsL_law_r5 : List Cond := [Cond.fieldLink RX6 9 "LampRound$ToldRound" "order" "[I", Cond.fieldLink RX6 15 "LampRound$ToldRound" "count" "I", Cond.fieldLink RX6 19 "LampRound$ToldRound" "lamps" "LLampRound$Lamps;", Cond.methodLink RX9 43 yX5_init, Cond.instanceMethod yX5_init, Cond.code yX5_init cX5_init 2 none, Cond.methodLink RX5 3 objectInit, Cond.fieldLink RX5 9 "LampRound$Search" "musts" "[I", Cond.fieldLink RX5 15 "LampRound$Search" "bans" "[I", Cond.fieldLink RX5 18 "LampRound$Search" "live" "[I", Cond.fieldLink RX5 21 "LampRound$Search" "order" "[I", Cond.fieldLink RX5 24 "LampRound$Search" "best" "[I", Cond.fieldLink RX5 27 "LampRound$Search" "shunned" "[I", Cond.fieldLink RX5 30 "LampRound$Search" "shuns" "Z", Cond.fieldLink RX5 34 "LampRound$Search" "size" "I", Cond.constant RX5 38 (2147483647), Cond.fieldLink RX5 39 "LampRound$Search" "bestLength" "I", Cond.fieldLink RX5 42 "LampRound$Search" "lamps" "LLampRound$Lamps;", Cond.instanceMethod yX0_init, Cond.code yX0_init cX0_init 1 none, Cond.methodLink RX0 3 objectInit, Cond.fieldLink RX0 9 "LampRound$Case" "joined" "[I", Cond.fieldLink RX0 15 "LampRound$Case" "parted" "[I", Cond.fieldLink RX0 18 "LampRound$Case" "split" "[I"]
def wsL_law_r6 : List Cond := [Cond.fieldLink RX0 21 "LampRound$Case" "isSecond" "[Z", Cond.fieldLink RX0 25 "LampRound$Case" "depth" "I", Cond.fieldLink RX0 29 "LampRound$Case" "isOver" "Z", Cond.methodLink RX9 57 yX8_init, Cond.instanceMethod yX8_init, Cond.code yX8_init cX8_init 3 none, Cond.methodLink RX8 3 objectInit, Cond.fieldLink RX8 9 "LampRound$Tree" "ranked" "[J", Cond.fieldLink RX8 15 "LampRound$Tree" "takenPairs" "[I", Cond.fieldLink RX8 19 "LampRound$Tree" "hung" "[I", Cond.fieldLink RX8 22 "LampRound$Tree" "pairs" "I", Cond.fieldLink RX8 26 "LampRound$Tree" "takenCount" "I", Cond.fieldLink RX8 29 "LampRound$Tree" "takenOfFirst" "I", Cond.fieldLink RX8 32 "LampRound$Tree" "sum" "J", Cond.fieldLink RX8 36 "LampRound$Tree" "lamps" "LLampRound$Lamps;", Cond.fieldLink RX8 40 "LampRound$Tree" "present" "LLampRound$Case;", Cond.methodLink RX9 66 yX1_init, Cond.instanceMethod yX1_init, Cond.code yX1_init cX1_init 4 none, Cond.methodLink RX1 3 objectInit, Cond.fieldLink RX1 9 "LampRound$Judge" "lamps" "LLampRound$Lamps;", Cond.fieldLink RX1 15 "LampRound$Judge" "present" "LLampRound$Case;", Cond.fieldLink RX1 19 "LampRound$Judge" "tree" "LLampRound$Tree;", Cond.instanceMethod yX3_init]
def wsL_law_r7 : List Cond := [Cond.code yX3_init cX3_init 1 none, Cond.methodLink RX3 3 objectInit, Cond.fieldLink RX3 9 "LampRound$Lines" "ops" "[I", Cond.fieldLink RX3 15 "LampRound$Lines" "as" "[I", Cond.fieldLink RX3 18 "LampRound$Lines" "bs" "[I", Cond.fieldLink RX3 21 "LampRound$Lines" "count" "I", Cond.methodLink RL 12 yX10_init, Cond.instanceMethod yX10_init, Cond.code yX10_init cX10_init 2 none, Cond.methodLink RX10 1 objectInit, Cond.fieldLink RX10 7 "LampRoundModel" "from" "[I", Cond.fieldLink RX10 13 "LampRoundModel" "to" "[I", Cond.fieldLink RX10 16 "LampRoundModel" "length" "[I", Cond.fieldLink RX10 19 "LampRoundModel" "isOpen" "[Z", Cond.fieldLink RX10 23 "LampRoundModel" "rowKind" "[I", Cond.fieldLink RX10 26 "LampRoundModel" "rowSize" "[I", Cond.fieldLink RX10 29 "LampRoundModel" "cell" "[J", Cond.fieldLink RX10 33 "LampRoundModel" "ways" "[I", Cond.fieldLink RX10 36 "LampRoundModel" "crossing" "[I", Cond.fieldLink RX10 39 "LampRoundModel" "kind" "[I", Cond.fieldLink RX10 42 "LampRoundModel" "other" "[I", Cond.fieldLink RX10 45 "LampRoundModel" "isOut" "[Z", Cond.fieldLink RX10 48 "LampRoundModel" "price" "[I", Cond.fieldLink RX10 51 "LampRoundModel" "round" "[I"]
def wsL_law_r8 : List Cond := [Cond.fieldLink RX10 54 "LampRoundModel" "op" "[I", Cond.fieldLink RX10 57 "LampRoundModel" "left" "[I", Cond.fieldLink RX10 60 "LampRoundModel" "right" "[I", Cond.fieldLink RX10 63 "LampRoundModel" "order" "[I", Cond.fieldLink RX10 66 "LampRoundModel" "best" "[I", Cond.fieldLink RX10 69 "LampRoundModel" "written" "[I", Cond.fieldLink RX10 72 "LampRoundModel" "pairs" "[I", Cond.fieldLink RX10 75 "LampRoundModel" "hang" "[I", Cond.fieldLink RX10 78 "LampRoundModel" "takenPair" "[I", Cond.fieldLink RX10 81 "LampRoundModel" "isTaken" "[Z", Cond.fieldLink RX10 84 "LampRoundModel" "waiting" "[I", Cond.fieldLink RX10 87 "LampRoundModel" "ring" "[Z", Cond.fieldLink RX10 90 "LampRoundModel" "newOp" "[I", Cond.fieldLink RX10 93 "LampRoundModel" "newLeft" "[I", Cond.fieldLink RX10 96 "LampRoundModel" "newRight" "[I", Cond.methodLink RX10 99 yX10_work, Cond.instanceMethod yX10_work, Cond.selects RX10 yX10_work yX10_work, Cond.code yX10_work cX10_work 4 none, Cond.constant RX10 102 (1000000000), Cond.fieldLink RX10 103 "LampRoundModel" "lanes" "I", Cond.methodLink RL 13 yX9_lane, Cond.instanceMethod yX9_lane, Cond.selects RX9 yX9_lane yX9_lane]
def wsL_law_r9 : List Cond := [Cond.code yX9_lane cX9_lane 5 (some .int), Cond.methodLink RX9 83 yX9_isCrossing, Cond.static yX9_isCrossing, Cond.code yX9_isCrossing cX9_isCrossing 1 (some .boolean), Cond.methodLink RX9 87 yX9_isLength, Cond.static yX9_isLength, Cond.code yX9_isLength cX9_isLength 2 (some .boolean), Cond.constantLong RX9 346 (1000), Cond.methodLink RX9 95 yX7_build, Cond.instanceMethod yX7_build, Cond.selects RX7 yX7_build yX7_build, Cond.code yX7_build cX7_build 5 (some .int), Cond.methodLink RX9 99 yX9_lanesChanged, Cond.instanceMethod yX9_lanesChanged, Cond.selects RX9 yX9_lanesChanged yX9_lanesChanged, Cond.code yX9_lanesChanged cX9_lanesChanged 1 none, Cond.methodLink RX9 348 yX7_forgetWays, Cond.instanceMethod yX7_forgetWays, Cond.selects RX7 yX7_forgetWays yX7_forgetWays, Cond.code yX7_forgetWays cX7_forgetWays 1 none, Cond.methodLink RX9 175 yX9_lampsChanged, Cond.instanceMethod yX9_lampsChanged, Cond.selects RX9 yX9_lampsChanged yX9_lampsChanged, Cond.code yX9_lampsChanged cX9_lampsChanged 1 none]
def wsL_law_r10 : List Cond := [Cond.methodLink RX9 263 yX6_empty, Cond.instanceMethod yX6_empty, Cond.selects RX6 yX6_empty yX6_empty, Cond.code yX6_empty cX6_empty 2 (some .int), Cond.methodLink RL 17 yX10_lane, Cond.instanceMethod yX10_lane, Cond.selects RX10 yX10_lane yX10_lane, Cond.code yX10_lane cX10_lane 4 (some .int), Cond.fieldLink RX10 117 "LampRoundModel" "told" "I", Cond.methodLink RX10 114 yX10_isCrossing, Cond.static yX10_isCrossing, Cond.code yX10_isCrossing cX10_isCrossing 1 (some .boolean), Cond.methodLink RL 18 yX9_open, Cond.instanceMethod yX9_open, Cond.selects RX9 yX9_open yX9_open, Cond.code yX9_open cX9_open 3 (some .int), Cond.methodLink RX9 102 yX7_isLane, Cond.instanceMethod yX7_isLane, Cond.selects RX7 yX7_isLane yX7_isLane, Cond.code yX7_isLane cX7_isLane 2 (some .boolean), Cond.methodLink RL 22 yX10_open, Cond.instanceMethod yX10_open, Cond.selects RX10 yX10_open yX10_open, Cond.code yX10_open cX10_open 3 (some .int)]
def wsL_law_r11 : List Cond := [Cond.methodLink RX10 120 yX10_isLane, Cond.instanceMethod yX10_isLane, Cond.selects RX10 yX10_isLane yX10_isLane, Cond.code yX10_isLane cX10_isLane 2 (some .boolean), Cond.methodLink RL 23 yX9_about, Cond.instanceMethod yX9_about, Cond.selects RX9 yX9_about yX9_about, Cond.code yX9_about cX9_about 3 (some .int), Cond.methodLink RL 27 yX10_about, Cond.instanceMethod yX10_about, Cond.selects RX10 yX10_about yX10_about, Cond.code yX10_about cX10_about 3 (some .int), Cond.methodLink RL 28 yX9_row, Cond.instanceMethod yX9_row, Cond.selects RX9 yX9_row yX9_row, Cond.code yX9_row cX9_row 4 (some .int), Cond.methodLink RX9 119 yX4_isNumber, Cond.instanceMethod yX4_isNumber, Cond.selects RX4 yX4_isNumber yX4_isNumber, Cond.code yX4_isNumber cX4_isNumber 2 (some .boolean), Cond.methodLink RX9 122 yX4_make, Cond.instanceMethod yX4_make, Cond.selects RX4 yX4_make yX4_make, Cond.code yX4_make cX4_make 4 none]
def wsL_law_r12 : List Cond := [Cond.methodLink RX4 29 yJ7_fill_d0a16, Cond.static yJ7_fill_d0a16, Cond.code yJ7_fill_d0a16 cJ7_fill_d0a16 5 none, Cond.methodLink RL 31 yX10_row, Cond.instanceMethod yX10_row, Cond.selects RX10 yX10_row yX10_row, Cond.code yX10_row cX10_row 5 (some .int), Cond.methodLink RX10 123 yX10_isRow, Cond.static yX10_isRow, Cond.code yX10_isRow cX10_isRow 1 (some .boolean), Cond.methodLink RL 34 yX9_cell, Cond.instanceMethod yX9_cell, Cond.selects RX9 yX9_cell yX9_cell, Cond.code yX9_cell cX9_cell 5 (some .int), Cond.methodLink RX9 126 yX4_isMissing, Cond.instanceMethod yX4_isMissing, Cond.selects RX4 yX4_isMissing yX4_isMissing, Cond.code yX4_isMissing cX4_isMissing 2 (some .boolean), Cond.methodLink RX9 129 yX4_hasCell, Cond.instanceMethod yX4_hasCell, Cond.selects RX4 yX4_hasCell yX4_hasCell, Cond.code yX4_hasCell cX4_hasCell 3 (some .boolean), Cond.methodLink RX9 133 yX4_write, Cond.instanceMethod yX4_write]
def wsL_law_r13 : List Cond := [Cond.selects RX4 yX4_write yX4_write, Cond.code yX4_write cX4_write 5 none, Cond.methodLink RL 38 yX10_cell, Cond.instanceMethod yX10_cell, Cond.selects RX10 yX10_cell yX10_cell, Cond.code yX10_cell cX10_cell 5 (some .int), Cond.methodLink RL 39 yX9_told, Cond.instanceMethod yX9_told, Cond.selects RX9 yX9_told yX9_told, Cond.code yX9_told cX9_told 3 (some .long), Cond.constantLong RX9 137 (9223372036854775807), Cond.methodLink RL 43 yX10_told, Cond.instanceMethod yX10_told, Cond.selects RX10 yX10_told yX10_told, Cond.code yX10_told cX10_told 3 (some .long), Cond.constantLong RX10 126 (9223372036854775807), Cond.methodLink RL 44 yX9_lose, Cond.instanceMethod yX9_lose, Cond.selects RX9 yX9_lose yX9_lose, Cond.code yX9_lose cX9_lose 2 (some .int), Cond.methodLink RX9 143 yX4_drop, Cond.instanceMethod yX4_drop, Cond.selects RX4 yX4_drop yX4_drop, Cond.code yX4_drop cX4_drop 2 none]
def wsL_law_r14 : List Cond := [Cond.methodLink RL 48 yX10_lose, Cond.instanceMethod yX10_lose, Cond.selects RX10 yX10_lose yX10_lose, Cond.code yX10_lose cX10_lose 2 (some .int), Cond.methodLink RL 49 yX9_lay, Cond.instanceMethod yX9_lay, Cond.selects RX9 yX9_lay yX9_lay, Cond.code yX9_lay cX9_lay 6 (some .int), Cond.methodLink RX9 153 yX7_resize, Cond.instanceMethod yX7_resize, Cond.selects RX7 yX7_resize yX7_resize, Cond.code yX7_resize cX7_resize 4 none, Cond.methodLink RL 53 yX10_lay, Cond.instanceMethod yX10_lay, Cond.selects RX10 yX10_lay yX10_lay, Cond.code yX10_lay cX10_lay 8 (some .int), Cond.constantLong RX10 128 (1000), Cond.methodLink RL 54 yX9_way, Cond.instanceMethod yX9_way, Cond.selects RX9 yX9_way yX9_way, Cond.code yX9_way cX9_way 4 (some .int), Cond.constant RX9 161 (1000000), Cond.methodLink RX9 157 yX7_waysFrom, Cond.instanceMethod yX7_waysFrom]
def wsL_law_r15 : List Cond := [Cond.selects RX7 yX7_waysFrom yX7_waysFrom, Cond.code yX7_waysFrom cX7_waysFrom 2 (some (.array .int)), Cond.methodLink RX7 42 yX7_reckon, Cond.instanceMethod yX7_reckon, Cond.selects RX7 yX7_reckon yX7_reckon, Cond.code yX7_reckon cX7_reckon 6 none, Cond.constant RX7 46 (1000000), Cond.methodLink RX7 47 yJ7_fill_53178, Cond.methodLink RX7 52 yX7_shorten, Cond.instanceMethod yX7_shorten, Cond.selects RX7 yX7_shorten yX7_shorten, Cond.code yX7_shorten cX7_shorten 5 (some .boolean), Cond.methodLink RL 57 yX10_way, Cond.instanceMethod yX10_way, Cond.selects RX10 yX10_way yX10_way, Cond.code yX10_way cX10_way 4 (some .int), Cond.methodLink RL 58 yX9_walk, Cond.instanceMethod yX9_walk, Cond.selects RX9 yX9_walk yX9_walk, Cond.code yX9_walk cX9_walk 4 (some .int), Cond.methodLink RX9 162 yX7_crossingOnWalk, Cond.instanceMethod yX7_crossingOnWalk, Cond.selects RX7 yX7_crossingOnWalk yX7_crossingOnWalk, Cond.code yX7_crossingOnWalk cX7_crossingOnWalk 7 (some .int)]
def wsL_law_r16 : List Cond := [Cond.methodLink RX7 56 yX7_waysFrom, Cond.methodLink RX7 60 yX7_nextOnWalk, Cond.instanceMethod yX7_nextOnWalk, Cond.selects RX7 yX7_nextOnWalk yX7_nextOnWalk, Cond.code yX7_nextOnWalk cX7_nextOnWalk 6 (some .int), Cond.methodLink RX7 64 yX7_farEnd, Cond.instanceMethod yX7_farEnd, Cond.selects RX7 yX7_farEnd yX7_farEnd, Cond.code yX7_farEnd cX7_farEnd 3 (some .int), Cond.methodLink RL 61 yX10_walk, Cond.instanceMethod yX10_walk, Cond.selects RX10 yX10_walk yX10_walk, Cond.code yX10_walk cX10_walk 6 (some .int), Cond.methodLink RX10 130 yX10_next, Cond.instanceMethod yX10_next, Cond.selects RX10 yX10_next yX10_next, Cond.code yX10_next cX10_next 6 (some .int), Cond.methodLink RL 62 yX9_lamp, Cond.instanceMethod yX9_lamp, Cond.selects RX9 yX9_lamp yX9_lamp, Cond.code yX9_lamp cX9_lamp 5 (some .int), Cond.methodLink RX9 165 yX2_standsAt, Cond.instanceMethod yX2_standsAt, Cond.selects RX2 yX2_standsAt yX2_standsAt]
def wsL_law_r17 : List Cond := [Cond.code yX2_standsAt cX2_standsAt 3 (some .boolean), Cond.methodLink RX9 168 yX2_isLamp, Cond.instanceMethod yX2_isLamp, Cond.selects RX2 yX2_isLamp yX2_isLamp, Cond.code yX2_isLamp cX2_isLamp 2 (some .boolean), Cond.methodLink RX9 172 yX2_raise, Cond.instanceMethod yX2_raise, Cond.selects RX2 yX2_raise yX2_raise, Cond.code yX2_raise cX2_raise 5 (some .int), Cond.methodLink RL 65 yX10_lamp, Cond.instanceMethod yX10_lamp, Cond.selects RX10 yX10_lamp yX10_lamp, Cond.code yX10_lamp cX10_lamp 5 (some .int), Cond.fieldLink RX10 107 "LampRoundModel" "lamps" "I", Cond.methodLink RX10 110 yX10_isLamp, Cond.instanceMethod yX10_isLamp, Cond.selects RX10 yX10_isLamp yX10_isLamp, Cond.code yX10_isLamp cX10_isLamp 2 (some .boolean), Cond.methodLink RL 66 yX9_dark, Cond.instanceMethod yX9_dark, Cond.selects RX9 yX9_dark yX9_dark, Cond.code yX9_dark cX9_dark 3 (some .int), Cond.methodLink RX9 179 yX2_isLive, Cond.instanceMethod yX2_isLive]
def wsL_law_r18 : List Cond := [Cond.selects RX2 yX2_isLive yX2_isLive, Cond.code yX2_isLive cX2_isLive 2 (some .boolean), Cond.methodLink RX2 50 yX2_isLamp, Cond.static yX9_isIn, Cond.code yX9_isIn cX9_isIn 2 (some .boolean), Cond.methodLink RX9 182 yX2_flip, Cond.instanceMethod yX2_flip, Cond.selects RX2 yX2_flip yX2_flip, Cond.code yX2_flip cX2_flip 2 none, Cond.methodLink RL 69 yX10_dark, Cond.instanceMethod yX10_dark, Cond.selects RX10 yX10_dark yX10_dark, Cond.code yX10_dark cX10_dark 3 (some .int), Cond.methodLink RL 70 yX9_twin, Cond.instanceMethod yX9_twin, Cond.selects RX9 yX9_twin yX9_twin, Cond.code yX9_twin cX9_twin 2 (some .int), Cond.methodLink RX9 185 yX2_survey, Cond.instanceMethod yX2_survey, Cond.selects RX2 yX2_survey yX2_survey, Cond.code yX2_survey cX2_survey 4 none, Cond.methodLink RX2 67 yX7_waysFrom, Cond.methodLink RX2 73 yJ7_fill_53178, Cond.methodLink RX2 79 yX2_twinOf]
def wsL_law_r19 : List Cond := [Cond.instanceMethod yX2_twinOf, Cond.selects RX2 yX2_twinOf yX2_twinOf, Cond.code yX2_twinOf cX2_twinOf 2 (some .int), Cond.methodLink RX2 86 yX2_nearest, Cond.instanceMethod yX2_nearest, Cond.selects RX2 yX2_nearest yX2_nearest, Cond.code yX2_nearest cX2_nearest 5 (some .int), Cond.constant RX2 89 (1000000), Cond.methodLink RX2 82 yX2_tieTwins, Cond.instanceMethod yX2_tieTwins, Cond.selects RX2 yX2_tieTwins yX2_tieTwins, Cond.code yX2_tieTwins cX2_tieTwins 3 none, Cond.methodLink RX2 90 yX2_isLive, Cond.methodLink RL 73 yX10_twin, Cond.instanceMethod yX10_twin, Cond.selects RX10 yX10_twin yX10_twin, Cond.code yX10_twin cX10_twin 2 (some .int), Cond.methodLink RX10 137 yX10_twinOf, Cond.instanceMethod yX10_twinOf, Cond.selects RX10 yX10_twinOf yX10_twinOf, Cond.code yX10_twinOf cX10_twinOf 4 (some .int), Cond.methodLink RX10 134 yX10_between, Cond.instanceMethod yX10_between, Cond.selects RX10 yX10_between yX10_between]
def wsL_law_r20 : List Cond := [Cond.code yX10_between cX10_between 3 (some .int), Cond.methodLink RL 74 yX9_of, Cond.instanceMethod yX9_of, Cond.selects RX9 yX9_of yX9_of, Cond.code yX9_of cX9_of 3 (some .int), Cond.constant RX9 191 (-2147483648), Cond.methodLink RX9 195 yX2_worthOf, Cond.instanceMethod yX2_worthOf, Cond.selects RX2 yX2_worthOf yX2_worthOf, Cond.code yX2_worthOf cX2_worthOf 2 (some .int), Cond.methodLink RL 77 yX10_of, Cond.instanceMethod yX10_of, Cond.selects RX10 yX10_of yX10_of, Cond.code yX10_of cX10_of 3 (some .int), Cond.constant RX10 141 (-2147483648), Cond.methodLink RL 78 yX9_many, Cond.instanceMethod yX9_many, Cond.selects RX9 yX9_many yX9_many, Cond.code yX9_many cX9_many 2 (some .int), Cond.methodLink RX9 202 yX2_liveCount, Cond.instanceMethod yX2_liveCount, Cond.selects RX2 yX2_liveCount yX2_liveCount, Cond.code yX2_liveCount cX2_liveCount 1 (some .int), Cond.methodLink RX2 58 yJ6_bitCount_0f7a4]
def wsL_law_r21 : List Cond := [Cond.static yJ6_bitCount_0f7a4, Cond.initialized RJ6, Cond.code yJ6_bitCount_0f7a4 cJ6_bitCount_0f7a4 1 (some .int), Cond.constant RJ6 265 (1431655765), Cond.constant RJ6 266 (858993459), Cond.constant RJ6 267 (252645135), Cond.methodLink RX9 208 yX2_worthOfLive, Cond.instanceMethod yX2_worthOfLive, Cond.selects RX2 yX2_worthOfLive yX2_worthOfLive, Cond.code yX2_worthOfLive cX2_worthOfLive 3 (some .int), Cond.methodLink RX2 64 yX2_worthOf, Cond.methodLink RL 81 yX10_many, Cond.instanceMethod yX10_many, Cond.selects RX10 yX10_many yX10_many, Cond.code yX10_many cX10_many 4 (some .int), Cond.fieldLink RX10 146 "LampRoundModel" "lines" "I", Cond.methodLink RX10 142 yX10_lit, Cond.instanceMethod yX10_lit, Cond.selects RX10 yX10_lit yX10_lit, Cond.code yX10_lit cX10_lit 3 (some .int), Cond.methodLink RL 82 yX9_least, Cond.instanceMethod yX9_least, Cond.selects RX9 yX9_least yX9_least, Cond.code yX9_least cX9_least 1 (some .int)]
def wsL_law_r22 : List Cond := [Cond.methodLink RX9 211 yX9_isLarge, Cond.instanceMethod yX9_isLarge, Cond.selects RX9 yX9_isLarge yX9_isLarge, Cond.code yX9_isLarge cX9_isLarge 1 (some .boolean), Cond.methodLink RX9 215 yX5_begin, Cond.instanceMethod yX5_begin, Cond.selects RX5 yX5_begin yX5_begin, Cond.code yX5_begin cX5_begin 2 none, Cond.methodLink RX5 54 arraycopyName, Cond.native arraycopyName, Cond.static arraycopyName, Cond.initialized "java/lang/System", Cond.methodLink RX5 46 yX2_survey, Cond.methodLink RX5 60 yJ7_fill_53178, Cond.methodLink RX5 69 yX2_isLive, Cond.methodLink RX9 218 yX5_run, Cond.instanceMethod yX5_run, Cond.selects RX5 yX5_run yX5_run, Cond.code yX5_run cX5_run 1 (some .boolean), Cond.methodLink RX5 73 yX5_isHungTogether, Cond.instanceMethod yX5_isHungTogether, Cond.selects RX5 yX5_isHungTogether yX5_isHungTogether, Cond.code yX5_isHungTogether cX5_isHungTogether 2 (some .boolean), Cond.constant RX5 85 (1000000)]
def wsL_law_r23 : List Cond := [Cond.methodLink RX5 77 yX5_extend, Cond.instanceMethod yX5_extend, Cond.selects RX5 yX5_extend yX5_extend, Cond.code yX5_extend cX5_extend 8 none, Cond.methodLink RX5 86 yX5_finish, Cond.instanceMethod yX5_finish, Cond.selects RX5 yX5_finish yX5_finish, Cond.code yX5_finish cX5_finish 5 none, Cond.methodLink RX5 98 yX5_isContent, Cond.instanceMethod yX5_isContent, Cond.selects RX5 yX5_isContent yX5_isContent, Cond.code yX5_isContent cX5_isContent 4 (some .boolean), Cond.methodLink RX5 101 yX5_isShunned, Cond.instanceMethod yX5_isShunned, Cond.selects RX5 yX5_isShunned yX5_isShunned, Cond.code yX5_isShunned cX5_isShunned 2 (some .boolean), Cond.methodLink RX5 94 yX5_mayFollow, Cond.instanceMethod yX5_mayFollow, Cond.selects RX5 yX5_mayFollow yX5_mayFollow, Cond.code yX5_mayFollow cX5_mayFollow 4 (some .boolean), Cond.methodLink RX9 226 yX6_copyFrom, Cond.instanceMethod yX6_copyFrom, Cond.selects RX6 yX6_copyFrom yX6_copyFrom, Cond.code yX6_copyFrom cX6_copyFrom 3 none]
def wsL_law_r24 : List Cond := [Cond.methodLink RX6 29 arraycopyName, Cond.methodLink RL 86 yX10_least, Cond.instanceMethod yX10_least, Cond.selects RX10 yX10_least yX10_least, Cond.code yX10_least cX10_least 3 (some .int), Cond.methodLink RX10 175 yX10_search, Cond.instanceMethod yX10_search, Cond.selects RX10 yX10_search yX10_search, Cond.code yX10_search cX10_search 10 (some .int), Cond.methodLink RX10 161 yX10_lengthOf, Cond.instanceMethod yX10_lengthOf, Cond.selects RX10 yX10_lengthOf yX10_lengthOf, Cond.code yX10_lengthOf cX10_lengthOf 6 (some .int), Cond.methodLink RX10 165 yX10_keepsTwins, Cond.instanceMethod yX10_keepsTwins, Cond.selects RX10 yX10_keepsTwins yX10_keepsTwins, Cond.code yX10_keepsTwins cX10_keepsTwins 6 (some .boolean), Cond.methodLink RX10 153 yX10_areBeside, Cond.static yX10_areBeside, Cond.code yX10_areBeside cX10_areBeside 5 (some .boolean), Cond.methodLink RX10 149 yX10_placeOf, Cond.static yX10_placeOf, Cond.code yX10_placeOf cX10_placeOf 5 (some .int), Cond.methodLink RX10 169 yX10_isWritten]
def wsL_law_r25 : List Cond := [Cond.instanceMethod yX10_isWritten, Cond.selects RX10 yX10_isWritten yX10_isWritten, Cond.code yX10_isWritten cX10_isWritten 4 (some .boolean), Cond.methodLink RX10 172 yX10_nextOrder, Cond.instanceMethod yX10_nextOrder, Cond.selects RX10 yX10_nextOrder yX10_nextOrder, Cond.code yX10_nextOrder cX10_nextOrder 6 (some .boolean), Cond.methodLink RX10 157 yX10_swap, Cond.instanceMethod yX10_swap, Cond.selects RX10 yX10_swap yX10_swap, Cond.code yX10_swap cX10_swap 4 none, Cond.methodLink RL 87 yX9_second, Cond.instanceMethod yX9_second, Cond.selects RX9 yX9_second yX9_second, Cond.code yX9_second cX9_second 1 (some .int), Cond.methodLink RX9 233 yX6_isWhole, Cond.instanceMethod yX6_isWhole, Cond.selects RX6 yX6_isWhole yX6_isWhole, Cond.code yX6_isWhole cX6_isWhole 1 (some .boolean), Cond.methodLink RX6 23 yX2_liveCount, Cond.methodLink RX9 239 yX6_writeOut, Cond.instanceMethod yX6_writeOut, Cond.selects RX6 yX6_writeOut yX6_writeOut, Cond.code yX6_writeOut cX6_writeOut 6 none]
def wsL_law_r26 : List Cond := [Cond.methodLink RX6 42 yX6_after, Cond.instanceMethod yX6_after, Cond.selects RX6 yX6_after yX6_after, Cond.code yX6_after cX6_after 2 (some .int), Cond.methodLink RX6 46 yX6_before, Cond.instanceMethod yX6_before, Cond.selects RX6 yX6_before yX6_before, Cond.code yX6_before cX6_before 2 (some .int), Cond.methodLink RL 90 yX10_second, Cond.instanceMethod yX10_second, Cond.selects RX10 yX10_second yX10_second, Cond.code yX10_second cX10_second 2 (some .int), Cond.methodLink RX10 179 yX10_isWhole, Cond.instanceMethod yX10_isWhole, Cond.selects RX10 yX10_isWhole yX10_isWhole, Cond.code yX10_isWhole cX10_isWhole 1 (some .boolean), Cond.methodLink RX10 183 yX10_write, Cond.instanceMethod yX10_write, Cond.selects RX10 yX10_write yX10_write, Cond.code yX10_write cX10_write 4 none, Cond.methodLink RL 91 yX9_with, Cond.instanceMethod yX9_with, Cond.selects RX9 yX9_with yX9_with, Cond.code yX9_with cX9_with 4 (some .int)]
def wsL_law_r27 : List Cond := [Cond.methodLink RX9 253 yX5_tie, Cond.instanceMethod yX5_tie, Cond.selects RX5 yX5_tie yX5_tie, Cond.code yX5_tie cX5_tie 4 none, Cond.methodLink RL 95 yX10_with, Cond.instanceMethod yX10_with, Cond.selects RX10 yX10_with yX10_with, Cond.code yX10_with cX10_with 5 (some .int), Cond.methodLink RX10 186 yX10_isLit, Cond.instanceMethod yX10_isLit, Cond.selects RX10 yX10_isLit yX10_isLit, Cond.code yX10_isLit cX10_isLit 2 (some .boolean), Cond.methodLink RL 96 yX9_put, Cond.instanceMethod yX9_put, Cond.selects RX9 yX9_put yX9_put, Cond.code yX9_put cX9_put 2 (some .int), Cond.methodLink RX9 257 yX6_holds, Cond.instanceMethod yX6_holds, Cond.selects RX6 yX6_holds yX6_holds, Cond.code yX6_holds cX6_holds 3 (some .boolean), Cond.methodLink RX9 260 yX6_append, Cond.instanceMethod yX6_append, Cond.selects RX6 yX6_append yX6_append, Cond.code yX6_append cX6_append 2 (some .int)]
def wsL_law_r28 : List Cond := [Cond.methodLink RL 99 yX10_put, Cond.instanceMethod yX10_put, Cond.selects RX10 yX10_put yX10_put, Cond.code yX10_put cX10_put 2 (some .int), Cond.methodLink RL 100 yX9_clear, Cond.instanceMethod yX9_clear, Cond.selects RX9 yX9_clear yX9_clear, Cond.code yX9_clear cX9_clear 1 (some .int), Cond.methodLink RL 103 yX10_clear, Cond.instanceMethod yX10_clear, Cond.selects RX10 yX10_clear yX10_clear, Cond.code yX10_clear cX10_clear 2 (some .int), Cond.methodLink RL 104 yX9_at, Cond.instanceMethod yX9_at, Cond.selects RX9 yX9_at yX9_at, Cond.code yX9_at cX9_at 2 (some .int), Cond.methodLink RL 107 yX10_at, Cond.instanceMethod yX10_at, Cond.selects RX10 yX10_at yX10_at, Cond.code yX10_at cX10_at 2 (some .int), Cond.methodLink RL 108 yX9_length, Cond.instanceMethod yX9_length, Cond.selects RX9 yX9_length yX9_length, Cond.code yX9_length cX9_length 2 (some .int)]
def wsL_law_r29 : List Cond := [Cond.methodLink RX9 269 yX6_measure, Cond.instanceMethod yX6_measure, Cond.selects RX6 yX6_measure yX6_measure, Cond.code yX6_measure cX6_measure 3 (some .int), Cond.methodLink RX6 35 yX2_survey, Cond.methodLink RL 111 yX10_length, Cond.instanceMethod yX10_length, Cond.selects RX10 yX10_length yX10_length, Cond.code yX10_length cX10_length 2 (some .int), Cond.methodLink RL 112 yX9_keeps, Cond.instanceMethod yX9_keeps, Cond.selects RX9 yX9_keeps yX9_keeps, Cond.code yX9_keeps cX9_keeps 1 (some .int), Cond.methodLink RX9 272 yX6_keepsTwins, Cond.instanceMethod yX6_keepsTwins, Cond.selects RX6 yX6_keepsTwins yX6_keepsTwins, Cond.code yX6_keepsTwins cX6_keepsTwins 3 (some .boolean), Cond.methodLink RL 115 yX10_keeps, Cond.instanceMethod yX10_keeps, Cond.selects RX10 yX10_keeps yX10_keeps, Cond.code yX10_keeps cX10_keeps 1 (some .int), Cond.methodLink RL 116 yX9_turn, Cond.instanceMethod yX9_turn, Cond.selects RX9 yX9_turn yX9_turn]
def wsL_law_r30 : List Cond := [Cond.code yX9_turn cX9_turn 3 (some .int), Cond.methodLink RX9 275 yX6_reverse, Cond.instanceMethod yX6_reverse, Cond.selects RX6 yX6_reverse yX6_reverse, Cond.code yX6_reverse cX6_reverse 6 none, Cond.methodLink RL 119 yX10_turn, Cond.instanceMethod yX10_turn, Cond.selects RX10 yX10_turn yX10_turn, Cond.code yX10_turn cX10_turn 3 (some .int), Cond.methodLink RX10 189 yX10_turnRound, Cond.instanceMethod yX10_turnRound, Cond.selects RX10 yX10_turnRound yX10_turnRound, Cond.code yX10_turnRound cX10_turnRound 6 none, Cond.methodLink RL 120 yX9_better, Cond.instanceMethod yX9_better, Cond.selects RX9 yX9_better yX9_better, Cond.code yX9_better cX9_better 2 (some .int), Cond.methodLink RX9 279 yX6_turnFirstShorter, Cond.instanceMethod yX6_turnFirstShorter, Cond.selects RX6 yX6_turnFirstShorter yX6_turnFirstShorter, Cond.code yX6_turnFirstShorter cX6_turnFirstShorter 4 (some .boolean), Cond.methodLink RX6 52 yX6_keepsTwins, Cond.methodLink RX6 56 yX6_isShorterTurned, Cond.instanceMethod yX6_isShorterTurned]
def wsL_law_r31 : List Cond := [Cond.selects RX6 yX6_isShorterTurned yX6_isShorterTurned, Cond.code yX6_isShorterTurned cX6_isShorterTurned 7 (some .boolean), Cond.methodLink RX6 60 yX6_reverse, Cond.methodLink RL 123 yX10_better, Cond.instanceMethod yX10_better, Cond.selects RX10 yX10_better yX10_better, Cond.code yX10_better cX10_better 3 (some .int), Cond.methodLink RX10 192 yX10_length, Cond.methodLink RX10 194 yX10_betters, Cond.instanceMethod yX10_betters, Cond.selects RX10 yX10_betters yX10_betters, Cond.code yX10_betters cX10_betters 5 (some .boolean), Cond.methodLink RL 124 yX9_price, Cond.instanceMethod yX9_price, Cond.selects RX9 yX9_price yX9_price, Cond.code yX9_price cX9_price 3 (some .int), Cond.constant RX9 282 (-100000), Cond.constant RX9 283 (100000), Cond.methodLink RL 127 yX10_price, Cond.instanceMethod yX10_price, Cond.selects RX10 yX10_price yX10_price, Cond.code yX10_price cX10_price 3 (some .int), Cond.constant RX10 229 (-100000), Cond.constant RX10 230 (100000)]
def wsL_law_r32 : List Cond := [Cond.methodLink RL 128 yX9_climb, Cond.instanceMethod yX9_climb, Cond.selects RX9 yX9_climb yX9_climb, Cond.code yX9_climb cX9_climb 3 (some .int), Cond.constantLong RX9 294 (4611686018427387904), Cond.methodLink RX9 284 yX9_isTooSmall, Cond.instanceMethod yX9_isTooSmall, Cond.selects RX9 yX9_isTooSmall yX9_isTooSmall, Cond.code yX9_isTooSmall cX9_isTooSmall 1 (some .boolean), Cond.methodLink RX9 287 yX9_growEmptyCase, Cond.instanceMethod yX9_growEmptyCase, Cond.selects RX9 yX9_growEmptyCase yX9_growEmptyCase, Cond.code yX9_growEmptyCase cX9_growEmptyCase 1 none, Cond.methodLink RX9 313 yX9_beginEmptyCase, Cond.instanceMethod yX9_beginEmptyCase, Cond.selects RX9 yX9_beginEmptyCase yX9_beginEmptyCase, Cond.code yX9_beginEmptyCase cX9_beginEmptyCase 1 none, Cond.methodLink RX9 354 yX0_startEmpty, Cond.instanceMethod yX0_startEmpty, Cond.selects RX0 yX0_startEmpty yX0_startEmpty, Cond.code yX0_startEmpty cX0_startEmpty 1 none, Cond.methodLink RX0 33 yJ7_fill_53178, Cond.methodLink RX9 357 yX8_rank, Cond.instanceMethod yX8_rank]
def wsL_law_r33 : List Cond := [Cond.selects RX8 yX8_rank yX8_rank, Cond.code yX8_rank cX8_rank 3 none, Cond.methodLink RX8 49 yX2_isLive, Cond.methodLink RX8 53 yX8_keyOf, Cond.instanceMethod yX8_keyOf, Cond.selects RX8 yX8_keyOf yX8_keyOf, Cond.code yX8_keyOf cX8_keyOf 5 (some .long), Cond.constantLong RX8 70 (1099511627776), Cond.constant RX8 76 (1000000), Cond.constantLong RX8 80 (256), Cond.static yX9_pairOf, Cond.code yX9_pairOf cX9_pairOf 2 (some .int), Cond.methodLink RX8 57 yX8_sort, Cond.instanceMethod yX8_sort, Cond.selects RX8 yX8_sort yX8_sort, Cond.code yX8_sort cX8_sort 5 none, Cond.methodLink RX9 302 yX8_grow, Cond.instanceMethod yX8_grow, Cond.selects RX8 yX8_grow yX8_grow, Cond.code yX8_grow cX8_grow 2 none, Cond.methodLink RX8 94 yX2_firstLive, Cond.instanceMethod yX2_firstLive, Cond.selects RX2 yX2_firstLive yX2_firstLive, Cond.code yX2_firstLive cX2_firstLive 2 (some .int)]
def wsL_law_r34 : List Cond := [Cond.methodLink RX8 98 yX8_takeOthers, Cond.instanceMethod yX8_takeOthers, Cond.selects RX8 yX8_takeOthers yX8_takeOthers, Cond.code yX8_takeOthers cX8_takeOthers 7 none, Cond.methodLink RX8 105 yX2_liveCount, Cond.methodLink RX8 60 yX8_pairAt, Cond.instanceMethod yX8_pairAt, Cond.selects RX8 yX8_pairAt yX8_pairAt, Cond.code yX8_pairAt cX8_pairAt 2 (some .int), Cond.constantLong RX8 86 (255), Cond.static yX9_lesserOf, Cond.code yX9_lesserOf cX9_lesserOf 1 (some .int), Cond.static yX9_greaterOf, Cond.code yX9_greaterOf cX9_greaterOf 1 (some .int), Cond.methodLink RX8 111 yX8_mayTake, Cond.instanceMethod yX8_mayTake, Cond.selects RX8 yX8_mayTake yX8_mayTake, Cond.code yX8_mayTake cX8_mayTake 5 (some .boolean), Cond.methodLink RX8 125 yX8_pricedAt, Cond.instanceMethod yX8_pricedAt, Cond.selects RX8 yX8_pricedAt yX8_pricedAt, Cond.code yX8_pricedAt cX8_pricedAt 2 (some .long), Cond.methodLink RX8 115 yX8_take, Cond.instanceMethod yX8_take]
def wsL_law_r35 : List Cond := [Cond.selects RX8 yX8_take yX8_take, Cond.code yX8_take cX8_take 5 none, Cond.methodLink RX8 102 yX8_takeOfFirst, Cond.instanceMethod yX8_takeOfFirst, Cond.selects RX8 yX8_takeOfFirst yX8_takeOfFirst, Cond.code yX8_takeOfFirst cX8_takeOfFirst 4 none, Cond.methodLink RX9 290 yX8_sumOfCase, Cond.instanceMethod yX8_sumOfCase, Cond.selects RX8 yX8_sumOfCase yX8_sumOfCase, Cond.code yX8_sumOfCase cX8_sumOfCase 5 (some .long), Cond.constantLong RX8 132 (4611686018427387904), Cond.constantLong RX8 134 (2), Cond.methodLink RX9 296 yX8_raisePrices, Cond.instanceMethod yX8_raisePrices, Cond.selects RX8 yX8_raisePrices yX8_raisePrices, Cond.code yX8_raisePrices cX8_raisePrices 2 none, Cond.methodLink RX9 299 yX8_rankAnew, Cond.instanceMethod yX8_rankAnew, Cond.selects RX8 yX8_rankAnew yX8_rankAnew, Cond.code yX8_rankAnew cX8_rankAnew 2 none, Cond.methodLink RL 131 yX10_climb, Cond.instanceMethod yX10_climb, Cond.selects RX10 yX10_climb yX10_climb, Cond.code yX10_climb cX10_climb 5 (some .int)]
def wsL_law_r36 : List Cond := [Cond.constantLong RX10 227 (4611686018427387904), Cond.fieldLink RX10 214 "LampRoundModel" "taken" "I", Cond.methodLink RX10 231 yX10_freeAll, Cond.instanceMethod yX10_freeAll, Cond.selects RX10 yX10_freeAll yX10_freeAll, Cond.code yX10_freeAll cX10_freeAll 2 none, Cond.methodLink RX10 234 yX10_tree, Cond.instanceMethod yX10_tree, Cond.selects RX10 yX10_tree yX10_tree, Cond.code yX10_tree cX10_tree 7 (some .long), Cond.constantLong RX10 225 (2), Cond.methodLink RX10 217 yX10_nextPair, Cond.instanceMethod yX10_nextPair, Cond.selects RX10 yX10_nextPair yX10_nextPair, Cond.code yX10_nextPair cX10_nextPair 8 (some .int), Cond.methodLink RX10 201 yX10_first, Cond.instanceMethod yX10_first, Cond.selects RX10 yX10_first yX10_first, Cond.code yX10_first cX10_first 2 (some .int), Cond.methodLink RX10 204 yX10_isPair, Cond.instanceMethod yX10_isPair, Cond.selects RX10 yX10_isPair yX10_isPair, Cond.code yX10_isPair cX10_isPair 2 (some .boolean), Cond.methodLink RX10 207 yX10_hasWay]
def wsL_law_r37 : List Cond := [Cond.instanceMethod yX10_hasWay, Cond.selects RX10 yX10_hasWay yX10_hasWay, Cond.code yX10_hasWay cX10_hasWay 2 (some .boolean), Cond.methodLink RX10 210 yX10_isAhead, Cond.instanceMethod yX10_isAhead, Cond.selects RX10 yX10_isAhead yX10_isAhead, Cond.code yX10_isAhead cX10_isAhead 3 (some .boolean), Cond.methodLink RX10 197 yX10_priced, Cond.instanceMethod yX10_priced, Cond.selects RX10 yX10_priced yX10_priced, Cond.code yX10_priced cX10_priced 4 (some .long), Cond.methodLink RX10 221 yX10_take, Cond.instanceMethod yX10_take, Cond.selects RX10 yX10_take yX10_take, Cond.code yX10_take cX10_take 5 none, Cond.methodLink RL 132 yX9_bound, Cond.instanceMethod yX9_bound, Cond.selects RX9 yX9_bound yX9_bound, Cond.code yX9_bound cX9_bound 1 (some .long), Cond.constantLong RX9 305 (-4611686018427387904), Cond.methodLink RL 136 yX10_bound, Cond.instanceMethod yX10_bound, Cond.selects RX10 yX10_bound yX10_bound, Cond.code yX10_bound cX10_bound 1 (some .long)]
def wsL_law_r38 : List Cond := [Cond.constantLong RX10 238 (-4611686018427387904), Cond.methodLink RL 137 yX9_taken, Cond.instanceMethod yX9_taken, Cond.selects RX9 yX9_taken yX9_taken, Cond.code yX9_taken cX9_taken 2 (some .int), Cond.methodLink RL 140 yX10_taken, Cond.instanceMethod yX10_taken, Cond.selects RX10 yX10_taken yX10_taken, Cond.code yX10_taken cX10_taken 4 (some .int), Cond.methodLink RL 141 yX9_prove, Cond.instanceMethod yX9_prove, Cond.selects RX9 yX9_prove yX9_prove, Cond.code yX9_prove cX9_prove 2 (some .int), Cond.methodLink RX9 316 yX1_write, Cond.instanceMethod yX1_write, Cond.selects RX1 yX1_write yX1_write, Cond.code yX1_write cX1_write 4 (some .boolean), Cond.methodLink RX1 53 yX1_writeNext, Cond.instanceMethod yX1_writeNext, Cond.selects RX1 yX1_writeNext yX1_writeNext, Cond.code yX1_writeNext cX1_writeNext 4 (some .boolean), Cond.methodLink RX1 123 yX1_writeTwins, Cond.instanceMethod yX1_writeTwins, Cond.selects RX1 yX1_writeTwins yX1_writeTwins]
def wsL_law_r39 : List Cond := [Cond.code yX1_writeTwins cX1_writeTwins 5 (some .boolean), Cond.methodLink RX1 77 yX1_partedTwins, Cond.instanceMethod yX1_partedTwins, Cond.selects RX1 yX1_partedTwins yX1_partedTwins, Cond.code yX1_partedTwins cX1_partedTwins 2 (some .int), Cond.methodLink RX1 130 yX3_append, Cond.instanceMethod yX3_append, Cond.selects RX3 yX3_append yX3_append, Cond.code yX3_append cX3_append 4 none, Cond.methodLink RX3 25 yX3_write, Cond.instanceMethod yX3_write, Cond.selects RX3 yX3_write yX3_write, Cond.code yX3_write cX3_write 5 none, Cond.methodLink RX1 127 yX1_writeAlone, Cond.instanceMethod yX1_writeAlone, Cond.selects RX1 yX1_writeAlone yX1_writeAlone, Cond.code yX1_writeAlone cX1_writeAlone 4 (some .boolean), Cond.methodLink RX1 64 yX2_isLive, Cond.methodLink RX1 84 yX1_standsAlone, Cond.instanceMethod yX1_standsAlone, Cond.selects RX1 yX1_standsAlone yX1_standsAlone, Cond.code yX1_standsAlone cX1_standsAlone 3 (some .boolean), Cond.methodLink RX1 102 yX2_liveCount, Cond.methodLink RX1 106 yJ6_bitCount_0f7a4]
def wsL_law_r40 : List Cond := [Cond.methodLink RX1 114 yX0_ringOf, Cond.instanceMethod yX0_ringOf, Cond.selects RX0 yX0_ringOf yX0_ringOf, Cond.code yX0_ringOf cX0_ringOf 6 (some .int), Cond.methodLink RX1 117 yX1_isRing, Cond.instanceMethod yX1_isRing, Cond.selects RX1 yX1_isRing yX1_isRing, Cond.code yX1_isRing cX1_isRing 3 (some .boolean), Cond.methodLink RX1 74 yX1_pricesStand, Cond.instanceMethod yX1_pricesStand, Cond.selects RX1 yX1_pricesStand yX1_pricesStand, Cond.code yX1_pricesStand cX1_pricesStand 2 (some .boolean), Cond.methodLink RX1 87 yX8_grow, Cond.methodLink RX1 92 yX8_sumOfCase, Cond.methodLink RX1 134 yX8_firstFreePair, Cond.instanceMethod yX8_firstFreePair, Cond.selects RX8 yX8_firstFreePair yX8_firstFreePair, Cond.code yX8_firstFreePair cX8_firstFreePair 3 (some .int), Cond.methodLink RX8 88 yX0_isFree, Cond.instanceMethod yX0_isFree, Cond.selects RX0 yX0_isFree yX0_isFree, Cond.code yX0_isFree cX0_isFree 3 (some .boolean), Cond.methodLink RX1 49 yX1_follow, Cond.instanceMethod yX1_follow]
def wsL_law_r41 : List Cond := [Cond.selects RX1 yX1_follow yX1_follow, Cond.code yX1_follow cX1_follow 3 none, Cond.methodLink RX1 57 yX0_splitBy, Cond.instanceMethod yX0_splitBy, Cond.selects RX0 yX0_splitBy yX0_splitBy, Cond.code yX0_splitBy cX0_splitBy 3 none, Cond.methodLink RX0 47 yX0_toggle, Cond.instanceMethod yX0_toggle, Cond.selects RX0 yX0_toggle yX0_toggle, Cond.code yX0_toggle cX0_toggle 5 none, Cond.methodLink RX1 61 yX0_goOn, Cond.instanceMethod yX0_goOn, Cond.selects RX0 yX0_goOn yX0_goOn, Cond.code yX0_goOn cX0_goOn 1 none, Cond.methodLink RX9 319 yX3_copyFrom, Cond.instanceMethod yX3_copyFrom, Cond.selects RX3 yX3_copyFrom yX3_copyFrom, Cond.code yX3_copyFrom cX3_copyFrom 2 none, Cond.methodLink RX3 29 arraycopyName, Cond.methodLink RL 144 yX10_prove, Cond.instanceMethod yX10_prove, Cond.selects RX10 yX10_prove yX10_prove, Cond.code yX10_prove cX10_prove 4 (some .int), Cond.fieldLink RX10 267 "LampRoundModel" "news" "I"]
def wsL_law_r42 : List Cond := [Cond.fieldLink RX10 240 "LampRoundModel" "waits" "I", Cond.methodLink RX10 264 yX10_pushCase, Cond.instanceMethod yX10_pushCase, Cond.selects RX10 yX10_pushCase yX10_pushCase, Cond.code yX10_pushCase cX10_pushCase 2 none, Cond.methodLink RX10 274 yX10_popCase, Cond.instanceMethod yX10_popCase, Cond.selects RX10 yX10_popCase yX10_popCase, Cond.code yX10_popCase cX10_popCase 2 none, Cond.methodLink RX10 277 yX10_ending, Cond.instanceMethod yX10_ending, Cond.selects RX10 yX10_ending yX10_ending, Cond.code yX10_ending cX10_ending 4 (some .int), Cond.methodLink RX10 261 yX10_isTwins, Cond.instanceMethod yX10_isTwins, Cond.selects RX10 yX10_isTwins yX10_isTwins, Cond.code yX10_isTwins cX10_isTwins 3 (some .boolean), Cond.methodLink RX10 243 yX10_pairOf, Cond.static yX10_pairOf, Cond.code yX10_pairOf cX10_pairOf 2 (some .int), Cond.methodLink RX10 270 yX10_stands, Cond.instanceMethod yX10_stands, Cond.selects RX10 yX10_stands yX10_stands, Cond.code yX10_stands cX10_stands 5 (some .boolean)]
def wsL_law_r43 : List Cond := [Cond.methodLink RX10 249 yX10_isPart, Cond.instanceMethod yX10_isPart, Cond.selects RX10 yX10_isPart yX10_isPart, Cond.code yX10_isPart cX10_isPart 3 (some .boolean), Cond.methodLink RX10 252 yX10_isFew, Cond.instanceMethod yX10_isFew, Cond.selects RX10 yX10_isFew yX10_isFew, Cond.code yX10_isFew cX10_isFew 4 (some .boolean), Cond.methodLink RX10 255 yX10_isMany, Cond.instanceMethod yX10_isMany, Cond.selects RX10 yX10_isMany yX10_isMany, Cond.code yX10_isMany cX10_isMany 2 (some .boolean), Cond.methodLink RX10 246 yX10_joinedOf, Cond.instanceMethod yX10_joinedOf, Cond.selects RX10 yX10_joinedOf yX10_joinedOf, Cond.code yX10_joinedOf cX10_joinedOf 4 (some .int), Cond.methodLink RX10 258 yX10_isRing, Cond.instanceMethod yX10_isRing, Cond.selects RX10 yX10_isRing yX10_isRing, Cond.code yX10_isRing cX10_isRing 6 (some .boolean), Cond.methodLink RX10 280 yX10_freePair, Cond.instanceMethod yX10_freePair, Cond.selects RX10 yX10_freePair yX10_freePair, Cond.code yX10_freePair cX10_freePair 4 (some .int)]
def wsL_law_r44 : List Cond := [Cond.methodLink RX10 283 yX10_write_, Cond.instanceMethod yX10_write_, Cond.selects RX10 yX10_write_ yX10_write_, Cond.code yX10_write_ cX10_write_ 4 (some .boolean), Cond.methodLink RX10 286 yX10_part, Cond.instanceMethod yX10_part, Cond.selects RX10 yX10_part yX10_part, Cond.code yX10_part cX10_part 3 none, Cond.methodLink RL 145 yX9_line, Cond.instanceMethod yX9_line, Cond.selects RX9 yX9_line yX9_line, Cond.code yX9_line cX9_line 4 (some .int), Cond.methodLink RX9 322 yX9_isOp, Cond.static yX9_isOp, Cond.code yX9_isOp cX9_isOp 1 (some .boolean), Cond.methodLink RX9 325 yX3_append, Cond.methodLink RL 148 yX10_line, Cond.instanceMethod yX10_line, Cond.selects RX10 yX10_line yX10_line, Cond.code yX10_line cX10_line 4 (some .int), Cond.methodLink RX10 289 yX10_alter, Cond.instanceMethod yX10_alter, Cond.selects RX10 yX10_alter yX10_alter, Cond.code yX10_alter cX10_alter 5 (some .int)]
def wsL_law_r45 : List Cond := [Cond.methodLink RL 149 yX9_alter, Cond.instanceMethod yX9_alter, Cond.selects RX9 yX9_alter yX9_alter, Cond.code yX9_alter cX9_alter 5 (some .int), Cond.methodLink RX9 327 yX3_hasLine, Cond.instanceMethod yX3_hasLine, Cond.selects RX3 yX3_hasLine yX3_hasLine, Cond.code yX3_hasLine cX3_hasLine 2 (some .boolean), Cond.methodLink RX9 330 yX3_write, Cond.methodLink RL 152 yX10_alter, Cond.methodLink RL 153 yX9_cut, Cond.instanceMethod yX9_cut, Cond.selects RX9 yX9_cut yX9_cut, Cond.code yX9_cut cX9_cut 2 (some .int), Cond.methodLink RL 156 yX10_cut, Cond.instanceMethod yX10_cut, Cond.selects RX10 yX10_cut yX10_cut, Cond.code yX10_cut cX10_cut 2 (some .int), Cond.methodLink RL 157 yX9_shown, Cond.instanceMethod yX9_shown, Cond.selects RX9 yX9_shown yX9_shown, Cond.code yX9_shown cX9_shown 3 (some .int), Cond.methodLink RL 160 yX10_shown, Cond.instanceMethod yX10_shown]
def wsL_law_r46 : List Cond := [Cond.selects RX10 yX10_shown yX10_shown, Cond.code yX10_shown cX10_shown 3 (some .int), Cond.methodLink RL 161 yX9_check, Cond.instanceMethod yX9_check, Cond.selects RX9 yX9_check yX9_check, Cond.code yX9_check cX9_check 2 (some .int), Cond.methodLink RX9 342 yX1_wrongLine, Cond.instanceMethod yX1_wrongLine, Cond.selects RX1 yX1_wrongLine yX1_wrongLine, Cond.code yX1_wrongLine cX1_wrongLine 4 (some .int), Cond.methodLink RX1 45 yX1_canStand, Cond.instanceMethod yX1_canStand, Cond.selects RX1 yX1_canStand yX1_canStand, Cond.code yX1_canStand cX1_canStand 5 (some .boolean), Cond.methodLink RX1 70 yX0_isFree, Cond.methodLink RL 164 yX10_check, Cond.instanceMethod yX10_check, Cond.selects RX10 yX10_check yX10_check, Cond.code yX10_check cX10_check 3 (some .int)]
abbrev vwCl : List vw_C := [(RX0, TX0, 6), (RX1, TX1, 3), (RX2, TX2, 11), (RX3, TX3, 4), (RX4, TX4, 3), (RX5, TX5, 10), (RX6, TX6, 3), (RX7, TX7, 7), (RX8, TX8, 9), (RX9, TX9, 10), (RX10, TX10, 36)]
def wAll : List Cond := wsL_law_r1 ++ (wsL_law_r2 ++ (wsL_law_r3 ++ (wsL_law_r4 ++ (wsL_law_r5 ++ (wsL_law_r6 ++ (wsL_law_r7 ++ (wsL_law_r8 ++ (wsL_law_r9 ++ (wsL_law_r10 ++ (wsL_law_r11 ++ (wsL_law_r12 ++ (wsL_law_r13 ++ (wsL_law_r14 ++ (wsL_law_r15 ++ (wsL_law_r16 ++ (wsL_law_r17 ++ (wsL_law_r18 ++ (wsL_law_r19 ++ (wsL_law_r20 ++ (wsL_law_r21 ++ (wsL_law_r22 ++ (wsL_law_r23 ++ (wsL_law_r24 ++ (wsL_law_r25 ++ (wsL_law_r26 ++ (wsL_law_r27 ++ (wsL_law_r28 ++ (wsL_law_r29 ++ (wsL_law_r30 ++ (wsL_law_r31 ++ (wsL_law_r32 ++ (wsL_law_r33 ++ (wsL_law_r34 ++ (wsL_law_r35 ++ (wsL_law_r36 ++ (wsL_law_r37 ++ (wsL_law_r38 ++ (wsL_law_r39 ++ (wsL_law_r40 ++ (wsL_law_r41 ++ (wsL_law_r42 ++ (wsL_law_r43 ++ (wsL_law_r44 ++ (wsL_law_r45 ++ (wsL_law_r46 ++ (wsX00 ++ (wsX10 ++ (wsX20 ++ (wsX30 ++ (wsX40 ++ (wsX50 ++ (wsX60 ++ (wsX70 ++ (wsX80 ++ (wsX90 ++ (wsX100))))))))))))))))))))))))))))))))))))))))))))))))))))))))
theorem inr_1 {w : Cond} (h : w ∈ wsL_law_r1) : w ∈ wAll := List.mem_append_left _ h
theorem inr_2 {w : Cond} (h : w ∈ wsL_law_r2) : w ∈ wAll := List.mem_append_right _ (List.mem_append_left _ h)
theorem inr_3 {w : Cond} (h : w ∈ wsL_law_r3) : w ∈ wAll := List.mem_append_right _ (List.mem_append_right _ (List.mem_append_left _ h))
theorem inr_4 {w : Cond} (h : w ∈ wsL_law_r4) : w ∈ wAll := List.mem_append_right _ (List.mem_append_right _ (List.mem_append_right _ (List.mem_append_left _ h)))
theorem inr_5 {w : Cond} (h : w ∈ wsL_law_r5) : w ∈ wAll := List.mem_append_right _ (List.mem_append_right _ (List.mem_append_right _ (List.mem_append_right _ (List.mem_append_left _ h))))
theorem inr_6 {w : Cond} (h : w ∈ wsL_law_r6) : w ∈ wAll := List.mem_append_right _ (List.mem_append_right _ (List.mem_append_right _ (List.mem_append_right _ (List.mem_append_right _ (List.mem_append_left _ h)))))
theorem inr_7 {w : Cond} (h : w ∈ wsL_law_r7) : w ∈ wAll := List.mem_append_right _ (List.mem_append_right _ (List.mem_append_right _ (List.mem_append_right _ (List.mem_append_right _ (List.mem_append_right _ (List.mem_append_left _ h))))))
theorem inr_8 {w : Cond} (h : w ∈ wsL_law_r8) : w ∈ wAll := List.mem_append_right _ (List.mem_append_right _ (List.mem_append_right _ (List.mem_append_right _ (List.mem_append_right _ (List.mem_append_right _ (List.mem_append_right _ (List.mem_append_left _ h)))))))
theorem inr_9 {w : Cond} (h : w ∈ wsL_law_r9) : w ∈ wAll := List.mem_append_right _ (List.mem_append_right _ (List.mem_append_right _ (List.mem_append_right _ (List.mem_append_right _ (List.mem_append_right _ (List.mem_append_right _ (List.mem_append_right _ (List.mem_append_left _ h))))))))
theorem inr_10 {w : Cond} (h : w ∈ wsL_law_r10) : w ∈ wAll := List.mem_append_right _ (List.mem_append_right _ (List.mem_append_right _ (List.mem_append_right _ (List.mem_append_right _ (List.mem_append_right _ (List.mem_append_right _ (List.mem_append_right _ (List.mem_append_right _ (List.mem_append_left _ h)))))))))
theorem inr_11 {w : Cond} (h : w ∈ wsL_law_r11) : w ∈ wAll := List.mem_append_right _ (List.mem_append_right _ (List.mem_append_right _ (List.mem_append_right _ (List.mem_append_right _ (List.mem_append_right _ (List.mem_append_right _ (List.mem_append_right _ (List.mem_append_right _ (List.mem_append_right _ (List.mem_append_left _ h))))))))))
theorem inr_12 {w : Cond} (h : w ∈ wsL_law_r12) : w ∈ wAll := List.mem_append_right _ (List.mem_append_right _ (List.mem_append_right _ (List.mem_append_right _ (List.mem_append_right _ (List.mem_append_right _ (List.mem_append_right _ (List.mem_append_right _ (List.mem_append_right _ (List.mem_append_right _ (List.mem_append_right _ (List.mem_append_left _ h)))))))))))
theorem inr_13 {w : Cond} (h : w ∈ wsL_law_r13) : w ∈ wAll := List.mem_append_right _ (List.mem_append_right _ (List.mem_append_right _ (List.mem_append_right _ (List.mem_append_right _ (List.mem_append_right _ (List.mem_append_right _ (List.mem_append_right _ (List.mem_append_right _ (List.mem_append_right _ (List.mem_append_right _ (List.mem_append_right _ (List.mem_append_left _ h))))))))))))
theorem inr_14 {w : Cond} (h : w ∈ wsL_law_r14) : w ∈ wAll := List.mem_append_right _ (List.mem_append_right _ (List.mem_append_right _ (List.mem_append_right _ (List.mem_append_right _ (List.mem_append_right _ (List.mem_append_right _ (List.mem_append_right _ (List.mem_append_right _ (List.mem_append_right _ (List.mem_append_right _ (List.mem_append_right _ (List.mem_append_right _ (List.mem_append_left _ h)))))))))))))
theorem inr_15 {w : Cond} (h : w ∈ wsL_law_r15) : w ∈ wAll := List.mem_append_right _ (List.mem_append_right _ (List.mem_append_right _ (List.mem_append_right _ (List.mem_append_right _ (List.mem_append_right _ (List.mem_append_right _ (List.mem_append_right _ (List.mem_append_right _ (List.mem_append_right _ (List.mem_append_right _ (List.mem_append_right _ (List.mem_append_right _ (List.mem_append_right _ (List.mem_append_left _ h))))))))))))))
theorem inr_16 {w : Cond} (h : w ∈ wsL_law_r16) : w ∈ wAll := List.mem_append_right _ (List.mem_append_right _ (List.mem_append_right _ (List.mem_append_right _ (List.mem_append_right _ (List.mem_append_right _ (List.mem_append_right _ (List.mem_append_right _ (List.mem_append_right _ (List.mem_append_right _ (List.mem_append_right _ (List.mem_append_right _ (List.mem_append_right _ (List.mem_append_right _ (List.mem_append_right _ (List.mem_append_left _ h)))))))))))))))
theorem inr_17 {w : Cond} (h : w ∈ wsL_law_r17) : w ∈ wAll := List.mem_append_right _ (List.mem_append_right _ (List.mem_append_right _ (List.mem_append_right _ (List.mem_append_right _ (List.mem_append_right _ (List.mem_append_right _ (List.mem_append_right _ (List.mem_append_right _ (List.mem_append_right _ (List.mem_append_right _ (List.mem_append_right _ (List.mem_append_right _ (List.mem_append_right _ (List.mem_append_right _ (List.mem_append_right _ (List.mem_append_left _ h))))))))))))))))
theorem inr_18 {w : Cond} (h : w ∈ wsL_law_r18) : w ∈ wAll := List.mem_append_right _ (List.mem_append_right _ (List.mem_append_right _ (List.mem_append_right _ (List.mem_append_right _ (List.mem_append_right _ (List.mem_append_right _ (List.mem_append_right _ (List.mem_append_right _ (List.mem_append_right _ (List.mem_append_right _ (List.mem_append_right _ (List.mem_append_right _ (List.mem_append_right _ (List.mem_append_right _ (List.mem_append_right _ (List.mem_append_right _ (List.mem_append_left _ h)))))))))))))))))
theorem inr_19 {w : Cond} (h : w ∈ wsL_law_r19) : w ∈ wAll := List.mem_append_right _ (List.mem_append_right _ (List.mem_append_right _ (List.mem_append_right _ (List.mem_append_right _ (List.mem_append_right _ (List.mem_append_right _ (List.mem_append_right _ (List.mem_append_right _ (List.mem_append_right _ (List.mem_append_right _ (List.mem_append_right _ (List.mem_append_right _ (List.mem_append_right _ (List.mem_append_right _ (List.mem_append_right _ (List.mem_append_right _ (List.mem_append_right _ (List.mem_append_left _ h))))))))))))))))))
theorem inr_20 {w : Cond} (h : w ∈ wsL_law_r20) : w ∈ wAll := List.mem_append_right _ (List.mem_append_right _ (List.mem_append_right _ (List.mem_append_right _ (List.mem_append_right _ (List.mem_append_right _ (List.mem_append_right _ (List.mem_append_right _ (List.mem_append_right _ (List.mem_append_right _ (List.mem_append_right _ (List.mem_append_right _ (List.mem_append_right _ (List.mem_append_right _ (List.mem_append_right _ (List.mem_append_right _ (List.mem_append_right _ (List.mem_append_right _ (List.mem_append_right _ (List.mem_append_left _ h)))))))))))))))))))
theorem inr_21 {w : Cond} (h : w ∈ wsL_law_r21) : w ∈ wAll := List.mem_append_right _ (List.mem_append_right _ (List.mem_append_right _ (List.mem_append_right _ (List.mem_append_right _ (List.mem_append_right _ (List.mem_append_right _ (List.mem_append_right _ (List.mem_append_right _ (List.mem_append_right _ (List.mem_append_right _ (List.mem_append_right _ (List.mem_append_right _ (List.mem_append_right _ (List.mem_append_right _ (List.mem_append_right _ (List.mem_append_right _ (List.mem_append_right _ (List.mem_append_right _ (List.mem_append_right _ (List.mem_append_left _ h))))))))))))))))))))
theorem inr_22 {w : Cond} (h : w ∈ wsL_law_r22) : w ∈ wAll := List.mem_append_right _ (List.mem_append_right _ (List.mem_append_right _ (List.mem_append_right _ (List.mem_append_right _ (List.mem_append_right _ (List.mem_append_right _ (List.mem_append_right _ (List.mem_append_right _ (List.mem_append_right _ (List.mem_append_right _ (List.mem_append_right _ (List.mem_append_right _ (List.mem_append_right _ (List.mem_append_right _ (List.mem_append_right _ (List.mem_append_right _ (List.mem_append_right _ (List.mem_append_right _ (List.mem_append_right _ (List.mem_append_right _ (List.mem_append_left _ h)))))))))))))))))))))
theorem inr_23 {w : Cond} (h : w ∈ wsL_law_r23) : w ∈ wAll := List.mem_append_right _ (List.mem_append_right _ (List.mem_append_right _ (List.mem_append_right _ (List.mem_append_right _ (List.mem_append_right _ (List.mem_append_right _ (List.mem_append_right _ (List.mem_append_right _ (List.mem_append_right _ (List.mem_append_right _ (List.mem_append_right _ (List.mem_append_right _ (List.mem_append_right _ (List.mem_append_right _ (List.mem_append_right _ (List.mem_append_right _ (List.mem_append_right _ (List.mem_append_right _ (List.mem_append_right _ (List.mem_append_right _ (List.mem_append_right _ (List.mem_append_left _ h))))))))))))))))))))))
theorem inr_24 {w : Cond} (h : w ∈ wsL_law_r24) : w ∈ wAll := List.mem_append_right _ (List.mem_append_right _ (List.mem_append_right _ (List.mem_append_right _ (List.mem_append_right _ (List.mem_append_right _ (List.mem_append_right _ (List.mem_append_right _ (List.mem_append_right _ (List.mem_append_right _ (List.mem_append_right _ (List.mem_append_right _ (List.mem_append_right _ (List.mem_append_right _ (List.mem_append_right _ (List.mem_append_right _ (List.mem_append_right _ (List.mem_append_right _ (List.mem_append_right _ (List.mem_append_right _ (List.mem_append_right _ (List.mem_append_right _ (List.mem_append_right _ (List.mem_append_left _ h)))))))))))))))))))))))
theorem inr_25 {w : Cond} (h : w ∈ wsL_law_r25) : w ∈ wAll := List.mem_append_right _ (List.mem_append_right _ (List.mem_append_right _ (List.mem_append_right _ (List.mem_append_right _ (List.mem_append_right _ (List.mem_append_right _ (List.mem_append_right _ (List.mem_append_right _ (List.mem_append_right _ (List.mem_append_right _ (List.mem_append_right _ (List.mem_append_right _ (List.mem_append_right _ (List.mem_append_right _ (List.mem_append_right _ (List.mem_append_right _ (List.mem_append_right _ (List.mem_append_right _ (List.mem_append_right _ (List.mem_append_right _ (List.mem_append_right _ (List.mem_append_right _ (List.mem_append_right _ (List.mem_append_left _ h))))))))))))))))))))))))
theorem inr_26 {w : Cond} (h : w ∈ wsL_law_r26) : w ∈ wAll := List.mem_append_right _ (List.mem_append_right _ (List.mem_append_right _ (List.mem_append_right _ (List.mem_append_right _ (List.mem_append_right _ (List.mem_append_right _ (List.mem_append_right _ (List.mem_append_right _ (List.mem_append_right _ (List.mem_append_right _ (List.mem_append_right _ (List.mem_append_right _ (List.mem_append_right _ (List.mem_append_right _ (List.mem_append_right _ (List.mem_append_right _ (List.mem_append_right _ (List.mem_append_right _ (List.mem_append_right _ (List.mem_append_right _ (List.mem_append_right _ (List.mem_append_right _ (List.mem_append_right _ (List.mem_append_right _ (List.mem_append_left _ h)))))))))))))))))))))))))
theorem inr_27 {w : Cond} (h : w ∈ wsL_law_r27) : w ∈ wAll := List.mem_append_right _ (List.mem_append_right _ (List.mem_append_right _ (List.mem_append_right _ (List.mem_append_right _ (List.mem_append_right _ (List.mem_append_right _ (List.mem_append_right _ (List.mem_append_right _ (List.mem_append_right _ (List.mem_append_right _ (List.mem_append_right _ (List.mem_append_right _ (List.mem_append_right _ (List.mem_append_right _ (List.mem_append_right _ (List.mem_append_right _ (List.mem_append_right _ (List.mem_append_right _ (List.mem_append_right _ (List.mem_append_right _ (List.mem_append_right _ (List.mem_append_right _ (List.mem_append_right _ (List.mem_append_right _ (List.mem_append_right _ (List.mem_append_left _ h))))))))))))))))))))))))))
theorem inr_28 {w : Cond} (h : w ∈ wsL_law_r28) : w ∈ wAll := List.mem_append_right _ (List.mem_append_right _ (List.mem_append_right _ (List.mem_append_right _ (List.mem_append_right _ (List.mem_append_right _ (List.mem_append_right _ (List.mem_append_right _ (List.mem_append_right _ (List.mem_append_right _ (List.mem_append_right _ (List.mem_append_right _ (List.mem_append_right _ (List.mem_append_right _ (List.mem_append_right _ (List.mem_append_right _ (List.mem_append_right _ (List.mem_append_right _ (List.mem_append_right _ (List.mem_append_right _ (List.mem_append_right _ (List.mem_append_right _ (List.mem_append_right _ (List.mem_append_right _ (List.mem_append_right _ (List.mem_append_right _ (List.mem_append_right _ (List.mem_append_left _ h)))))))))))))))))))))))))))
theorem inr_29 {w : Cond} (h : w ∈ wsL_law_r29) : w ∈ wAll := List.mem_append_right _ (List.mem_append_right _ (List.mem_append_right _ (List.mem_append_right _ (List.mem_append_right _ (List.mem_append_right _ (List.mem_append_right _ (List.mem_append_right _ (List.mem_append_right _ (List.mem_append_right _ (List.mem_append_right _ (List.mem_append_right _ (List.mem_append_right _ (List.mem_append_right _ (List.mem_append_right _ (List.mem_append_right _ (List.mem_append_right _ (List.mem_append_right _ (List.mem_append_right _ (List.mem_append_right _ (List.mem_append_right _ (List.mem_append_right _ (List.mem_append_right _ (List.mem_append_right _ (List.mem_append_right _ (List.mem_append_right _ (List.mem_append_right _ (List.mem_append_right _ (List.mem_append_left _ h))))))))))))))))))))))))))))
theorem inr_30 {w : Cond} (h : w ∈ wsL_law_r30) : w ∈ wAll := List.mem_append_right _ (List.mem_append_right _ (List.mem_append_right _ (List.mem_append_right _ (List.mem_append_right _ (List.mem_append_right _ (List.mem_append_right _ (List.mem_append_right _ (List.mem_append_right _ (List.mem_append_right _ (List.mem_append_right _ (List.mem_append_right _ (List.mem_append_right _ (List.mem_append_right _ (List.mem_append_right _ (List.mem_append_right _ (List.mem_append_right _ (List.mem_append_right _ (List.mem_append_right _ (List.mem_append_right _ (List.mem_append_right _ (List.mem_append_right _ (List.mem_append_right _ (List.mem_append_right _ (List.mem_append_right _ (List.mem_append_right _ (List.mem_append_right _ (List.mem_append_right _ (List.mem_append_right _ (List.mem_append_left _ h)))))))))))))))))))))))))))))
theorem inr_31 {w : Cond} (h : w ∈ wsL_law_r31) : w ∈ wAll := List.mem_append_right _ (List.mem_append_right _ (List.mem_append_right _ (List.mem_append_right _ (List.mem_append_right _ (List.mem_append_right _ (List.mem_append_right _ (List.mem_append_right _ (List.mem_append_right _ (List.mem_append_right _ (List.mem_append_right _ (List.mem_append_right _ (List.mem_append_right _ (List.mem_append_right _ (List.mem_append_right _ (List.mem_append_right _ (List.mem_append_right _ (List.mem_append_right _ (List.mem_append_right _ (List.mem_append_right _ (List.mem_append_right _ (List.mem_append_right _ (List.mem_append_right _ (List.mem_append_right _ (List.mem_append_right _ (List.mem_append_right _ (List.mem_append_right _ (List.mem_append_right _ (List.mem_append_right _ (List.mem_append_right _ (List.mem_append_left _ h))))))))))))))))))))))))))))))
theorem inr_32 {w : Cond} (h : w ∈ wsL_law_r32) : w ∈ wAll := List.mem_append_right _ (List.mem_append_right _ (List.mem_append_right _ (List.mem_append_right _ (List.mem_append_right _ (List.mem_append_right _ (List.mem_append_right _ (List.mem_append_right _ (List.mem_append_right _ (List.mem_append_right _ (List.mem_append_right _ (List.mem_append_right _ (List.mem_append_right _ (List.mem_append_right _ (List.mem_append_right _ (List.mem_append_right _ (List.mem_append_right _ (List.mem_append_right _ (List.mem_append_right _ (List.mem_append_right _ (List.mem_append_right _ (List.mem_append_right _ (List.mem_append_right _ (List.mem_append_right _ (List.mem_append_right _ (List.mem_append_right _ (List.mem_append_right _ (List.mem_append_right _ (List.mem_append_right _ (List.mem_append_right _ (List.mem_append_right _ (List.mem_append_left _ h)))))))))))))))))))))))))))))))
theorem inr_33 {w : Cond} (h : w ∈ wsL_law_r33) : w ∈ wAll := List.mem_append_right _ (List.mem_append_right _ (List.mem_append_right _ (List.mem_append_right _ (List.mem_append_right _ (List.mem_append_right _ (List.mem_append_right _ (List.mem_append_right _ (List.mem_append_right _ (List.mem_append_right _ (List.mem_append_right _ (List.mem_append_right _ (List.mem_append_right _ (List.mem_append_right _ (List.mem_append_right _ (List.mem_append_right _ (List.mem_append_right _ (List.mem_append_right _ (List.mem_append_right _ (List.mem_append_right _ (List.mem_append_right _ (List.mem_append_right _ (List.mem_append_right _ (List.mem_append_right _ (List.mem_append_right _ (List.mem_append_right _ (List.mem_append_right _ (List.mem_append_right _ (List.mem_append_right _ (List.mem_append_right _ (List.mem_append_right _ (List.mem_append_right _ (List.mem_append_left _ h))))))))))))))))))))))))))))))))
theorem inr_34 {w : Cond} (h : w ∈ wsL_law_r34) : w ∈ wAll := List.mem_append_right _ (List.mem_append_right _ (List.mem_append_right _ (List.mem_append_right _ (List.mem_append_right _ (List.mem_append_right _ (List.mem_append_right _ (List.mem_append_right _ (List.mem_append_right _ (List.mem_append_right _ (List.mem_append_right _ (List.mem_append_right _ (List.mem_append_right _ (List.mem_append_right _ (List.mem_append_right _ (List.mem_append_right _ (List.mem_append_right _ (List.mem_append_right _ (List.mem_append_right _ (List.mem_append_right _ (List.mem_append_right _ (List.mem_append_right _ (List.mem_append_right _ (List.mem_append_right _ (List.mem_append_right _ (List.mem_append_right _ (List.mem_append_right _ (List.mem_append_right _ (List.mem_append_right _ (List.mem_append_right _ (List.mem_append_right _ (List.mem_append_right _ (List.mem_append_right _ (List.mem_append_left _ h)))))))))))))))))))))))))))))))))
theorem inr_35 {w : Cond} (h : w ∈ wsL_law_r35) : w ∈ wAll := List.mem_append_right _ (List.mem_append_right _ (List.mem_append_right _ (List.mem_append_right _ (List.mem_append_right _ (List.mem_append_right _ (List.mem_append_right _ (List.mem_append_right _ (List.mem_append_right _ (List.mem_append_right _ (List.mem_append_right _ (List.mem_append_right _ (List.mem_append_right _ (List.mem_append_right _ (List.mem_append_right _ (List.mem_append_right _ (List.mem_append_right _ (List.mem_append_right _ (List.mem_append_right _ (List.mem_append_right _ (List.mem_append_right _ (List.mem_append_right _ (List.mem_append_right _ (List.mem_append_right _ (List.mem_append_right _ (List.mem_append_right _ (List.mem_append_right _ (List.mem_append_right _ (List.mem_append_right _ (List.mem_append_right _ (List.mem_append_right _ (List.mem_append_right _ (List.mem_append_right _ (List.mem_append_right _ (List.mem_append_left _ h))))))))))))))))))))))))))))))))))
theorem inr_36 {w : Cond} (h : w ∈ wsL_law_r36) : w ∈ wAll := List.mem_append_right _ (List.mem_append_right _ (List.mem_append_right _ (List.mem_append_right _ (List.mem_append_right _ (List.mem_append_right _ (List.mem_append_right _ (List.mem_append_right _ (List.mem_append_right _ (List.mem_append_right _ (List.mem_append_right _ (List.mem_append_right _ (List.mem_append_right _ (List.mem_append_right _ (List.mem_append_right _ (List.mem_append_right _ (List.mem_append_right _ (List.mem_append_right _ (List.mem_append_right _ (List.mem_append_right _ (List.mem_append_right _ (List.mem_append_right _ (List.mem_append_right _ (List.mem_append_right _ (List.mem_append_right _ (List.mem_append_right _ (List.mem_append_right _ (List.mem_append_right _ (List.mem_append_right _ (List.mem_append_right _ (List.mem_append_right _ (List.mem_append_right _ (List.mem_append_right _ (List.mem_append_right _ (List.mem_append_right _ (List.mem_append_left _ h)))))))))))))))))))))))))))))))))))
theorem inr_37 {w : Cond} (h : w ∈ wsL_law_r37) : w ∈ wAll := List.mem_append_right _ (List.mem_append_right _ (List.mem_append_right _ (List.mem_append_right _ (List.mem_append_right _ (List.mem_append_right _ (List.mem_append_right _ (List.mem_append_right _ (List.mem_append_right _ (List.mem_append_right _ (List.mem_append_right _ (List.mem_append_right _ (List.mem_append_right _ (List.mem_append_right _ (List.mem_append_right _ (List.mem_append_right _ (List.mem_append_right _ (List.mem_append_right _ (List.mem_append_right _ (List.mem_append_right _ (List.mem_append_right _ (List.mem_append_right _ (List.mem_append_right _ (List.mem_append_right _ (List.mem_append_right _ (List.mem_append_right _ (List.mem_append_right _ (List.mem_append_right _ (List.mem_append_right _ (List.mem_append_right _ (List.mem_append_right _ (List.mem_append_right _ (List.mem_append_right _ (List.mem_append_right _ (List.mem_append_right _ (List.mem_append_right _ (List.mem_append_left _ h))))))))))))))))))))))))))))))))))))
theorem inr_38 {w : Cond} (h : w ∈ wsL_law_r38) : w ∈ wAll := List.mem_append_right _ (List.mem_append_right _ (List.mem_append_right _ (List.mem_append_right _ (List.mem_append_right _ (List.mem_append_right _ (List.mem_append_right _ (List.mem_append_right _ (List.mem_append_right _ (List.mem_append_right _ (List.mem_append_right _ (List.mem_append_right _ (List.mem_append_right _ (List.mem_append_right _ (List.mem_append_right _ (List.mem_append_right _ (List.mem_append_right _ (List.mem_append_right _ (List.mem_append_right _ (List.mem_append_right _ (List.mem_append_right _ (List.mem_append_right _ (List.mem_append_right _ (List.mem_append_right _ (List.mem_append_right _ (List.mem_append_right _ (List.mem_append_right _ (List.mem_append_right _ (List.mem_append_right _ (List.mem_append_right _ (List.mem_append_right _ (List.mem_append_right _ (List.mem_append_right _ (List.mem_append_right _ (List.mem_append_right _ (List.mem_append_right _ (List.mem_append_right _ (List.mem_append_left _ h)))))))))))))))))))))))))))))))))))))
theorem inr_39 {w : Cond} (h : w ∈ wsL_law_r39) : w ∈ wAll := List.mem_append_right _ (List.mem_append_right _ (List.mem_append_right _ (List.mem_append_right _ (List.mem_append_right _ (List.mem_append_right _ (List.mem_append_right _ (List.mem_append_right _ (List.mem_append_right _ (List.mem_append_right _ (List.mem_append_right _ (List.mem_append_right _ (List.mem_append_right _ (List.mem_append_right _ (List.mem_append_right _ (List.mem_append_right _ (List.mem_append_right _ (List.mem_append_right _ (List.mem_append_right _ (List.mem_append_right _ (List.mem_append_right _ (List.mem_append_right _ (List.mem_append_right _ (List.mem_append_right _ (List.mem_append_right _ (List.mem_append_right _ (List.mem_append_right _ (List.mem_append_right _ (List.mem_append_right _ (List.mem_append_right _ (List.mem_append_right _ (List.mem_append_right _ (List.mem_append_right _ (List.mem_append_right _ (List.mem_append_right _ (List.mem_append_right _ (List.mem_append_right _ (List.mem_append_right _ (List.mem_append_left _ h))))))))))))))))))))))))))))))))))))))
theorem inr_40 {w : Cond} (h : w ∈ wsL_law_r40) : w ∈ wAll := List.mem_append_right _ (List.mem_append_right _ (List.mem_append_right _ (List.mem_append_right _ (List.mem_append_right _ (List.mem_append_right _ (List.mem_append_right _ (List.mem_append_right _ (List.mem_append_right _ (List.mem_append_right _ (List.mem_append_right _ (List.mem_append_right _ (List.mem_append_right _ (List.mem_append_right _ (List.mem_append_right _ (List.mem_append_right _ (List.mem_append_right _ (List.mem_append_right _ (List.mem_append_right _ (List.mem_append_right _ (List.mem_append_right _ (List.mem_append_right _ (List.mem_append_right _ (List.mem_append_right _ (List.mem_append_right _ (List.mem_append_right _ (List.mem_append_right _ (List.mem_append_right _ (List.mem_append_right _ (List.mem_append_right _ (List.mem_append_right _ (List.mem_append_right _ (List.mem_append_right _ (List.mem_append_right _ (List.mem_append_right _ (List.mem_append_right _ (List.mem_append_right _ (List.mem_append_right _ (List.mem_append_right _ (List.mem_append_left _ h)))))))))))))))))))))))))))))))))))))))
theorem inr_41 {w : Cond} (h : w ∈ wsL_law_r41) : w ∈ wAll := List.mem_append_right _ (List.mem_append_right _ (List.mem_append_right _ (List.mem_append_right _ (List.mem_append_right _ (List.mem_append_right _ (List.mem_append_right _ (List.mem_append_right _ (List.mem_append_right _ (List.mem_append_right _ (List.mem_append_right _ (List.mem_append_right _ (List.mem_append_right _ (List.mem_append_right _ (List.mem_append_right _ (List.mem_append_right _ (List.mem_append_right _ (List.mem_append_right _ (List.mem_append_right _ (List.mem_append_right _ (List.mem_append_right _ (List.mem_append_right _ (List.mem_append_right _ (List.mem_append_right _ (List.mem_append_right _ (List.mem_append_right _ (List.mem_append_right _ (List.mem_append_right _ (List.mem_append_right _ (List.mem_append_right _ (List.mem_append_right _ (List.mem_append_right _ (List.mem_append_right _ (List.mem_append_right _ (List.mem_append_right _ (List.mem_append_right _ (List.mem_append_right _ (List.mem_append_right _ (List.mem_append_right _ (List.mem_append_right _ (List.mem_append_left _ h))))))))))))))))))))))))))))))))))))))))
theorem inr_42 {w : Cond} (h : w ∈ wsL_law_r42) : w ∈ wAll := List.mem_append_right _ (List.mem_append_right _ (List.mem_append_right _ (List.mem_append_right _ (List.mem_append_right _ (List.mem_append_right _ (List.mem_append_right _ (List.mem_append_right _ (List.mem_append_right _ (List.mem_append_right _ (List.mem_append_right _ (List.mem_append_right _ (List.mem_append_right _ (List.mem_append_right _ (List.mem_append_right _ (List.mem_append_right _ (List.mem_append_right _ (List.mem_append_right _ (List.mem_append_right _ (List.mem_append_right _ (List.mem_append_right _ (List.mem_append_right _ (List.mem_append_right _ (List.mem_append_right _ (List.mem_append_right _ (List.mem_append_right _ (List.mem_append_right _ (List.mem_append_right _ (List.mem_append_right _ (List.mem_append_right _ (List.mem_append_right _ (List.mem_append_right _ (List.mem_append_right _ (List.mem_append_right _ (List.mem_append_right _ (List.mem_append_right _ (List.mem_append_right _ (List.mem_append_right _ (List.mem_append_right _ (List.mem_append_right _ (List.mem_append_right _ (List.mem_append_left _ h)))))))))))))))))))))))))))))))))))))))))
theorem inr_43 {w : Cond} (h : w ∈ wsL_law_r43) : w ∈ wAll := List.mem_append_right _ (List.mem_append_right _ (List.mem_append_right _ (List.mem_append_right _ (List.mem_append_right _ (List.mem_append_right _ (List.mem_append_right _ (List.mem_append_right _ (List.mem_append_right _ (List.mem_append_right _ (List.mem_append_right _ (List.mem_append_right _ (List.mem_append_right _ (List.mem_append_right _ (List.mem_append_right _ (List.mem_append_right _ (List.mem_append_right _ (List.mem_append_right _ (List.mem_append_right _ (List.mem_append_right _ (List.mem_append_right _ (List.mem_append_right _ (List.mem_append_right _ (List.mem_append_right _ (List.mem_append_right _ (List.mem_append_right _ (List.mem_append_right _ (List.mem_append_right _ (List.mem_append_right _ (List.mem_append_right _ (List.mem_append_right _ (List.mem_append_right _ (List.mem_append_right _ (List.mem_append_right _ (List.mem_append_right _ (List.mem_append_right _ (List.mem_append_right _ (List.mem_append_right _ (List.mem_append_right _ (List.mem_append_right _ (List.mem_append_right _ (List.mem_append_right _ (List.mem_append_left _ h))))))))))))))))))))))))))))))))))))))))))
theorem inr_44 {w : Cond} (h : w ∈ wsL_law_r44) : w ∈ wAll := List.mem_append_right _ (List.mem_append_right _ (List.mem_append_right _ (List.mem_append_right _ (List.mem_append_right _ (List.mem_append_right _ (List.mem_append_right _ (List.mem_append_right _ (List.mem_append_right _ (List.mem_append_right _ (List.mem_append_right _ (List.mem_append_right _ (List.mem_append_right _ (List.mem_append_right _ (List.mem_append_right _ (List.mem_append_right _ (List.mem_append_right _ (List.mem_append_right _ (List.mem_append_right _ (List.mem_append_right _ (List.mem_append_right _ (List.mem_append_right _ (List.mem_append_right _ (List.mem_append_right _ (List.mem_append_right _ (List.mem_append_right _ (List.mem_append_right _ (List.mem_append_right _ (List.mem_append_right _ (List.mem_append_right _ (List.mem_append_right _ (List.mem_append_right _ (List.mem_append_right _ (List.mem_append_right _ (List.mem_append_right _ (List.mem_append_right _ (List.mem_append_right _ (List.mem_append_right _ (List.mem_append_right _ (List.mem_append_right _ (List.mem_append_right _ (List.mem_append_right _ (List.mem_append_right _ (List.mem_append_left _ h)))))))))))))))))))))))))))))))))))))))))))
theorem inr_45 {w : Cond} (h : w ∈ wsL_law_r45) : w ∈ wAll := List.mem_append_right _ (List.mem_append_right _ (List.mem_append_right _ (List.mem_append_right _ (List.mem_append_right _ (List.mem_append_right _ (List.mem_append_right _ (List.mem_append_right _ (List.mem_append_right _ (List.mem_append_right _ (List.mem_append_right _ (List.mem_append_right _ (List.mem_append_right _ (List.mem_append_right _ (List.mem_append_right _ (List.mem_append_right _ (List.mem_append_right _ (List.mem_append_right _ (List.mem_append_right _ (List.mem_append_right _ (List.mem_append_right _ (List.mem_append_right _ (List.mem_append_right _ (List.mem_append_right _ (List.mem_append_right _ (List.mem_append_right _ (List.mem_append_right _ (List.mem_append_right _ (List.mem_append_right _ (List.mem_append_right _ (List.mem_append_right _ (List.mem_append_right _ (List.mem_append_right _ (List.mem_append_right _ (List.mem_append_right _ (List.mem_append_right _ (List.mem_append_right _ (List.mem_append_right _ (List.mem_append_right _ (List.mem_append_right _ (List.mem_append_right _ (List.mem_append_right _ (List.mem_append_right _ (List.mem_append_right _ (List.mem_append_left _ h))))))))))))))))))))))))))))))))))))))))))))
theorem inr_46 {w : Cond} (h : w ∈ wsL_law_r46) : w ∈ wAll := List.mem_append_right _ (List.mem_append_right _ (List.mem_append_right _ (List.mem_append_right _ (List.mem_append_right _ (List.mem_append_right _ (List.mem_append_right _ (List.mem_append_right _ (List.mem_append_right _ (List.mem_append_right _ (List.mem_append_right _ (List.mem_append_right _ (List.mem_append_right _ (List.mem_append_right _ (List.mem_append_right _ (List.mem_append_right _ (List.mem_append_right _ (List.mem_append_right _ (List.mem_append_right _ (List.mem_append_right _ (List.mem_append_right _ (List.mem_append_right _ (List.mem_append_right _ (List.mem_append_right _ (List.mem_append_right _ (List.mem_append_right _ (List.mem_append_right _ (List.mem_append_right _ (List.mem_append_right _ (List.mem_append_right _ (List.mem_append_right _ (List.mem_append_right _ (List.mem_append_right _ (List.mem_append_right _ (List.mem_append_right _ (List.mem_append_right _ (List.mem_append_right _ (List.mem_append_right _ (List.mem_append_right _ (List.mem_append_right _ (List.mem_append_right _ (List.mem_append_right _ (List.mem_append_right _ (List.mem_append_right _ (List.mem_append_right _ (List.mem_append_left _ h)))))))))))))))))))))))))))))))))))))))))))))
theorem inlX0 : ∀ w ∈ wsX00, w ∈ wAll := fun _ h => List.mem_append_right _ (List.mem_append_right _ (List.mem_append_right _ (List.mem_append_right _ (List.mem_append_right _ (List.mem_append_right _ (List.mem_append_right _ (List.mem_append_right _ (List.mem_append_right _ (List.mem_append_right _ (List.mem_append_right _ (List.mem_append_right _ (List.mem_append_right _ (List.mem_append_right _ (List.mem_append_right _ (List.mem_append_right _ (List.mem_append_right _ (List.mem_append_right _ (List.mem_append_right _ (List.mem_append_right _ (List.mem_append_right _ (List.mem_append_right _ (List.mem_append_right _ (List.mem_append_right _ (List.mem_append_right _ (List.mem_append_right _ (List.mem_append_right _ (List.mem_append_right _ (List.mem_append_right _ (List.mem_append_right _ (List.mem_append_right _ (List.mem_append_right _ (List.mem_append_right _ (List.mem_append_right _ (List.mem_append_right _ (List.mem_append_right _ (List.mem_append_right _ (List.mem_append_right _ (List.mem_append_right _ (List.mem_append_right _ (List.mem_append_right _ (List.mem_append_right _ (List.mem_append_right _ (List.mem_append_right _ (List.mem_append_right _ (List.mem_append_right _ (List.mem_append_left _ h))))))))))))))))))))))))))))))))))))))))))))))
theorem inlX1 : ∀ w ∈ wsX10, w ∈ wAll := fun _ h => List.mem_append_right _ (List.mem_append_right _ (List.mem_append_right _ (List.mem_append_right _ (List.mem_append_right _ (List.mem_append_right _ (List.mem_append_right _ (List.mem_append_right _ (List.mem_append_right _ (List.mem_append_right _ (List.mem_append_right _ (List.mem_append_right _ (List.mem_append_right _ (List.mem_append_right _ (List.mem_append_right _ (List.mem_append_right _ (List.mem_append_right _ (List.mem_append_right _ (List.mem_append_right _ (List.mem_append_right _ (List.mem_append_right _ (List.mem_append_right _ (List.mem_append_right _ (List.mem_append_right _ (List.mem_append_right _ (List.mem_append_right _ (List.mem_append_right _ (List.mem_append_right _ (List.mem_append_right _ (List.mem_append_right _ (List.mem_append_right _ (List.mem_append_right _ (List.mem_append_right _ (List.mem_append_right _ (List.mem_append_right _ (List.mem_append_right _ (List.mem_append_right _ (List.mem_append_right _ (List.mem_append_right _ (List.mem_append_right _ (List.mem_append_right _ (List.mem_append_right _ (List.mem_append_right _ (List.mem_append_right _ (List.mem_append_right _ (List.mem_append_right _ (List.mem_append_right _ (List.mem_append_left _ h)))))))))))))))))))))))))))))))))))))))))))))))
theorem inlX2 : ∀ w ∈ wsX20, w ∈ wAll := fun _ h => List.mem_append_right _ (List.mem_append_right _ (List.mem_append_right _ (List.mem_append_right _ (List.mem_append_right _ (List.mem_append_right _ (List.mem_append_right _ (List.mem_append_right _ (List.mem_append_right _ (List.mem_append_right _ (List.mem_append_right _ (List.mem_append_right _ (List.mem_append_right _ (List.mem_append_right _ (List.mem_append_right _ (List.mem_append_right _ (List.mem_append_right _ (List.mem_append_right _ (List.mem_append_right _ (List.mem_append_right _ (List.mem_append_right _ (List.mem_append_right _ (List.mem_append_right _ (List.mem_append_right _ (List.mem_append_right _ (List.mem_append_right _ (List.mem_append_right _ (List.mem_append_right _ (List.mem_append_right _ (List.mem_append_right _ (List.mem_append_right _ (List.mem_append_right _ (List.mem_append_right _ (List.mem_append_right _ (List.mem_append_right _ (List.mem_append_right _ (List.mem_append_right _ (List.mem_append_right _ (List.mem_append_right _ (List.mem_append_right _ (List.mem_append_right _ (List.mem_append_right _ (List.mem_append_right _ (List.mem_append_right _ (List.mem_append_right _ (List.mem_append_right _ (List.mem_append_right _ (List.mem_append_right _ (List.mem_append_left _ h))))))))))))))))))))))))))))))))))))))))))))))))
theorem inlX3 : ∀ w ∈ wsX30, w ∈ wAll := fun _ h => List.mem_append_right _ (List.mem_append_right _ (List.mem_append_right _ (List.mem_append_right _ (List.mem_append_right _ (List.mem_append_right _ (List.mem_append_right _ (List.mem_append_right _ (List.mem_append_right _ (List.mem_append_right _ (List.mem_append_right _ (List.mem_append_right _ (List.mem_append_right _ (List.mem_append_right _ (List.mem_append_right _ (List.mem_append_right _ (List.mem_append_right _ (List.mem_append_right _ (List.mem_append_right _ (List.mem_append_right _ (List.mem_append_right _ (List.mem_append_right _ (List.mem_append_right _ (List.mem_append_right _ (List.mem_append_right _ (List.mem_append_right _ (List.mem_append_right _ (List.mem_append_right _ (List.mem_append_right _ (List.mem_append_right _ (List.mem_append_right _ (List.mem_append_right _ (List.mem_append_right _ (List.mem_append_right _ (List.mem_append_right _ (List.mem_append_right _ (List.mem_append_right _ (List.mem_append_right _ (List.mem_append_right _ (List.mem_append_right _ (List.mem_append_right _ (List.mem_append_right _ (List.mem_append_right _ (List.mem_append_right _ (List.mem_append_right _ (List.mem_append_right _ (List.mem_append_right _ (List.mem_append_right _ (List.mem_append_right _ (List.mem_append_left _ h)))))))))))))))))))))))))))))))))))))))))))))))))
theorem inlX4 : ∀ w ∈ wsX40, w ∈ wAll := fun _ h => List.mem_append_right _ (List.mem_append_right _ (List.mem_append_right _ (List.mem_append_right _ (List.mem_append_right _ (List.mem_append_right _ (List.mem_append_right _ (List.mem_append_right _ (List.mem_append_right _ (List.mem_append_right _ (List.mem_append_right _ (List.mem_append_right _ (List.mem_append_right _ (List.mem_append_right _ (List.mem_append_right _ (List.mem_append_right _ (List.mem_append_right _ (List.mem_append_right _ (List.mem_append_right _ (List.mem_append_right _ (List.mem_append_right _ (List.mem_append_right _ (List.mem_append_right _ (List.mem_append_right _ (List.mem_append_right _ (List.mem_append_right _ (List.mem_append_right _ (List.mem_append_right _ (List.mem_append_right _ (List.mem_append_right _ (List.mem_append_right _ (List.mem_append_right _ (List.mem_append_right _ (List.mem_append_right _ (List.mem_append_right _ (List.mem_append_right _ (List.mem_append_right _ (List.mem_append_right _ (List.mem_append_right _ (List.mem_append_right _ (List.mem_append_right _ (List.mem_append_right _ (List.mem_append_right _ (List.mem_append_right _ (List.mem_append_right _ (List.mem_append_right _ (List.mem_append_right _ (List.mem_append_right _ (List.mem_append_right _ (List.mem_append_right _ (List.mem_append_left _ h))))))))))))))))))))))))))))))))))))))))))))))))))
theorem inlX5 : ∀ w ∈ wsX50, w ∈ wAll := fun _ h => List.mem_append_right _ (List.mem_append_right _ (List.mem_append_right _ (List.mem_append_right _ (List.mem_append_right _ (List.mem_append_right _ (List.mem_append_right _ (List.mem_append_right _ (List.mem_append_right _ (List.mem_append_right _ (List.mem_append_right _ (List.mem_append_right _ (List.mem_append_right _ (List.mem_append_right _ (List.mem_append_right _ (List.mem_append_right _ (List.mem_append_right _ (List.mem_append_right _ (List.mem_append_right _ (List.mem_append_right _ (List.mem_append_right _ (List.mem_append_right _ (List.mem_append_right _ (List.mem_append_right _ (List.mem_append_right _ (List.mem_append_right _ (List.mem_append_right _ (List.mem_append_right _ (List.mem_append_right _ (List.mem_append_right _ (List.mem_append_right _ (List.mem_append_right _ (List.mem_append_right _ (List.mem_append_right _ (List.mem_append_right _ (List.mem_append_right _ (List.mem_append_right _ (List.mem_append_right _ (List.mem_append_right _ (List.mem_append_right _ (List.mem_append_right _ (List.mem_append_right _ (List.mem_append_right _ (List.mem_append_right _ (List.mem_append_right _ (List.mem_append_right _ (List.mem_append_right _ (List.mem_append_right _ (List.mem_append_right _ (List.mem_append_right _ (List.mem_append_right _ (List.mem_append_left _ h)))))))))))))))))))))))))))))))))))))))))))))))))))
theorem inlX6 : ∀ w ∈ wsX60, w ∈ wAll := fun _ h => List.mem_append_right _ (List.mem_append_right _ (List.mem_append_right _ (List.mem_append_right _ (List.mem_append_right _ (List.mem_append_right _ (List.mem_append_right _ (List.mem_append_right _ (List.mem_append_right _ (List.mem_append_right _ (List.mem_append_right _ (List.mem_append_right _ (List.mem_append_right _ (List.mem_append_right _ (List.mem_append_right _ (List.mem_append_right _ (List.mem_append_right _ (List.mem_append_right _ (List.mem_append_right _ (List.mem_append_right _ (List.mem_append_right _ (List.mem_append_right _ (List.mem_append_right _ (List.mem_append_right _ (List.mem_append_right _ (List.mem_append_right _ (List.mem_append_right _ (List.mem_append_right _ (List.mem_append_right _ (List.mem_append_right _ (List.mem_append_right _ (List.mem_append_right _ (List.mem_append_right _ (List.mem_append_right _ (List.mem_append_right _ (List.mem_append_right _ (List.mem_append_right _ (List.mem_append_right _ (List.mem_append_right _ (List.mem_append_right _ (List.mem_append_right _ (List.mem_append_right _ (List.mem_append_right _ (List.mem_append_right _ (List.mem_append_right _ (List.mem_append_right _ (List.mem_append_right _ (List.mem_append_right _ (List.mem_append_right _ (List.mem_append_right _ (List.mem_append_right _ (List.mem_append_right _ (List.mem_append_left _ h))))))))))))))))))))))))))))))))))))))))))))))))))))
theorem inlX7 : ∀ w ∈ wsX70, w ∈ wAll := fun _ h => List.mem_append_right _ (List.mem_append_right _ (List.mem_append_right _ (List.mem_append_right _ (List.mem_append_right _ (List.mem_append_right _ (List.mem_append_right _ (List.mem_append_right _ (List.mem_append_right _ (List.mem_append_right _ (List.mem_append_right _ (List.mem_append_right _ (List.mem_append_right _ (List.mem_append_right _ (List.mem_append_right _ (List.mem_append_right _ (List.mem_append_right _ (List.mem_append_right _ (List.mem_append_right _ (List.mem_append_right _ (List.mem_append_right _ (List.mem_append_right _ (List.mem_append_right _ (List.mem_append_right _ (List.mem_append_right _ (List.mem_append_right _ (List.mem_append_right _ (List.mem_append_right _ (List.mem_append_right _ (List.mem_append_right _ (List.mem_append_right _ (List.mem_append_right _ (List.mem_append_right _ (List.mem_append_right _ (List.mem_append_right _ (List.mem_append_right _ (List.mem_append_right _ (List.mem_append_right _ (List.mem_append_right _ (List.mem_append_right _ (List.mem_append_right _ (List.mem_append_right _ (List.mem_append_right _ (List.mem_append_right _ (List.mem_append_right _ (List.mem_append_right _ (List.mem_append_right _ (List.mem_append_right _ (List.mem_append_right _ (List.mem_append_right _ (List.mem_append_right _ (List.mem_append_right _ (List.mem_append_right _ (List.mem_append_left _ h)))))))))))))))))))))))))))))))))))))))))))))))))))))
theorem inlX8 : ∀ w ∈ wsX80, w ∈ wAll := fun _ h => List.mem_append_right _ (List.mem_append_right _ (List.mem_append_right _ (List.mem_append_right _ (List.mem_append_right _ (List.mem_append_right _ (List.mem_append_right _ (List.mem_append_right _ (List.mem_append_right _ (List.mem_append_right _ (List.mem_append_right _ (List.mem_append_right _ (List.mem_append_right _ (List.mem_append_right _ (List.mem_append_right _ (List.mem_append_right _ (List.mem_append_right _ (List.mem_append_right _ (List.mem_append_right _ (List.mem_append_right _ (List.mem_append_right _ (List.mem_append_right _ (List.mem_append_right _ (List.mem_append_right _ (List.mem_append_right _ (List.mem_append_right _ (List.mem_append_right _ (List.mem_append_right _ (List.mem_append_right _ (List.mem_append_right _ (List.mem_append_right _ (List.mem_append_right _ (List.mem_append_right _ (List.mem_append_right _ (List.mem_append_right _ (List.mem_append_right _ (List.mem_append_right _ (List.mem_append_right _ (List.mem_append_right _ (List.mem_append_right _ (List.mem_append_right _ (List.mem_append_right _ (List.mem_append_right _ (List.mem_append_right _ (List.mem_append_right _ (List.mem_append_right _ (List.mem_append_right _ (List.mem_append_right _ (List.mem_append_right _ (List.mem_append_right _ (List.mem_append_right _ (List.mem_append_right _ (List.mem_append_right _ (List.mem_append_right _ (List.mem_append_left _ h))))))))))))))))))))))))))))))))))))))))))))))))))))))
theorem inlX9 : ∀ w ∈ wsX90, w ∈ wAll := fun _ h => List.mem_append_right _ (List.mem_append_right _ (List.mem_append_right _ (List.mem_append_right _ (List.mem_append_right _ (List.mem_append_right _ (List.mem_append_right _ (List.mem_append_right _ (List.mem_append_right _ (List.mem_append_right _ (List.mem_append_right _ (List.mem_append_right _ (List.mem_append_right _ (List.mem_append_right _ (List.mem_append_right _ (List.mem_append_right _ (List.mem_append_right _ (List.mem_append_right _ (List.mem_append_right _ (List.mem_append_right _ (List.mem_append_right _ (List.mem_append_right _ (List.mem_append_right _ (List.mem_append_right _ (List.mem_append_right _ (List.mem_append_right _ (List.mem_append_right _ (List.mem_append_right _ (List.mem_append_right _ (List.mem_append_right _ (List.mem_append_right _ (List.mem_append_right _ (List.mem_append_right _ (List.mem_append_right _ (List.mem_append_right _ (List.mem_append_right _ (List.mem_append_right _ (List.mem_append_right _ (List.mem_append_right _ (List.mem_append_right _ (List.mem_append_right _ (List.mem_append_right _ (List.mem_append_right _ (List.mem_append_right _ (List.mem_append_right _ (List.mem_append_right _ (List.mem_append_right _ (List.mem_append_right _ (List.mem_append_right _ (List.mem_append_right _ (List.mem_append_right _ (List.mem_append_right _ (List.mem_append_right _ (List.mem_append_right _ (List.mem_append_right _ (List.mem_append_left _ h)))))))))))))))))))))))))))))))))))))))))))))))))))))))
theorem inlX10 : ∀ w ∈ wsX100, w ∈ wAll := fun _ h => List.mem_append_right _ (List.mem_append_right _ (List.mem_append_right _ (List.mem_append_right _ (List.mem_append_right _ (List.mem_append_right _ (List.mem_append_right _ (List.mem_append_right _ (List.mem_append_right _ (List.mem_append_right _ (List.mem_append_right _ (List.mem_append_right _ (List.mem_append_right _ (List.mem_append_right _ (List.mem_append_right _ (List.mem_append_right _ (List.mem_append_right _ (List.mem_append_right _ (List.mem_append_right _ (List.mem_append_right _ (List.mem_append_right _ (List.mem_append_right _ (List.mem_append_right _ (List.mem_append_right _ (List.mem_append_right _ (List.mem_append_right _ (List.mem_append_right _ (List.mem_append_right _ (List.mem_append_right _ (List.mem_append_right _ (List.mem_append_right _ (List.mem_append_right _ (List.mem_append_right _ (List.mem_append_right _ (List.mem_append_right _ (List.mem_append_right _ (List.mem_append_right _ (List.mem_append_right _ (List.mem_append_right _ (List.mem_append_right _ (List.mem_append_right _ (List.mem_append_right _ (List.mem_append_right _ (List.mem_append_right _ (List.mem_append_right _ (List.mem_append_right _ (List.mem_append_right _ (List.mem_append_right _ (List.mem_append_right _ (List.mem_append_right _ (List.mem_append_right _ (List.mem_append_right _ (List.mem_append_right _ (List.mem_append_right _ (List.mem_append_right _ (List.mem_append_right _ (h))))))))))))))))))))))))))))))))))))))))))))))))))))))))
theorem gdr_1 : wsL_law_r1.all goodWord = true := by decide +kernel
theorem gdr_2 : wsL_law_r2.all goodWord = true := by decide +kernel
theorem gdr_3 : wsL_law_r3.all goodWord = true := by decide +kernel
theorem gdr_4 : wsL_law_r4.all goodWord = true := by decide +kernel
theorem gdr_5 : wsL_law_r5.all goodWord = true := by decide +kernel
theorem gdr_6 : wsL_law_r6.all goodWord = true := by decide +kernel
theorem gdr_7 : wsL_law_r7.all goodWord = true := by decide +kernel
theorem gdr_8 : wsL_law_r8.all goodWord = true := by decide +kernel
theorem gdr_9 : wsL_law_r9.all goodWord = true := by decide +kernel
theorem gdr_10 : wsL_law_r10.all goodWord = true := by decide +kernel
theorem gdr_11 : wsL_law_r11.all goodWord = true := by decide +kernel
theorem gdr_12 : wsL_law_r12.all goodWord = true := by decide +kernel
theorem gdr_13 : wsL_law_r13.all goodWord = true := by decide +kernel
theorem gdr_14 : wsL_law_r14.all goodWord = true := by decide +kernel
theorem gdr_15 : wsL_law_r15.all goodWord = true := by decide +kernel
theorem gdr_16 : wsL_law_r16.all goodWord = true := by decide +kernel
theorem gdr_17 : wsL_law_r17.all goodWord = true := by decide +kernel
theorem gdr_18 : wsL_law_r18.all goodWord = true := by decide +kernel
theorem gdr_19 : wsL_law_r19.all goodWord = true := by decide +kernel
theorem gdr_20 : wsL_law_r20.all goodWord = true := by decide +kernel
theorem gdr_21 : wsL_law_r21.all goodWord = true := by decide +kernel
theorem gdr_22 : wsL_law_r22.all goodWord = true := by decide +kernel
theorem gdr_23 : wsL_law_r23.all goodWord = true := by decide +kernel
theorem gdr_24 : wsL_law_r24.all goodWord = true := by decide +kernel
theorem gdr_25 : wsL_law_r25.all goodWord = true := by decide +kernel
theorem gdr_26 : wsL_law_r26.all goodWord = true := by decide +kernel
theorem gdr_27 : wsL_law_r27.all goodWord = true := by decide +kernel
theorem gdr_28 : wsL_law_r28.all goodWord = true := by decide +kernel
theorem gdr_29 : wsL_law_r29.all goodWord = true := by decide +kernel
theorem gdr_30 : wsL_law_r30.all goodWord = true := by decide +kernel
theorem gdr_31 : wsL_law_r31.all goodWord = true := by decide +kernel
theorem gdr_32 : wsL_law_r32.all goodWord = true := by decide +kernel
theorem gdr_33 : wsL_law_r33.all goodWord = true := by decide +kernel
theorem gdr_34 : wsL_law_r34.all goodWord = true := by decide +kernel
theorem gdr_35 : wsL_law_r35.all goodWord = true := by decide +kernel
theorem gdr_36 : wsL_law_r36.all goodWord = true := by decide +kernel
theorem gdr_37 : wsL_law_r37.all goodWord = true := by decide +kernel
theorem gdr_38 : wsL_law_r38.all goodWord = true := by decide +kernel
theorem gdr_39 : wsL_law_r39.all goodWord = true := by decide +kernel
theorem gdr_40 : wsL_law_r40.all goodWord = true := by decide +kernel
theorem gdr_41 : wsL_law_r41.all goodWord = true := by decide +kernel
theorem gdr_42 : wsL_law_r42.all goodWord = true := by decide +kernel
theorem gdr_43 : wsL_law_r43.all goodWord = true := by decide +kernel
theorem gdr_44 : wsL_law_r44.all goodWord = true := by decide +kernel
theorem gdr_45 : wsL_law_r45.all goodWord = true := by decide +kernel
theorem gdr_46 : wsL_law_r46.all goodWord = true := by decide +kernel
theorem gdl_X0 : wsX00.all goodWord = true := by decide +kernel
theorem gdl_X1 : wsX10.all goodWord = true := by decide +kernel
theorem gdl_X2 : wsX20.all goodWord = true := by decide +kernel
theorem gdl_X3 : wsX30.all goodWord = true := by decide +kernel
theorem gdl_X4 : wsX40.all goodWord = true := by decide +kernel
theorem gdl_X5 : wsX50.all goodWord = true := by decide +kernel
theorem gdl_X6 : wsX60.all goodWord = true := by decide +kernel
theorem gdl_X7 : wsX70.all goodWord = true := by decide +kernel
theorem gdl_X8 : wsX80.all goodWord = true := by decide +kernel
theorem gdl_X9 : wsX90.all goodWord = true := by decide +kernel
theorem gdl_X10 : wsX100.all goodWord = true := by decide +kernel
theorem wAll_good : wAll.all goodWord = true := by
  unfold wAll
  simp only [List.all_append, gdr_1, gdr_2, gdr_3, gdr_4, gdr_5, gdr_6, gdr_7, gdr_8, gdr_9, gdr_10, gdr_11, gdr_12, gdr_13, gdr_14, gdr_15, gdr_16, gdr_17, gdr_18, gdr_19, gdr_20, gdr_21, gdr_22, gdr_23, gdr_24, gdr_25, gdr_26, gdr_27, gdr_28, gdr_29, gdr_30, gdr_31, gdr_32, gdr_33, gdr_34, gdr_35, gdr_36, gdr_37, gdr_38, gdr_39, gdr_40, gdr_41, gdr_42, gdr_43, gdr_44, gdr_45, gdr_46, gdl_X0, gdl_X1, gdl_X2, gdl_X3, gdl_X4, gdl_X5, gdl_X6, gdl_X7, gdl_X8, gdl_X9, gdl_X10, Bool.and_self]
theorem mc {c w : Cond} (h : w ∈ wAll) : w ∈ c :: wAll := List.mem_cons_of_mem _ h
theorem mi {c : Cond} {ws : List Cond} (h : ∀ w ∈ ws, w ∈ wAll) : ∀ w ∈ ws, w ∈ c :: wAll := fun w q => mc (h w q)
theorem gdA {w : Cond} (h : w ∈ wAll) : (w.onTables && w.keeps) = true ∨ ∃ ty, w = .arrayClass ty := good_of_word (List.all_eq_true.mp wAll_good w h)
theorem gN {c1 c2 : Cond} (h : c2 ∈ wAll) : GoodIn (c1 :: wAll) (c2 :: wAll) := fun w q => (List.mem_cons.mp q).elim (fun e => e ▸ ⟨mc h, gdA h⟩) (fun q => ⟨mc q, gdA q⟩)
theorem gV {c1 c2 : Cond} {own : String} {idx : Nat} {C : String} {y : MethodName} (h1 : .methodLink own idx y ∈ wAll) (h2 : .instanceMethod y ∈ wAll) (h3 : .selects C y y ∈ wAll) (h4 : .initialized C ∈ wAll) (h : c2 ∈ wAll) : GoodIn (c1 :: wAll) (wsV own idx C y (c2 :: wAll)) := fun w q => by
  rcases List.mem_append.mp q with q | q
  · simp only [List.mem_cons, List.not_mem_nil, or_false] at q
    rcases q with rfl | rfl | rfl | rfl
    · exact ⟨mc h1, gdA h1⟩
    · exact ⟨mc h2, gdA h2⟩
    · exact ⟨mc h3, gdA h3⟩
    · exact ⟨mc h4, gdA h4⟩
  · exact gN h w q
theorem gS {c1 c2 : Cond} {own : String} {idx : Nat} {y : MethodName} (h1 : .methodLink own idx y ∈ wAll) (h2 : .static y ∈ wAll) (h4 : .initialized y.cls ∈ wAll) (h : c2 ∈ wAll) : GoodIn (c1 :: wAll) (va_wsS own idx y (c2 :: wAll)) := fun w q => by
  rcases List.mem_append.mp q with q | q
  · simp only [List.mem_cons, List.not_mem_nil, or_false] at q
    rcases q with rfl | rfl | rfl
    · exact ⟨mc h1, gdA h1⟩
    · exact ⟨mc h2, gdA h2⟩
    · exact ⟨mc h4, gdA h4⟩
  · exact gN h w q
abbrev wq_X0_init : List Cond := .code yX0_init cX0_init 1 none :: wAll
abbrev wq_X0_startEmpty : List Cond := .code yX0_startEmpty cX0_startEmpty 1 none :: wAll
abbrev wq_X0_isFree : List Cond := .code yX0_isFree cX0_isFree 3 (some .boolean) :: wAll
abbrev wq_X0_splitBy : List Cond := .code yX0_splitBy cX0_splitBy 3 none :: wAll
abbrev wq_X0_goOn : List Cond := .code yX0_goOn cX0_goOn 1 none :: wAll
abbrev wq_X0_toggle : List Cond := .code yX0_toggle cX0_toggle 5 none :: wAll
abbrev wq_X0_ringOf : List Cond := .code yX0_ringOf cX0_ringOf 6 (some .int) :: wAll
abbrev wq_X1_init : List Cond := .code yX1_init cX1_init 4 none :: wAll
abbrev wq_X1_wrongLine : List Cond := .code yX1_wrongLine cX1_wrongLine 4 (some .int) :: wAll
abbrev wq_X1_write : List Cond := .code yX1_write cX1_write 4 (some .boolean) :: wAll
abbrev wq_X1_follow : List Cond := .code yX1_follow cX1_follow 3 none :: wAll
abbrev wq_X1_canStand : List Cond := .code yX1_canStand cX1_canStand 5 (some .boolean) :: wAll
abbrev wq_X1_pricesStand : List Cond := .code yX1_pricesStand cX1_pricesStand 2 (some .boolean) :: wAll
abbrev wq_X1_partedTwins : List Cond := .code yX1_partedTwins cX1_partedTwins 2 (some .int) :: wAll
abbrev wq_X1_standsAlone : List Cond := .code yX1_standsAlone cX1_standsAlone 3 (some .boolean) :: wAll
abbrev wq_X1_isRing : List Cond := .code yX1_isRing cX1_isRing 3 (some .boolean) :: wAll
abbrev wq_X1_writeNext : List Cond := .code yX1_writeNext cX1_writeNext 4 (some .boolean) :: wAll
abbrev wq_X1_writeTwins : List Cond := .code yX1_writeTwins cX1_writeTwins 5 (some .boolean) :: wAll
abbrev wq_X1_writeAlone : List Cond := .code yX1_writeAlone cX1_writeAlone 4 (some .boolean) :: wAll
abbrev wq_X2_init : List Cond := .code yX2_init cX2_init 2 none :: wAll
abbrev wq_X2_isLamp : List Cond := .code yX2_isLamp cX2_isLamp 2 (some .boolean) :: wAll
abbrev wq_X2_isLive : List Cond := .code yX2_isLive cX2_isLive 2 (some .boolean) :: wAll
abbrev wq_X2_liveCount : List Cond := .code yX2_liveCount cX2_liveCount 1 (some .int) :: wAll
abbrev wq_X2_firstLive : List Cond := .code yX2_firstLive cX2_firstLive 2 (some .int) :: wAll
abbrev wq_X2_worthOf : List Cond := .code yX2_worthOf cX2_worthOf 2 (some .int) :: wAll
abbrev wq_X2_worthOfLive : List Cond := .code yX2_worthOfLive cX2_worthOfLive 3 (some .int) :: wAll
abbrev wq_X2_standsAt : List Cond := .code yX2_standsAt cX2_standsAt 3 (some .boolean) :: wAll
abbrev wq_X2_raise : List Cond := .code yX2_raise cX2_raise 5 (some .int) :: wAll
abbrev wq_X2_flip : List Cond := .code yX2_flip cX2_flip 2 none :: wAll
abbrev wq_X2_survey : List Cond := .code yX2_survey cX2_survey 4 none :: wAll
abbrev wq_X2_twinOf : List Cond := .code yX2_twinOf cX2_twinOf 2 (some .int) :: wAll
abbrev wq_X2_nearest : List Cond := .code yX2_nearest cX2_nearest 5 (some .int) :: wAll
abbrev wq_X2_tieTwins : List Cond := .code yX2_tieTwins cX2_tieTwins 3 none :: wAll
abbrev wq_X3_init : List Cond := .code yX3_init cX3_init 1 none :: wAll
abbrev wq_X3_hasLine : List Cond := .code yX3_hasLine cX3_hasLine 2 (some .boolean) :: wAll
abbrev wq_X3_write : List Cond := .code yX3_write cX3_write 5 none :: wAll
abbrev wq_X3_append : List Cond := .code yX3_append cX3_append 4 none :: wAll
abbrev wq_X3_copyFrom : List Cond := .code yX3_copyFrom cX3_copyFrom 2 none :: wAll
abbrev wq_X4_init : List Cond := .code yX4_init cX4_init 1 none :: wAll
abbrev wq_X4_isNumber : List Cond := .code yX4_isNumber cX4_isNumber 2 (some .boolean) :: wAll
abbrev wq_X4_isMissing : List Cond := .code yX4_isMissing cX4_isMissing 2 (some .boolean) :: wAll
abbrev wq_X4_hasCell : List Cond := .code yX4_hasCell cX4_hasCell 3 (some .boolean) :: wAll
abbrev wq_X4_make : List Cond := .code yX4_make cX4_make 4 none :: wAll
abbrev wq_X4_write : List Cond := .code yX4_write cX4_write 5 none :: wAll
abbrev wq_X4_drop : List Cond := .code yX4_drop cX4_drop 2 none :: wAll
abbrev wq_X5_init : List Cond := .code yX5_init cX5_init 2 none :: wAll
abbrev wq_X5_begin : List Cond := .code yX5_begin cX5_begin 2 none :: wAll
abbrev wq_X5_tie : List Cond := .code yX5_tie cX5_tie 4 none :: wAll
abbrev wq_X5_run : List Cond := .code yX5_run cX5_run 1 (some .boolean) :: wAll
abbrev wq_X5_isHungTogether : List Cond := .code yX5_isHungTogether cX5_isHungTogether 2 (some .boolean) :: wAll
abbrev wq_X5_extend : List Cond := .code yX5_extend cX5_extend 8 none :: wAll
abbrev wq_X5_mayFollow : List Cond := .code yX5_mayFollow cX5_mayFollow 4 (some .boolean) :: wAll
abbrev wq_X5_isContent : List Cond := .code yX5_isContent cX5_isContent 4 (some .boolean) :: wAll
abbrev wq_X5_finish : List Cond := .code yX5_finish cX5_finish 5 none :: wAll
abbrev wq_X5_isShunned : List Cond := .code yX5_isShunned cX5_isShunned 2 (some .boolean) :: wAll
abbrev wq_X6_init : List Cond := .code yX6_init cX6_init 2 none :: wAll
abbrev wq_X6_isWhole : List Cond := .code yX6_isWhole cX6_isWhole 1 (some .boolean) :: wAll
abbrev wq_X6_holds : List Cond := .code yX6_holds cX6_holds 3 (some .boolean) :: wAll
abbrev wq_X6_append : List Cond := .code yX6_append cX6_append 2 (some .int) :: wAll
abbrev wq_X6_empty : List Cond := .code yX6_empty cX6_empty 2 (some .int) :: wAll
abbrev wq_X6_copyFrom : List Cond := .code yX6_copyFrom cX6_copyFrom 3 none :: wAll
abbrev wq_X6_measure : List Cond := .code yX6_measure cX6_measure 3 (some .int) :: wAll
abbrev wq_X6_keepsTwins : List Cond := .code yX6_keepsTwins cX6_keepsTwins 3 (some .boolean) :: wAll
abbrev wq_X6_reverse : List Cond := .code yX6_reverse cX6_reverse 6 none :: wAll
abbrev wq_X6_turnFirstShorter : List Cond := .code yX6_turnFirstShorter cX6_turnFirstShorter 4 (some .boolean) :: wAll
abbrev wq_X6_isShorterTurned : List Cond := .code yX6_isShorterTurned cX6_isShorterTurned 7 (some .boolean) :: wAll
abbrev wq_X6_writeOut : List Cond := .code yX6_writeOut cX6_writeOut 6 none :: wAll
abbrev wq_X6_after : List Cond := .code yX6_after cX6_after 2 (some .int) :: wAll
abbrev wq_X6_before : List Cond := .code yX6_before cX6_before 2 (some .int) :: wAll
abbrev wq_X7_init : List Cond := .code yX7_init cX7_init 1 none :: wAll
abbrev wq_X7_isLane : List Cond := .code yX7_isLane cX7_isLane 2 (some .boolean) :: wAll
abbrev wq_X7_build : List Cond := .code yX7_build cX7_build 5 (some .int) :: wAll
abbrev wq_X7_resize : List Cond := .code yX7_resize cX7_resize 4 none :: wAll
abbrev wq_X7_forgetWays : List Cond := .code yX7_forgetWays cX7_forgetWays 1 none :: wAll
abbrev wq_X7_waysFrom : List Cond := .code yX7_waysFrom cX7_waysFrom 2 (some (.array .int)) :: wAll
abbrev wq_X7_reckon : List Cond := .code yX7_reckon cX7_reckon 6 none :: wAll
abbrev wq_X7_shorten : List Cond := .code yX7_shorten cX7_shorten 5 (some .boolean) :: wAll
abbrev wq_X7_crossingOnWalk : List Cond := .code yX7_crossingOnWalk cX7_crossingOnWalk 7 (some .int) :: wAll
abbrev wq_X7_nextOnWalk : List Cond := .code yX7_nextOnWalk cX7_nextOnWalk 6 (some .int) :: wAll
abbrev wq_X7_farEnd : List Cond := .code yX7_farEnd cX7_farEnd 3 (some .int) :: wAll
abbrev wq_X8_init : List Cond := .code yX8_init cX8_init 3 none :: wAll
abbrev wq_X8_rank : List Cond := .code yX8_rank cX8_rank 3 none :: wAll
abbrev wq_X8_rankAnew : List Cond := .code yX8_rankAnew cX8_rankAnew 2 none :: wAll
abbrev wq_X8_keyOf : List Cond := .code yX8_keyOf cX8_keyOf 5 (some .long) :: wAll
abbrev wq_X8_sort : List Cond := .code yX8_sort cX8_sort 5 none :: wAll
abbrev wq_X8_pairAt : List Cond := .code yX8_pairAt cX8_pairAt 2 (some .int) :: wAll
abbrev wq_X8_pricedAt : List Cond := .code yX8_pricedAt cX8_pricedAt 2 (some .long) :: wAll
abbrev wq_X8_firstFreePair : List Cond := .code yX8_firstFreePair cX8_firstFreePair 3 (some .int) :: wAll
abbrev wq_X8_grow : List Cond := .code yX8_grow cX8_grow 2 none :: wAll
abbrev wq_X8_takeOthers : List Cond := .code yX8_takeOthers cX8_takeOthers 7 none :: wAll
abbrev wq_X8_takeOfFirst : List Cond := .code yX8_takeOfFirst cX8_takeOfFirst 4 none :: wAll
abbrev wq_X8_mayTake : List Cond := .code yX8_mayTake cX8_mayTake 5 (some .boolean) :: wAll
abbrev wq_X8_take : List Cond := .code yX8_take cX8_take 5 none :: wAll
abbrev wq_X8_sumOfCase : List Cond := .code yX8_sumOfCase cX8_sumOfCase 5 (some .long) :: wAll
abbrev wq_X8_raisePrices : List Cond := .code yX8_raisePrices cX8_raisePrices 2 none :: wAll
abbrev wq_X9_init : List Cond := .code yX9_init cX9_init 1 none :: wAll
abbrev wq_X9_lane : List Cond := .code yX9_lane cX9_lane 5 (some .int) :: wAll
abbrev wq_X9_open : List Cond := .code yX9_open cX9_open 3 (some .int) :: wAll
abbrev wq_X9_about : List Cond := .code yX9_about cX9_about 3 (some .int) :: wAll
abbrev wq_X9_row : List Cond := .code yX9_row cX9_row 4 (some .int) :: wAll
abbrev wq_X9_cell : List Cond := .code yX9_cell cX9_cell 5 (some .int) :: wAll
abbrev wq_X9_told : List Cond := .code yX9_told cX9_told 3 (some .long) :: wAll
abbrev wq_X9_lose : List Cond := .code yX9_lose cX9_lose 2 (some .int) :: wAll
abbrev wq_X9_lay : List Cond := .code yX9_lay cX9_lay 6 (some .int) :: wAll
abbrev wq_X9_way : List Cond := .code yX9_way cX9_way 4 (some .int) :: wAll
abbrev wq_X9_walk : List Cond := .code yX9_walk cX9_walk 4 (some .int) :: wAll
abbrev wq_X9_lamp : List Cond := .code yX9_lamp cX9_lamp 5 (some .int) :: wAll
abbrev wq_X9_dark : List Cond := .code yX9_dark cX9_dark 3 (some .int) :: wAll
abbrev wq_X9_twin : List Cond := .code yX9_twin cX9_twin 2 (some .int) :: wAll
abbrev wq_X9_of : List Cond := .code yX9_of cX9_of 3 (some .int) :: wAll
abbrev wq_X9_many : List Cond := .code yX9_many cX9_many 2 (some .int) :: wAll
abbrev wq_X9_least : List Cond := .code yX9_least cX9_least 1 (some .int) :: wAll
abbrev wq_X9_second : List Cond := .code yX9_second cX9_second 1 (some .int) :: wAll
abbrev wq_X9_with : List Cond := .code yX9_with cX9_with 4 (some .int) :: wAll
abbrev wq_X9_put : List Cond := .code yX9_put cX9_put 2 (some .int) :: wAll
abbrev wq_X9_clear : List Cond := .code yX9_clear cX9_clear 1 (some .int) :: wAll
abbrev wq_X9_at : List Cond := .code yX9_at cX9_at 2 (some .int) :: wAll
abbrev wq_X9_length : List Cond := .code yX9_length cX9_length 2 (some .int) :: wAll
abbrev wq_X9_keeps : List Cond := .code yX9_keeps cX9_keeps 1 (some .int) :: wAll
abbrev wq_X9_turn : List Cond := .code yX9_turn cX9_turn 3 (some .int) :: wAll
abbrev wq_X9_better : List Cond := .code yX9_better cX9_better 2 (some .int) :: wAll
abbrev wq_X9_price : List Cond := .code yX9_price cX9_price 3 (some .int) :: wAll
abbrev wq_X9_climb : List Cond := .code yX9_climb cX9_climb 3 (some .int) :: wAll
abbrev wq_X9_bound : List Cond := .code yX9_bound cX9_bound 1 (some .long) :: wAll
abbrev wq_X9_taken : List Cond := .code yX9_taken cX9_taken 2 (some .int) :: wAll
abbrev wq_X9_prove : List Cond := .code yX9_prove cX9_prove 2 (some .int) :: wAll
abbrev wq_X9_line : List Cond := .code yX9_line cX9_line 4 (some .int) :: wAll
abbrev wq_X9_alter : List Cond := .code yX9_alter cX9_alter 5 (some .int) :: wAll
abbrev wq_X9_cut : List Cond := .code yX9_cut cX9_cut 2 (some .int) :: wAll
abbrev wq_X9_shown : List Cond := .code yX9_shown cX9_shown 3 (some .int) :: wAll
abbrev wq_X9_check : List Cond := .code yX9_check cX9_check 2 (some .int) :: wAll
abbrev wq_X9_isCrossing : List Cond := .code yX9_isCrossing cX9_isCrossing 1 (some .boolean) :: wAll
abbrev wq_X9_isLength : List Cond := .code yX9_isLength cX9_isLength 2 (some .boolean) :: wAll
abbrev wq_X9_isOp : List Cond := .code yX9_isOp cX9_isOp 1 (some .boolean) :: wAll
abbrev wq_X9_isIn : List Cond := .code yX9_isIn cX9_isIn 2 (some .boolean) :: wAll
abbrev wq_X9_pairOf : List Cond := .code yX9_pairOf cX9_pairOf 2 (some .int) :: wAll
abbrev wq_X9_lesserOf : List Cond := .code yX9_lesserOf cX9_lesserOf 1 (some .int) :: wAll
abbrev wq_X9_greaterOf : List Cond := .code yX9_greaterOf cX9_greaterOf 1 (some .int) :: wAll
abbrev wq_X9_isLarge : List Cond := .code yX9_isLarge cX9_isLarge 1 (some .boolean) :: wAll
abbrev wq_X9_isTooSmall : List Cond := .code yX9_isTooSmall cX9_isTooSmall 1 (some .boolean) :: wAll
abbrev wq_X9_lanesChanged : List Cond := .code yX9_lanesChanged cX9_lanesChanged 1 none :: wAll
abbrev wq_X9_lampsChanged : List Cond := .code yX9_lampsChanged cX9_lampsChanged 1 none :: wAll
abbrev wq_X9_beginEmptyCase : List Cond := .code yX9_beginEmptyCase cX9_beginEmptyCase 1 none :: wAll
abbrev wq_X9_growEmptyCase : List Cond := .code yX9_growEmptyCase cX9_growEmptyCase 1 none :: wAll
abbrev wq_X10_init : List Cond := .code yX10_init cX10_init 2 none :: wAll
abbrev wq_X10_work : List Cond := .code yX10_work cX10_work 4 none :: wAll
abbrev wq_X10_isCrossing : List Cond := .code yX10_isCrossing cX10_isCrossing 1 (some .boolean) :: wAll
abbrev wq_X10_isLane : List Cond := .code yX10_isLane cX10_isLane 2 (some .boolean) :: wAll
abbrev wq_X10_isLamp : List Cond := .code yX10_isLamp cX10_isLamp 2 (some .boolean) :: wAll
abbrev wq_X10_isLit : List Cond := .code yX10_isLit cX10_isLit 2 (some .boolean) :: wAll
abbrev wq_X10_lit : List Cond := .code yX10_lit cX10_lit 3 (some .int) :: wAll
abbrev wq_X10_between : List Cond := .code yX10_between cX10_between 3 (some .int) :: wAll
abbrev wq_X10_lane : List Cond := .code yX10_lane cX10_lane 4 (some .int) :: wAll
abbrev wq_X10_open : List Cond := .code yX10_open cX10_open 3 (some .int) :: wAll
abbrev wq_X10_about : List Cond := .code yX10_about cX10_about 3 (some .int) :: wAll
abbrev wq_X10_isRow : List Cond := .code yX10_isRow cX10_isRow 1 (some .boolean) :: wAll
abbrev wq_X10_row : List Cond := .code yX10_row cX10_row 5 (some .int) :: wAll
abbrev wq_X10_cell : List Cond := .code yX10_cell cX10_cell 5 (some .int) :: wAll
abbrev wq_X10_told : List Cond := .code yX10_told cX10_told 3 (some .long) :: wAll
abbrev wq_X10_lose : List Cond := .code yX10_lose cX10_lose 2 (some .int) :: wAll
abbrev wq_X10_lay : List Cond := .code yX10_lay cX10_lay 8 (some .int) :: wAll
abbrev wq_X10_way : List Cond := .code yX10_way cX10_way 4 (some .int) :: wAll
abbrev wq_X10_next : List Cond := .code yX10_next cX10_next 6 (some .int) :: wAll
abbrev wq_X10_walk : List Cond := .code yX10_walk cX10_walk 6 (some .int) :: wAll
abbrev wq_X10_lamp : List Cond := .code yX10_lamp cX10_lamp 5 (some .int) :: wAll
abbrev wq_X10_dark : List Cond := .code yX10_dark cX10_dark 3 (some .int) :: wAll
abbrev wq_X10_twinOf : List Cond := .code yX10_twinOf cX10_twinOf 4 (some .int) :: wAll
abbrev wq_X10_twin : List Cond := .code yX10_twin cX10_twin 2 (some .int) :: wAll
abbrev wq_X10_of : List Cond := .code yX10_of cX10_of 3 (some .int) :: wAll
abbrev wq_X10_many : List Cond := .code yX10_many cX10_many 4 (some .int) :: wAll
abbrev wq_X10_lengthOf : List Cond := .code yX10_lengthOf cX10_lengthOf 6 (some .int) :: wAll
abbrev wq_X10_placeOf : List Cond := .code yX10_placeOf cX10_placeOf 5 (some .int) :: wAll
abbrev wq_X10_areBeside : List Cond := .code yX10_areBeside cX10_areBeside 5 (some .boolean) :: wAll
abbrev wq_X10_keepsTwins : List Cond := .code yX10_keepsTwins cX10_keepsTwins 6 (some .boolean) :: wAll
abbrev wq_X10_nextOrder : List Cond := .code yX10_nextOrder cX10_nextOrder 6 (some .boolean) :: wAll
abbrev wq_X10_swap : List Cond := .code yX10_swap cX10_swap 4 none :: wAll
abbrev wq_X10_isWritten : List Cond := .code yX10_isWritten cX10_isWritten 4 (some .boolean) :: wAll
abbrev wq_X10_search : List Cond := .code yX10_search cX10_search 10 (some .int) :: wAll
abbrev wq_X10_least : List Cond := .code yX10_least cX10_least 3 (some .int) :: wAll
abbrev wq_X10_isWhole : List Cond := .code yX10_isWhole cX10_isWhole 1 (some .boolean) :: wAll
abbrev wq_X10_write : List Cond := .code yX10_write cX10_write 4 none :: wAll
abbrev wq_X10_second : List Cond := .code yX10_second cX10_second 2 (some .int) :: wAll
abbrev wq_X10_with : List Cond := .code yX10_with cX10_with 5 (some .int) :: wAll
abbrev wq_X10_put : List Cond := .code yX10_put cX10_put 2 (some .int) :: wAll
abbrev wq_X10_clear : List Cond := .code yX10_clear cX10_clear 2 (some .int) :: wAll
abbrev wq_X10_at : List Cond := .code yX10_at cX10_at 2 (some .int) :: wAll
abbrev wq_X10_length : List Cond := .code yX10_length cX10_length 2 (some .int) :: wAll
abbrev wq_X10_keeps : List Cond := .code yX10_keeps cX10_keeps 1 (some .int) :: wAll
abbrev wq_X10_turnRound : List Cond := .code yX10_turnRound cX10_turnRound 6 none :: wAll
abbrev wq_X10_turn : List Cond := .code yX10_turn cX10_turn 3 (some .int) :: wAll
abbrev wq_X10_betters : List Cond := .code yX10_betters cX10_betters 5 (some .boolean) :: wAll
abbrev wq_X10_better : List Cond := .code yX10_better cX10_better 3 (some .int) :: wAll
abbrev wq_X10_pairOf : List Cond := .code yX10_pairOf cX10_pairOf 2 (some .int) :: wAll
abbrev wq_X10_freeAll : List Cond := .code yX10_freeAll cX10_freeAll 2 none :: wAll
abbrev wq_X10_priced : List Cond := .code yX10_priced cX10_priced 4 (some .long) :: wAll
abbrev wq_X10_isPair : List Cond := .code yX10_isPair cX10_isPair 2 (some .boolean) :: wAll
abbrev wq_X10_hasWay : List Cond := .code yX10_hasWay cX10_hasWay 2 (some .boolean) :: wAll
abbrev wq_X10_isAhead : List Cond := .code yX10_isAhead cX10_isAhead 3 (some .boolean) :: wAll
abbrev wq_X10_first : List Cond := .code yX10_first cX10_first 2 (some .int) :: wAll
abbrev wq_X10_nextPair : List Cond := .code yX10_nextPair cX10_nextPair 8 (some .int) :: wAll
abbrev wq_X10_take : List Cond := .code yX10_take cX10_take 5 none :: wAll
abbrev wq_X10_tree : List Cond := .code yX10_tree cX10_tree 7 (some .long) :: wAll
abbrev wq_X10_price : List Cond := .code yX10_price cX10_price 3 (some .int) :: wAll
abbrev wq_X10_climb : List Cond := .code yX10_climb cX10_climb 5 (some .int) :: wAll
abbrev wq_X10_bound : List Cond := .code yX10_bound cX10_bound 1 (some .long) :: wAll
abbrev wq_X10_taken : List Cond := .code yX10_taken cX10_taken 4 (some .int) :: wAll
abbrev wq_X10_pushCase : List Cond := .code yX10_pushCase cX10_pushCase 2 none :: wAll
abbrev wq_X10_popCase : List Cond := .code yX10_popCase cX10_popCase 2 none :: wAll
abbrev wq_X10_joinedOf : List Cond := .code yX10_joinedOf cX10_joinedOf 4 (some .int) :: wAll
abbrev wq_X10_isFew : List Cond := .code yX10_isFew cX10_isFew 4 (some .boolean) :: wAll
abbrev wq_X10_isMany : List Cond := .code yX10_isMany cX10_isMany 2 (some .boolean) :: wAll
abbrev wq_X10_isRing : List Cond := .code yX10_isRing cX10_isRing 6 (some .boolean) :: wAll
abbrev wq_X10_isTwins : List Cond := .code yX10_isTwins cX10_isTwins 3 (some .boolean) :: wAll
abbrev wq_X10_isPart : List Cond := .code yX10_isPart cX10_isPart 3 (some .boolean) :: wAll
abbrev wq_X10_stands : List Cond := .code yX10_stands cX10_stands 5 (some .boolean) :: wAll
abbrev wq_X10_part : List Cond := .code yX10_part cX10_part 3 none :: wAll
abbrev wq_X10_write_ : List Cond := .code yX10_write_ cX10_write_ 4 (some .boolean) :: wAll
abbrev wq_X10_ending : List Cond := .code yX10_ending cX10_ending 4 (some .int) :: wAll
abbrev wq_X10_freePair : List Cond := .code yX10_freePair cX10_freePair 4 (some .int) :: wAll
abbrev wq_X10_prove : List Cond := .code yX10_prove cX10_prove 4 (some .int) :: wAll
abbrev wq_X10_line : List Cond := .code yX10_line cX10_line 4 (some .int) :: wAll
abbrev wq_X10_alter : List Cond := .code yX10_alter cX10_alter 5 (some .int) :: wAll
abbrev wq_X10_cut : List Cond := .code yX10_cut cX10_cut 2 (some .int) :: wAll
abbrev wq_X10_shown : List Cond := .code yX10_shown cX10_shown 3 (some .int) :: wAll
abbrev wq_X10_check : List Cond := .code yX10_check cX10_check 3 (some .int) :: wAll
abbrev wq_J6_bitCount_0f7a4 : List Cond := .code yJ6_bitCount_0f7a4 cJ6_bitCount_0f7a4 1 (some .int) :: wAll
abbrev wq_J7_fill_d0a16 : List Cond := .code yJ7_fill_d0a16 cJ7_fill_d0a16 5 none :: wAll
abbrev wq_J7_fill_53178 : List Cond := .code yJ7_fill_53178 cJ7_fill_53178 4 none :: wAll
