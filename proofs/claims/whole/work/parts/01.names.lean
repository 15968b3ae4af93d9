abbrev RX0 : String := "OneOfTwo$Cougher"
def TX0 : u_T := fun k => match k with
  | _ => ("OneOfTwo$Lodger", "number", "I", true)
def tyX0 : Nat → FieldType := fun k => match k with
  | _ => .int
theorem nmX0 : ∀ a, a < 1 → ∀ b, b < 1 → a ≠ b → (TX0 a).2.1 ≠ (TX0 b).2.1 := by decide +kernel
theorem tyX0_ok : ∀ k, k < 1 → parseFieldDescriptor (TX0 k).2.2.1 = some (tyX0 k) := by decide +kernel
abbrev cX0_init : ByteArray := prog_2_method_1_code
abbrev yX0_init : MethodName := ⟨RX0, "<init>", "(I)V"⟩
abbrev cX0_leastAir : ByteArray := prog_2_method_2_code
abbrev yX0_leastAir : MethodName := ⟨RX0, "leastAir", "(I)I"⟩
abbrev cX0_mostAir : ByteArray := prog_2_method_3_code
abbrev yX0_mostAir : MethodName := ⟨RX0, "mostAir", "(I)I"⟩
abbrev cX0_pulls : ByteArray := prog_2_method_4_code
abbrev yX0_pulls : MethodName := ⟨RX0, "pulls", "(IIILOneOfTwo$Row;)I"⟩
abbrev RX1 : String := "OneOfTwo$Fevered"
def TX1 : u_T := fun k => match k with
  | _ => ("OneOfTwo$Lodger", "number", "I", true)
def tyX1 : Nat → FieldType := fun k => match k with
  | _ => .int
theorem nmX1 : ∀ a, a < 1 → ∀ b, b < 1 → a ≠ b → (TX1 a).2.1 ≠ (TX1 b).2.1 := by decide +kernel
theorem tyX1_ok : ∀ k, k < 1 → parseFieldDescriptor (TX1 k).2.2.1 = some (tyX1 k) := by decide +kernel
abbrev cX1_init : ByteArray := prog_3_method_1_code
abbrev yX1_init : MethodName := ⟨RX1, "<init>", "(I)V"⟩
abbrev cX1_leastAir : ByteArray := prog_3_method_2_code
abbrev yX1_leastAir : MethodName := ⟨RX1, "leastAir", "(I)I"⟩
abbrev cX1_mostAir : ByteArray := prog_3_method_3_code
abbrev yX1_mostAir : MethodName := ⟨RX1, "mostAir", "(I)I"⟩
abbrev cX1_pulls : ByteArray := prog_3_method_4_code
abbrev yX1_pulls : MethodName := ⟨RX1, "pulls", "(IIILOneOfTwo$Row;)I"⟩
abbrev RX2 : String := "OneOfTwo$House"
def TX2 : u_T := fun k => match k with
  | 0 => ("OneOfTwo$House", "windows", "I", false)
  | 1 => ("OneOfTwo$House", "cords", "I", false)
  | 2 => ("OneOfTwo$House", "lodgers", "I", false)
  | 3 => ("OneOfTwo$House", "room", "[I", true)
  | 4 => ("OneOfTwo$House", "open", "[I", true)
  | 5 => ("OneOfTwo$House", "cordOf", "[I", true)
  | 6 => ("OneOfTwo$House", "swollen", "[I", true)
  | 7 => ("OneOfTwo$House", "kind", "[LOneOfTwo$Lodger;", true)
  | 8 => ("OneOfTwo$House", "m", "[I", true)
  | 9 => ("OneOfTwo$House", "at", "[I", true)
  | 10 => ("OneOfTwo$House", "hour", "I", false)
  | 11 => ("OneOfTwo$House", "day", "I", false)
  | 12 => ("OneOfTwo$House", "quiet", "I", false)
  | 13 => ("OneOfTwo$House", "lockFrom", "I", false)
  | 14 => ("OneOfTwo$House", "lockTo", "I", false)
  | 15 => ("OneOfTwo$House", "z", "I", false)
  | 16 => ("OneOfTwo$House", "tape", "LOneOfTwo$Row;", true)
  | 17 => ("OneOfTwo$House", "waiting", "LOneOfTwo$Row;", true)
  | _ => ("OneOfTwo$House", "laws", "[LOneOfTwo$Text;", true)
def tyX2 : Nat → FieldType := fun k => match k with
  | 0 => .int
  | 1 => .int
  | 2 => .int
  | 3 => .array .int
  | 4 => .array .int
  | 5 => .array .int
  | 6 => .array .int
  | 7 => .array (.object "OneOfTwo$Lodger")
  | 8 => .array .int
  | 9 => .array .int
  | 10 => .int
  | 11 => .int
  | 12 => .int
  | 13 => .int
  | 14 => .int
  | 15 => .int
  | 16 => .object "OneOfTwo$Row"
  | 17 => .object "OneOfTwo$Row"
  | _ => .array (.object "OneOfTwo$Text")
theorem nmX2 : ∀ a, a < 19 → ∀ b, b < 19 → a ≠ b → (TX2 a).2.1 ≠ (TX2 b).2.1 := by decide +kernel
theorem tyX2_ok : ∀ k, k < 19 → parseFieldDescriptor (TX2 k).2.2.1 = some (tyX2 k) := by decide +kernel
abbrev cX2_init : ByteArray := prog_4_method_1_code
abbrev yX2_init : MethodName := ⟨RX2, "<init>", "(LOneOfTwo$Lodger;)V"⟩
abbrev cX2_copyFrom : ByteArray := prog_4_method_2_code
abbrev yX2_copyFrom : MethodName := ⟨RX2, "copyFrom", "(LOneOfTwo$House;)V"⟩
abbrev cX2_addWindow : ByteArray := prog_4_method_3_code
abbrev yX2_addWindow : MethodName := ⟨RX2, "addWindow", "(II)I"⟩
abbrev cX2_addCord : ByteArray := prog_4_method_4_code
abbrev yX2_addCord : MethodName := ⟨RX2, "addCord", "(I)I"⟩
abbrev cX2_takeOffCord : ByteArray := prog_4_method_5_code
abbrev yX2_takeOffCord : MethodName := ⟨RX2, "takeOffCord", "()I"⟩
abbrev cX2_settle : ByteArray := prog_4_method_6_code
abbrev yX2_settle : MethodName := ⟨RX2, "settle", "(ILOneOfTwo$Lodger;I)V"⟩
abbrev cX2_setOf : ByteArray := prog_4_method_7_code
abbrev yX2_setOf : MethodName := ⟨RX2, "setOf", "(I)I"⟩
abbrev cX2_hanging : ByteArray := prog_4_method_8_code
abbrev yX2_hanging : MethodName := ⟨RX2, "hanging", "()I"⟩
abbrev cX2_swollenSet : ByteArray := prog_4_method_9_code
abbrev yX2_swollenSet : MethodName := ⟨RX2, "swollenSet", "()I"⟩
abbrev cX2_openOf : ByteArray := prog_4_method_10_code
abbrev yX2_openOf : MethodName := ⟨RX2, "openOf", "(I)I"⟩
abbrev cX2_firstUnlike : ByteArray := prog_4_method_11_code
abbrev yX2_firstUnlike : MethodName := ⟨RX2, "firstUnlike", "(LOneOfTwo$Row;)I"⟩
abbrev cX2_isLocked : ByteArray := prog_4_method_12_code
abbrev yX2_isLocked : MethodName := ⟨RX2, "isLocked", "()Z"⟩
abbrev cX2_canPull : ByteArray := prog_4_method_13_code
abbrev yX2_canPull : MethodName := ⟨RX2, "canPull", "(II)Z"⟩
abbrev cX2_pullBy : ByteArray := prog_4_method_14_code
abbrev yX2_pullBy : MethodName := ⟨RX2, "pullBy", "(II)V"⟩
abbrev cX2_hangOtherwise : ByteArray := prog_4_method_15_code
abbrev yX2_hangOtherwise : MethodName := ⟨RX2, "hangOtherwise", "(II)V"⟩
abbrev cX2_openIn : ByteArray := prog_4_method_16_code
abbrev yX2_openIn : MethodName := ⟨RX2, "openIn", "(I)I"⟩
abbrev cX2_openBeside : ByteArray := prog_4_method_17_code
abbrev yX2_openBeside : MethodName := ⟨RX2, "openBeside", "(I)I"⟩
abbrev cX2_airOf : ByteArray := prog_4_method_18_code
abbrev yX2_airOf : MethodName := ⟨RX2, "airOf", "(I)I"⟩
abbrev cX2_airBy : ByteArray := prog_4_method_19_code
abbrev yX2_airBy : MethodName := ⟨RX2, "airBy", "(II)I"⟩
abbrev cX2_heldAir : ByteArray := prog_4_method_20_code
abbrev yX2_heldAir : MethodName := ⟨RX2, "heldAir", "(I)I"⟩
abbrev cX2_memoPlace : ByteArray := prog_4_method_21_code
abbrev yX2_memoPlace : MethodName := ⟨RX2, "memoPlace", "(II)I"⟩
abbrev cX2_lawBy : ByteArray := prog_4_method_22_code
abbrev yX2_lawBy : MethodName := ⟨RX2, "lawBy", "(IIII)I"⟩
abbrev cX2_isContentBy : ByteArray := prog_4_method_23_code
abbrev yX2_isContentBy : MethodName := ⟨RX2, "isContentBy", "(II)Z"⟩
abbrev cX2_isContent : ByteArray := prog_4_method_24_code
abbrev yX2_isContent : MethodName := ⟨RX2, "isContent", "(I)Z"⟩
abbrev cX2_contentSet : ByteArray := prog_4_method_25_code
abbrev yX2_contentSet : MethodName := ⟨RX2, "contentSet", "()I"⟩
abbrev cX2_farFromWanted : ByteArray := prog_4_method_26_code
abbrev yX2_farFromWanted : MethodName := ⟨RX2, "farFromWanted", "(II)I"⟩
abbrev cX2_turnOf : ByteArray := prog_4_method_27_code
abbrev yX2_turnOf : MethodName := ⟨RX2, "turnOf", "(I)I"⟩
abbrev cX2_pairToPull : ByteArray := prog_4_method_28_code
abbrev yX2_pairToPull : MethodName := ⟨RX2, "pairToPull", "(I)I"⟩
abbrev cX2_ofOne : ByteArray := prog_4_method_29_code
abbrev yX2_ofOne : MethodName := ⟨RX2, "ofOne", "(Z)I"⟩
abbrev cX2_turnOfAll : ByteArray := prog_4_method_30_code
abbrev yX2_turnOfAll : MethodName := ⟨RX2, "turnOfAll", "()I"⟩
abbrev cX2_passHour : ByteArray := prog_4_method_31_code
abbrev yX2_passHour : MethodName := ⟨RX2, "passHour", "()V"⟩
abbrev cX2_draw : ByteArray := prog_4_method_32_code
abbrev yX2_draw : MethodName := ⟨RX2, "draw", "()I"⟩
abbrev cX2_pullByDraws : ByteArray := prog_4_method_33_code
abbrev yX2_pullByDraws : MethodName := ⟨RX2, "pullByDraws", "()V"⟩
abbrev RX3 : String := "OneOfTwo$Lodger"
def TX3 : u_T := fun k => match k with
  | _ => ("OneOfTwo$Lodger", "number", "I", true)
def tyX3 : Nat → FieldType := fun k => match k with
  | _ => .int
theorem nmX3 : ∀ a, a < 1 → ∀ b, b < 1 → a ≠ b → (TX3 a).2.1 ≠ (TX3 b).2.1 := by decide +kernel
theorem tyX3_ok : ∀ k, k < 1 → parseFieldDescriptor (TX3 k).2.2.1 = some (tyX3 k) := by decide +kernel
abbrev cX3_init : ByteArray := prog_5_method_1_code
abbrev yX3_init : MethodName := ⟨RX3, "<init>", "(I)V"⟩
abbrev cX3_leastAir : ByteArray := prog_5_method_2_code
abbrev yX3_leastAir : MethodName := ⟨RX3, "leastAir", "(I)I"⟩
abbrev cX3_mostAir : ByteArray := prog_5_method_3_code
abbrev yX3_mostAir : MethodName := ⟨RX3, "mostAir", "(I)I"⟩
abbrev cX3_strength : ByteArray := prog_5_method_4_code
abbrev yX3_strength : MethodName := ⟨RX3, "strength", "()I"⟩
abbrev cX3_pleased : ByteArray := prog_5_method_5_code
abbrev yX3_pleased : MethodName := ⟨RX3, "pleased", "(ZI)Z"⟩
abbrev cX3_wakes : ByteArray := prog_5_method_6_code
abbrev yX3_wakes : MethodName := ⟨RX3, "wakes", "(IIILOneOfTwo$Row;)I"⟩
abbrev cX3_pulls : ByteArray := prog_5_method_7_code
abbrev yX3_pulls : MethodName := ⟨RX3, "pulls", "(IIILOneOfTwo$Row;)I"⟩
abbrev cX3_shuts : ByteArray := prog_5_method_8_code
abbrev yX3_shuts : MethodName := ⟨RX3, "shuts", "(IIILOneOfTwo$Row;)I"⟩
abbrev cX3_tells : ByteArray := prog_5_method_9_code
abbrev yX3_tells : MethodName := ⟨RX3, "tells", "(IIILOneOfTwo$Row;)I"⟩
abbrev RX4 : String := "OneOfTwo$Row"
def TX4 : u_T := fun k => match k with
  | 0 => ("OneOfTwo$Row", "cells", "[I", true)
  | 1 => ("OneOfTwo$Row", "length", "I", false)
  | _ => ("OneOfTwo$Row", "bits", "I", false)
def tyX4 : Nat → FieldType := fun k => match k with
  | 0 => .array .int
  | 1 => .int
  | _ => .int
theorem nmX4 : ∀ a, a < 3 → ∀ b, b < 3 → a ≠ b → (TX4 a).2.1 ≠ (TX4 b).2.1 := by decide +kernel
theorem tyX4_ok : ∀ k, k < 3 → parseFieldDescriptor (TX4 k).2.2.1 = some (tyX4 k) := by decide +kernel
abbrev cX4_init : ByteArray := prog_6_method_1_code
abbrev yX4_init : MethodName := ⟨RX4, "<init>", "(I)V"⟩
abbrev cX4_add : ByteArray := prog_6_method_2_code
abbrev yX4_add : MethodName := ⟨RX4, "add", "(I)V"⟩
abbrev cX4_start : ByteArray := prog_6_method_3_code
abbrev yX4_start : MethodName := ⟨RX4, "start", "(II)V"⟩
abbrev cX4_holds : ByteArray := prog_6_method_4_code
abbrev yX4_holds : MethodName := ⟨RX4, "holds", "(II)Z"⟩
abbrev cX4_copyFrom : ByteArray := prog_6_method_5_code
abbrev yX4_copyFrom : MethodName := ⟨RX4, "copyFrom", "(LOneOfTwo$Row;)V"⟩
abbrev RX5 : String := "OneOfTwo$Search"
def TX5 : u_T := fun k => match k with
  | 0 => ("OneOfTwo$Search", "house", "LOneOfTwo$House;", true)
  | 1 => ("OneOfTwo$Search", "row", "[I", true)
  | 2 => ("OneOfTwo$Search", "roomOpen", "[I", true)
  | 3 => ("OneOfTwo$Search", "cordRest", "[I", true)
  | 4 => ("OneOfTwo$Search", "cordLeft", "[I", true)
  | 5 => ("OneOfTwo$Search", "cordLast", "[I", true)
  | 6 => ("OneOfTwo$Search", "settled", "[I", true)
  | 7 => ("OneOfTwo$Search", "best", "[I", true)
  | 8 => ("OneOfTwo$Search", "bestContent", "I", false)
  | _ => ("OneOfTwo$Search", "bestPulls", "I", false)
def tyX5 : Nat → FieldType := fun k => match k with
  | 0 => .object "OneOfTwo$House"
  | 1 => .array .int
  | 2 => .array .int
  | 3 => .array .int
  | 4 => .array .int
  | 5 => .array .int
  | 6 => .array .int
  | 7 => .array .int
  | 8 => .int
  | _ => .int
theorem nmX5 : ∀ a, a < 10 → ∀ b, b < 10 → a ≠ b → (TX5 a).2.1 ≠ (TX5 b).2.1 := by decide +kernel
theorem tyX5_ok : ∀ k, k < 10 → parseFieldDescriptor (TX5 k).2.2.1 = some (tyX5 k) := by decide +kernel
abbrev cX5_init : ByteArray := prog_7_method_1_code
abbrev yX5_init : MethodName := ⟨RX5, "<init>", "(LOneOfTwo$House;)V"⟩
abbrev cX5_find : ByteArray := prog_7_method_2_code
abbrev yX5_find : MethodName := ⟨RX5, "find", "(I)V"⟩
abbrev cX5_prepareCords : ByteArray := prog_7_method_3_code
abbrev yX5_prepareCords : MethodName := ⟨RX5, "prepareCords", "()V"⟩
abbrev cX5_prepareLodgers : ByteArray := prog_7_method_4_code
abbrev yX5_prepareLodgers : MethodName := ⟨RX5, "prepareLodgers", "()V"⟩
abbrev cX5_placeFor : ByteArray := prog_7_method_5_code
abbrev yX5_placeFor : MethodName := ⟨RX5, "placeFor", "(II)I"⟩
abbrev cX5_looseOn : ByteArray := prog_7_method_6_code
abbrev yX5_looseOn : MethodName := ⟨RX5, "looseOn", "(I)I"⟩
abbrev cX5_place : ByteArray := prog_7_method_7_code
abbrev yX5_place : MethodName := ⟨RX5, "place", "(IIII)V"⟩
abbrev cX5_fill : ByteArray := prog_7_method_8_code
abbrev yX5_fill : MethodName := ⟨RX5, "fill", "(IIII)V"⟩
abbrev cX5_contentOf : ByteArray := prog_7_method_9_code
abbrev yX5_contentOf : MethodName := ⟨RX5, "contentOf", "(I)I"⟩
abbrev RX6 : String := "OneOfTwo$Sleeper"
def TX6 : u_T := fun k => match k with
  | _ => ("OneOfTwo$Lodger", "number", "I", true)
def tyX6 : Nat → FieldType := fun k => match k with
  | _ => .int
theorem nmX6 : ∀ a, a < 1 → ∀ b, b < 1 → a ≠ b → (TX6 a).2.1 ≠ (TX6 b).2.1 := by decide +kernel
theorem tyX6_ok : ∀ k, k < 1 → parseFieldDescriptor (TX6 k).2.2.1 = some (tyX6 k) := by decide +kernel
abbrev cX6_init : ByteArray := prog_8_method_1_code
abbrev yX6_init : MethodName := ⟨RX6, "<init>", "(I)V"⟩
abbrev cX6_pleased : ByteArray := prog_8_method_2_code
abbrev yX6_pleased : MethodName := ⟨RX6, "pleased", "(ZI)Z"⟩
abbrev cX6_shuts : ByteArray := prog_8_method_3_code
abbrev yX6_shuts : MethodName := ⟨RX6, "shuts", "(IIILOneOfTwo$Row;)I"⟩
abbrev RX7 : String := "OneOfTwo$Smoker"
def TX7 : u_T := fun k => match k with
  | _ => ("OneOfTwo$Lodger", "number", "I", true)
def tyX7 : Nat → FieldType := fun k => match k with
  | _ => .int
theorem nmX7 : ∀ a, a < 1 → ∀ b, b < 1 → a ≠ b → (TX7 a).2.1 ≠ (TX7 b).2.1 := by decide +kernel
theorem tyX7_ok : ∀ k, k < 1 → parseFieldDescriptor (TX7 k).2.2.1 = some (tyX7 k) := by decide +kernel
abbrev cX7_init : ByteArray := prog_9_method_1_code
abbrev yX7_init : MethodName := ⟨RX7, "<init>", "(I)V"⟩
abbrev cX7_leastAir : ByteArray := prog_9_method_2_code
abbrev yX7_leastAir : MethodName := ⟨RX7, "leastAir", "(I)I"⟩
abbrev cX7_mostAir : ByteArray := prog_9_method_3_code
abbrev yX7_mostAir : MethodName := ⟨RX7, "mostAir", "(I)I"⟩
abbrev cX7_wakes : ByteArray := prog_9_method_4_code
abbrev yX7_wakes : MethodName := ⟨RX7, "wakes", "(IIILOneOfTwo$Row;)I"⟩
abbrev RX8 : String := "OneOfTwo$Spiteful"
def TX8 : u_T := fun k => match k with
  | _ => ("OneOfTwo$Lodger", "number", "I", true)
def tyX8 : Nat → FieldType := fun k => match k with
  | _ => .int
theorem nmX8 : ∀ a, a < 1 → ∀ b, b < 1 → a ≠ b → (TX8 a).2.1 ≠ (TX8 b).2.1 := by decide +kernel
theorem tyX8_ok : ∀ k, k < 1 → parseFieldDescriptor (TX8 k).2.2.1 = some (tyX8 k) := by decide +kernel
abbrev cX8_init : ByteArray := prog_10_method_1_code
abbrev yX8_init : MethodName := ⟨RX8, "<init>", "(I)V"⟩
abbrev cX8_pleased : ByteArray := prog_10_method_2_code
abbrev yX8_pleased : MethodName := ⟨RX8, "pleased", "(ZI)Z"⟩
abbrev cX8_shuts : ByteArray := prog_10_method_3_code
abbrev yX8_shuts : MethodName := ⟨RX8, "shuts", "(IIILOneOfTwo$Row;)I"⟩
abbrev cX8_tells : ByteArray := prog_10_method_4_code
abbrev yX8_tells : MethodName := ⟨RX8, "tells", "(IIILOneOfTwo$Row;)I"⟩
abbrev RX9 : String := "OneOfTwo$Strong"
def TX9 : u_T := fun k => match k with
  | _ => ("OneOfTwo$Lodger", "number", "I", true)
def tyX9 : Nat → FieldType := fun k => match k with
  | _ => .int
theorem nmX9 : ∀ a, a < 1 → ∀ b, b < 1 → a ≠ b → (TX9 a).2.1 ≠ (TX9 b).2.1 := by decide +kernel
theorem tyX9_ok : ∀ k, k < 1 → parseFieldDescriptor (TX9 k).2.2.1 = some (tyX9 k) := by decide +kernel
abbrev cX9_init : ByteArray := prog_11_method_1_code
abbrev yX9_init : MethodName := ⟨RX9, "<init>", "(I)V"⟩
abbrev cX9_strength : ByteArray := prog_11_method_2_code
abbrev yX9_strength : MethodName := ⟨RX9, "strength", "()I"⟩
abbrev cX9_tells : ByteArray := prog_11_method_3_code
abbrev yX9_tells : MethodName := ⟨RX9, "tells", "(IIILOneOfTwo$Row;)I"⟩
abbrev RX10 : String := "OneOfTwo$Text"
def TX10 : u_T := fun k => match k with
  | 0 => ("OneOfTwo$Text", "id", "I", true)
  | 1 => ("OneOfTwo$Text", "memo", "[I", true)
  | 2 => ("OneOfTwo$Text", "code", "[I", true)
  | 3 => ("OneOfTwo$Text", "length", "I", false)
  | 4 => ("OneOfTwo$Text", "stack", "[I", true)
  | 5 => ("OneOfTwo$Text", "top", "I", false)
  | _ => ("OneOfTwo$Text", "nowOpen", "I", false)
def tyX10 : Nat → FieldType := fun k => match k with
  | 0 => .int
  | 1 => .array .int
  | 2 => .array .int
  | 3 => .int
  | 4 => .array .int
  | 5 => .int
  | _ => .int
theorem nmX10 : ∀ a, a < 7 → ∀ b, b < 7 → a ≠ b → (TX10 a).2.1 ≠ (TX10 b).2.1 := by decide +kernel
theorem tyX10_ok : ∀ k, k < 7 → parseFieldDescriptor (TX10 k).2.2.1 = some (tyX10 k) := by decide +kernel
abbrev cX10_init : ByteArray := prog_12_method_1_code
abbrev yX10_init : MethodName := ⟨RX10, "<init>", "(I[I)V"⟩
abbrev cX10_read : ByteArray := prog_12_method_2_code
abbrev yX10_read : MethodName := ⟨RX10, "read", "(LOneOfTwo$Row;I)I"⟩
abbrev cX10_isDigit : ByteArray := prog_12_method_3_code
abbrev yX10_isDigit : MethodName := ⟨RX10, "isDigit", "(I)Z"⟩
abbrev cX10_isName : ByteArray := prog_12_method_4_code
abbrev yX10_isName : MethodName := ⟨RX10, "isName", "(Ljava/lang/String;I)Z"⟩
abbrev cX10_numberEnd : ByteArray := prog_12_method_5_code
abbrev yX10_numberEnd : MethodName := ⟨RX10, "numberEnd", "(LOneOfTwo$Row;I)I"⟩
abbrev cX10_numberOf : ByteArray := prog_12_method_6_code
abbrev yX10_numberOf : MethodName := ⟨RX10, "numberOf", "(LOneOfTwo$Row;II)I"⟩
abbrev cX10_addCode : ByteArray := prog_12_method_7_code
abbrev yX10_addCode : MethodName := ⟨RX10, "addCode", "(I)V"⟩
abbrev cX10_addValue : ByteArray := prog_12_method_8_code
abbrev yX10_addValue : MethodName := ⟨RX10, "addValue", "(I)V"⟩
abbrev cX10_closeNots : ByteArray := prog_12_method_9_code
abbrev yX10_closeNots : MethodName := ⟨RX10, "closeNots", "()V"⟩
abbrev cX10_push : ByteArray := prog_12_method_10_code
abbrev yX10_push : MethodName := ⟨RX10, "push", "(I)Z"⟩
abbrev cX10_opens : ByteArray := prog_12_method_11_code
abbrev yX10_opens : MethodName := ⟨RX10, "opens", "(I)Z"⟩
abbrev cX10_closes : ByteArray := prog_12_method_12_code
abbrev yX10_closes : MethodName := ⟨RX10, "closes", "()Z"⟩
abbrev cX10_joins : ByteArray := prog_12_method_13_code
abbrev yX10_joins : MethodName := ⟨RX10, "joins", "(I)Z"⟩
abbrev cX10_settleDownTo : ByteArray := prog_12_method_14_code
abbrev yX10_settleDownTo : MethodName := ⟨RX10, "settleDownTo", "(I)V"⟩
abbrev cX10_levelOf : ByteArray := prog_12_method_15_code
abbrev yX10_levelOf : MethodName := ⟨RX10, "levelOf", "(I)I"⟩
abbrev cX10_value : ByteArray := prog_12_method_16_code
abbrev yX10_value : MethodName := ⟨RX10, "value", "(III)I"⟩
abbrev cX10_joined : ByteArray := prog_12_method_17_code
abbrev yX10_joined : MethodName := ⟨RX10, "joined", "(III)I"⟩
abbrev RX11 : String := "OneOfTwo"
def TX11 : u_T := fun k => match k with
  | 0 => ("OneOfTwo", "kinds", "[LOneOfTwo$Lodger;", true)
  | 1 => ("OneOfTwo", "airMemo", "[I", true)
  | 2 => ("OneOfTwo", "sheets", "[LOneOfTwo$Row;", true)
  | 3 => ("OneOfTwo", "trace", "LOneOfTwo$Row;", true)
  | 4 => ("OneOfTwo", "answered", "[I", true)
  | 5 => ("OneOfTwo", "house", "LOneOfTwo$House;", true)
  | 6 => ("OneOfTwo", "aside", "LOneOfTwo$House;", true)
  | 7 => ("OneOfTwo", "kept", "LOneOfTwo$House;", true)
  | 8 => ("OneOfTwo", "search", "LOneOfTwo$Search;", true)
  | 9 => ("OneOfTwo", "images", "I", false)
  | _ => ("OneOfTwo", "texts", "I", false)
def tyX11 : Nat → FieldType := fun k => match k with
  | 0 => .array (.object "OneOfTwo$Lodger")
  | 1 => .array .int
  | 2 => .array (.object "OneOfTwo$Row")
  | 3 => .object "OneOfTwo$Row"
  | 4 => .array .int
  | 5 => .object "OneOfTwo$House"
  | 6 => .object "OneOfTwo$House"
  | 7 => .object "OneOfTwo$House"
  | 8 => .object "OneOfTwo$Search"
  | 9 => .int
  | _ => .int
theorem nmX11 : ∀ a, a < 11 → ∀ b, b < 11 → a ≠ b → (TX11 a).2.1 ≠ (TX11 b).2.1 := by decide +kernel
theorem tyX11_ok : ∀ k, k < 11 → parseFieldDescriptor (TX11 k).2.2.1 = some (tyX11 k) := by decide +kernel
abbrev cX11_init : ByteArray := prog_1_method_1_code
abbrev yX11_init : MethodName := ⟨RX11, "<init>", "()V"⟩
abbrev cX11_window : ByteArray := prog_1_method_2_code
abbrev yX11_window : MethodName := ⟨RX11, "window", "(II)I"⟩
abbrev cX11_cord : ByteArray := prog_1_method_3_code
abbrev yX11_cord : MethodName := ⟨RX11, "cord", "(I)I"⟩
abbrev cX11_drop : ByteArray := prog_1_method_4_code
abbrev yX11_drop : MethodName := ⟨RX11, "drop", "()I"⟩
abbrev cX11_ofWindow : ByteArray := prog_1_method_5_code
abbrev yX11_ofWindow : MethodName := ⟨RX11, "ofWindow", "(II)I"⟩
abbrev cX11_ofCord : ByteArray := prog_1_method_6_code
abbrev yX11_ofCord : MethodName := ⟨RX11, "ofCord", "(II)I"⟩
abbrev cX11_open : ByteArray := prog_1_method_7_code
abbrev yX11_open : MethodName := ⟨RX11, "open", "(II)I"⟩
abbrev cX11_swell : ByteArray := prog_1_method_8_code
abbrev yX11_swell : MethodName := ⟨RX11, "swell", "(II)I"⟩
abbrev cX11_pull : ByteArray := prog_1_method_9_code
abbrev yX11_pull : MethodName := ⟨RX11, "pull", "(II)I"⟩
abbrev cX11_swap : ByteArray := prog_1_method_10_code
abbrev yX11_swap : MethodName := ⟨RX11, "swap", "(II)I"⟩
abbrev cX11_air : ByteArray := prog_1_method_11_code
abbrev yX11_air : MethodName := ⟨RX11, "air", "(I)I"⟩
abbrev cX11_lodger : ByteArray := prog_1_method_12_code
abbrev yX11_lodger : MethodName := ⟨RX11, "lodger", "(II)I"⟩
abbrev cX11_ofLodger : ByteArray := prog_1_method_13_code
abbrev yX11_ofLodger : MethodName := ⟨RX11, "ofLodger", "(II)I"⟩
abbrev cX11_become : ByteArray := prog_1_method_14_code
abbrev yX11_become : MethodName := ⟨RX11, "become", "(II)I"⟩
abbrev cX11_as : ByteArray := prog_1_method_15_code
abbrev yX11_as : MethodName := ⟨RX11, "as", "(II)I"⟩
abbrev cX11_goes : ByteArray := prog_1_method_16_code
abbrev yX11_goes : MethodName := ⟨RX11, "goes", "(II)I"⟩
abbrev cX11_content : ByteArray := prog_1_method_17_code
abbrev yX11_content : MethodName := ⟨RX11, "content", "()I"⟩
abbrev cX11_feed : ByteArray := prog_1_method_18_code
abbrev yX11_feed : MethodName := ⟨RX11, "feed", "(JI)I"⟩
abbrev cX11_text : ByteArray := prog_1_method_19_code
abbrev yX11_text : MethodName := ⟨RX11, "text", "(I)I"⟩
abbrev cX11_law : ByteArray := prog_1_method_20_code
abbrev yX11_law : MethodName := ⟨RX11, "law", "(IIII)I"⟩
abbrev cX11_turn : ByteArray := prog_1_method_21_code
abbrev yX11_turn : MethodName := ⟨RX11, "turn", "(I)I"⟩
abbrev cX11_hours : ByteArray := prog_1_method_22_code
abbrev yX11_hours : MethodName := ⟨RX11, "hours", "(I)I"⟩
abbrev cX11_loose : ByteArray := prog_1_method_23_code
abbrev yX11_loose : MethodName := ⟨RX11, "loose", "(I)I"⟩
abbrev cX11_hour : ByteArray := prog_1_method_24_code
abbrev yX11_hour : MethodName := ⟨RX11, "hour", "(I)I"⟩
abbrev cX11_lock : ByteArray := prog_1_method_25_code
abbrev yX11_lock : MethodName := ⟨RX11, "lock", "(II)I"⟩
abbrev cX11_rests : ByteArray := prog_1_method_26_code
abbrev yX11_rests : MethodName := ⟨RX11, "rests", "()I"⟩
abbrev cX11_then : ByteArray := prog_1_method_27_code
abbrev yX11_then : MethodName := ⟨RX11, "then", "(II)I"⟩
abbrev cX11_standings : ByteArray := prog_1_method_28_code
abbrev yX11_standings : MethodName := ⟨RX11, "standings", "()I"⟩
abbrev cX11_fewest : ByteArray := prog_1_method_29_code
abbrev yX11_fewest : MethodName := ⟨RX11, "fewest", "(I)I"⟩
abbrev cX11_most : ByteArray := prog_1_method_30_code
abbrev yX11_most : MethodName := ⟨RX11, "most", "(I)I"⟩
abbrev cX11_helps : ByteArray := prog_1_method_31_code
abbrev yX11_helps : MethodName := ⟨RX11, "helps", "(I)I"⟩
abbrev cX11_who : ByteArray := prog_1_method_32_code
abbrev yX11_who : MethodName := ⟨RX11, "who", "(I)I"⟩
abbrev cX11_seed : ByteArray := prog_1_method_33_code
abbrev yX11_seed : MethodName := ⟨RX11, "seed", "(I)I"⟩
abbrev cX11_voice : ByteArray := prog_1_method_34_code
abbrev yX11_voice : MethodName := ⟨RX11, "voice", "(III)I"⟩
abbrev cX11_trace : ByteArray := prog_1_method_35_code
abbrev yX11_trace : MethodName := ⟨RX11, "trace", "(I)I"⟩
abbrev cX11_sheet : ByteArray := prog_1_method_36_code
abbrev yX11_sheet : MethodName := ⟨RX11, "sheet", "(III)I"⟩
abbrev cX11_put : ByteArray := prog_1_method_37_code
abbrev yX11_put : MethodName := ⟨RX11, "put", "(III)I"⟩
abbrev cX11_move : ByteArray := prog_1_method_38_code
abbrev yX11_move : MethodName := ⟨RX11, "move", "(IIIII)I"⟩
abbrev cX11_judge : ByteArray := prog_1_method_39_code
abbrev yX11_judge : MethodName := ⟨RX11, "judge", "(I)I"⟩
abbrev cX11_image : ByteArray := prog_1_method_40_code
abbrev yX11_image : MethodName := ⟨RX11, "image", "()I"⟩
abbrev cX11_restore : ByteArray := prog_1_method_41_code
abbrev yX11_restore : MethodName := ⟨RX11, "restore", "()I"⟩
abbrev cX11_tell : ByteArray := prog_1_method_42_code
abbrev yX11_tell : MethodName := ⟨RX11, "tell", "(I)I"⟩
abbrev cX11_check : ByteArray := prog_1_method_43_code
abbrev yX11_check : MethodName := ⟨RX11, "check", "()I"⟩
abbrev cX11_count : ByteArray := prog_1_method_44_code
abbrev yX11_count : MethodName := ⟨RX11, "count", "(I)I"⟩
abbrev cX11_told : ByteArray := prog_1_method_45_code
abbrev yX11_told : MethodName := ⟨RX11, "told", "(I)I"⟩
abbrev cX11_error : ByteArray := prog_1_method_46_code
abbrev yX11_error : MethodName := ⟨RX11, "error", "(I)I"⟩
abbrev cX11_isWindow : ByteArray := prog_1_method_47_code
abbrev yX11_isWindow : MethodName := ⟨RX11, "isWindow", "(I)Z"⟩
abbrev cX11_isLodger : ByteArray := prog_1_method_48_code
abbrev yX11_isLodger : MethodName := ⟨RX11, "isLodger", "(I)Z"⟩
abbrev cX11_isRoom : ByteArray := prog_1_method_49_code
abbrev yX11_isRoom : MethodName := ⟨RX11, "isRoom", "(I)Z"⟩
abbrev cX11_isNotch : ByteArray := prog_1_method_50_code
abbrev yX11_isNotch : MethodName := ⟨RX11, "isNotch", "(I)Z"⟩
abbrev cX11_isKindAndNumber : ByteArray := prog_1_method_51_code
abbrev yX11_isKindAndNumber : MethodName := ⟨RX11, "isKindAndNumber", "(I)Z"⟩
abbrev cX11_isUse : ByteArray := prog_1_method_52_code
abbrev yX11_isUse : MethodName := ⟨RX11, "isUse", "(I)Z"⟩
abbrev cX11_isSheet : ByteArray := prog_1_method_53_code
abbrev yX11_isSheet : MethodName := ⟨RX11, "isSheet", "(I)Z"⟩
abbrev cX11_isUnder : ByteArray := prog_1_method_54_code
abbrev yX11_isUnder : MethodName := ⟨RX11, "isUnder", "(II)Z"⟩
abbrev cX11_waysToOpen : ByteArray := prog_1_method_55_code
abbrev yX11_waysToOpen : MethodName := ⟨RX11, "waysToOpen", "(II)I"⟩
abbrev cX11_waysOfTwo : ByteArray := prog_1_method_56_code
abbrev yX11_waysOfTwo : MethodName := ⟨RX11, "waysOfTwo", "(I)I"⟩
abbrev cX11_contentIfSwapped : ByteArray := prog_1_method_57_code
abbrev yX11_contentIfSwapped : MethodName := ⟨RX11, "contentIfSwapped", "(II)I"⟩
abbrev cX11_wouldStandSo : ByteArray := prog_1_method_58_code
abbrev yX11_wouldStandSo : MethodName := ⟨RX11, "wouldStandSo", "(ILOneOfTwo$Row;)Z"⟩
abbrev RX12 : String := "OneOfTwoModel"
def TX12 : u_T := fun k => match k with
  | 0 => ("OneOfTwoModel", "d", "[I", true)
  | 1 => ("OneOfTwoModel", "kept", "[I", true)
  | 2 => ("OneOfTwoModel", "aside", "[I", true)
  | 3 => ("OneOfTwoModel", "images", "I", false)
  | 4 => ("OneOfTwoModel", "found", "[I", true)
  | 5 => ("OneOfTwoModel", "base", "I", false)
  | 6 => ("OneOfTwoModel", "at", "I", false)
  | 7 => ("OneOfTwoModel", "size", "I", false)
  | 8 => ("OneOfTwoModel", "fault", "I", false)
  | 9 => ("OneOfTwoModel", "opened", "I", false)
  | 10 => ("OneOfTwoModel", "isCalm", "Z", false)
  | 11 => ("OneOfTwoModel", "names", "[I", true)
  | 12 => ("OneOfTwoModel", "opens", "[I", true)
  | 13 => ("OneOfTwoModel", "wasOpen", "[I", true)
  | 14 => ("OneOfTwoModel", "left", "[I", true)
  | 15 => ("OneOfTwoModel", "lastOf", "[I", true)
  | 16 => ("OneOfTwoModel", "standingsMany", "I", false)
  | 17 => ("OneOfTwoModel", "bestContent", "I", false)
  | 18 => ("OneOfTwoModel", "bestPulls", "I", false)
  | 19 => ("OneOfTwoModel", "bestRow", "[I", true)
  | 20 => ("OneOfTwoModel", "helpsTwo", "I", false)
  | 21 => ("OneOfTwoModel", "helpsMany", "I", false)
  | 22 => ("OneOfTwoModel", "traced", "[I", true)
  | 23 => ("OneOfTwoModel", "traceMany", "I", false)
  | 24 => ("OneOfTwoModel", "who", "I", false)
  | 25 => ("OneOfTwoModel", "bitsOf", "[I", true)
  | 26 => ("OneOfTwoModel", "sizeOf", "[I", true)
  | 27 => ("OneOfTwoModel", "number", "[I", true)
  | _ => ("OneOfTwoModel", "lifted", "[I", true)
def tyX12 : Nat → FieldType := fun k => match k with
  | 0 => .array .int
  | 1 => .array .int
  | 2 => .array .int
  | 3 => .int
  | 4 => .array .int
  | 5 => .int
  | 6 => .int
  | 7 => .int
  | 8 => .int
  | 9 => .int
  | 10 => .boolean
  | 11 => .array .int
  | 12 => .array .int
  | 13 => .array .int
  | 14 => .array .int
  | 15 => .array .int
  | 16 => .int
  | 17 => .int
  | 18 => .int
  | 19 => .array .int
  | 20 => .int
  | 21 => .int
  | 22 => .array .int
  | 23 => .int
  | 24 => .int
  | 25 => .array .int
  | 26 => .array .int
  | 27 => .array .int
  | _ => .array .int
theorem nmX12 : ∀ a, a < 29 → ∀ b, b < 29 → a ≠ b → (TX12 a).2.1 ≠ (TX12 b).2.1 := by decide +kernel
theorem tyX12_ok : ∀ k, k < 29 → parseFieldDescriptor (TX12 k).2.2.1 = some (tyX12 k) := by decide +kernel
abbrev cX12_init : ByteArray := prog_14_method_1_code
abbrev yX12_init : MethodName := ⟨RX12, "<init>", "()V"⟩
abbrev cX12_finds : ByteArray := prog_14_method_3_code
abbrev yX12_finds : MethodName := ⟨RX12, "finds", "(I)I"⟩
abbrev cX12_in : ByteArray := prog_14_method_4_code
abbrev yX12_in : MethodName := ⟨RX12, "in", "(JJJ)Z"⟩
abbrev cX12_held : ByteArray := prog_14_method_5_code
abbrev yX12_held : MethodName := ⟨RX12, "held", "(III)I"⟩
abbrev cX12_isWindow : ByteArray := prog_14_method_6_code
abbrev yX12_isWindow : MethodName := ⟨RX12, "isWindow", "(I)Z"⟩
abbrev cX12_isLodger : ByteArray := prog_14_method_7_code
abbrev yX12_isLodger : MethodName := ⟨RX12, "isLodger", "(I)Z"⟩
abbrev cX12_its : ByteArray := prog_14_method_8_code
abbrev yX12_its : MethodName := ⟨RX12, "its", "(II)I"⟩
abbrev cX12_puts : ByteArray := prog_14_method_9_code
abbrev yX12_puts : MethodName := ⟨RX12, "puts", "(III)V"⟩
abbrev cX12_of : ByteArray := prog_14_method_10_code
abbrev yX12_of : MethodName := ⟨RX12, "of", "(II)I"⟩
abbrev cX12_sets : ByteArray := prog_14_method_11_code
abbrev yX12_sets : MethodName := ⟨RX12, "sets", "(III)V"⟩
abbrev cX12_keepAside : ByteArray := prog_14_method_12_code
abbrev yX12_keepAside : MethodName := ⟨RX12, "keepAside", "()V"⟩
abbrev cX12_putBack : ByteArray := prog_14_method_13_code
abbrev yX12_putBack : MethodName := ⟨RX12, "putBack", "()V"⟩
abbrev cX12_here : ByteArray := prog_14_method_14_code
abbrev yX12_here : MethodName := ⟨RX12, "here", "()I"⟩
abbrev cX12_wrong : ByteArray := prog_14_method_15_code
abbrev yX12_wrong : MethodName := ⟨RX12, "wrong", "()I"⟩
abbrev cX12_takes : ByteArray := prog_14_method_16_code
abbrev yX12_takes : MethodName := ⟨RX12, "takes", "(I)Z"⟩
abbrev cX12_nameOf : ByteArray := prog_14_method_17_code
abbrev yX12_nameOf : MethodName := ⟨RX12, "nameOf", "(I)I"⟩
abbrev cX12_either : ByteArray := prog_14_method_18_code
abbrev yX12_either : MethodName := ⟨RX12, "either", "()I"⟩
abbrev cX12_both : ByteArray := prog_14_method_19_code
abbrev yX12_both : MethodName := ⟨RX12, "both", "()I"⟩
abbrev cX12_compared : ByteArray := prog_14_method_20_code
abbrev yX12_compared : MethodName := ⟨RX12, "compared", "()I"⟩
abbrev cX12_sum : ByteArray := prog_14_method_21_code
abbrev yX12_sum : MethodName := ⟨RX12, "sum", "()I"⟩
abbrev cX12_product : ByteArray := prog_14_method_22_code
abbrev yX12_product : MethodName := ⟨RX12, "product", "()I"⟩
abbrev cX12_unit : ByteArray := prog_14_method_23_code
abbrev yX12_unit : MethodName := ⟨RX12, "unit", "()I"⟩
abbrev cX12_worked : ByteArray := prog_14_method_24_code
abbrev yX12_worked : MethodName := ⟨RX12, "worked", "(III)I"⟩
abbrev cX12_feed : ByteArray := prog_14_method_25_code
abbrev yX12_feed : MethodName := ⟨RX12, "feed", "(JI)I"⟩
abbrev cX12_text : ByteArray := prog_14_method_26_code
abbrev yX12_text : MethodName := ⟨RX12, "text", "(I)I"⟩
abbrev cX12_textGives : ByteArray := prog_14_method_27_code
abbrev yX12_textGives : MethodName := ⟨RX12, "textGives", "(IIII)I"⟩
abbrev cX12_law : ByteArray := prog_14_method_28_code
abbrev yX12_law : MethodName := ⟨RX12, "law", "(IIII)I"⟩
abbrev cX12_window : ByteArray := prog_14_method_29_code
abbrev yX12_window : MethodName := ⟨RX12, "window", "(II)I"⟩
abbrev cX12_ones : ByteArray := prog_14_method_30_code
abbrev yX12_ones : MethodName := ⟨RX12, "ones", "(I)I"⟩
abbrev cX12_cord : ByteArray := prog_14_method_31_code
abbrev yX12_cord : MethodName := ⟨RX12, "cord", "(I)I"⟩
abbrev cX12_drop : ByteArray := prog_14_method_32_code
abbrev yX12_drop : MethodName := ⟨RX12, "drop", "()I"⟩
abbrev cX12_ofWindow : ByteArray := prog_14_method_33_code
abbrev yX12_ofWindow : MethodName := ⟨RX12, "ofWindow", "(II)I"⟩
abbrev cX12_windowsOf : ByteArray := prog_14_method_34_code
abbrev yX12_windowsOf : MethodName := ⟨RX12, "windowsOf", "(I)I"⟩
abbrev cX12_lengthOf : ByteArray := prog_14_method_35_code
abbrev yX12_lengthOf : MethodName := ⟨RX12, "lengthOf", "(I)I"⟩
abbrev cX12_ofCord : ByteArray := prog_14_method_36_code
abbrev yX12_ofCord : MethodName := ⟨RX12, "ofCord", "(II)I"⟩
abbrev cX12_open : ByteArray := prog_14_method_37_code
abbrev yX12_open : MethodName := ⟨RX12, "open", "(II)I"⟩
abbrev cX12_swell : ByteArray := prog_14_method_38_code
abbrev yX12_swell : MethodName := ⟨RX12, "swell", "(II)I"⟩
abbrev cX12_isLocked : ByteArray := prog_14_method_39_code
abbrev yX12_isLocked : MethodName := ⟨RX12, "isLocked", "()Z"⟩
abbrev cX12_canPull : ByteArray := prog_14_method_40_code
abbrev yX12_canPull : MethodName := ⟨RX12, "canPull", "(II)Z"⟩
abbrev cX12_pulls : ByteArray := prog_14_method_41_code
abbrev yX12_pulls : MethodName := ⟨RX12, "pulls", "(II)V"⟩
abbrev cX12_pull : ByteArray := prog_14_method_42_code
abbrev yX12_pull : MethodName := ⟨RX12, "pull", "(II)I"⟩
abbrev cX12_swaps : ByteArray := prog_14_method_43_code
abbrev yX12_swaps : MethodName := ⟨RX12, "swaps", "(II)V"⟩
abbrev cX12_swap : ByteArray := prog_14_method_44_code
abbrev yX12_swap : MethodName := ⟨RX12, "swap", "(II)I"⟩
abbrev cX12_openIn : ByteArray := prog_14_method_45_code
abbrev yX12_openIn : MethodName := ⟨RX12, "openIn", "(I)I"⟩
abbrev cX12_airOf : ByteArray := prog_14_method_46_code
abbrev yX12_airOf : MethodName := ⟨RX12, "airOf", "(I)I"⟩
abbrev cX12_air : ByteArray := prog_14_method_47_code
abbrev yX12_air : MethodName := ⟨RX12, "air", "(I)I"⟩
abbrev cX12_leastOf : ByteArray := prog_14_method_48_code
abbrev yX12_leastOf : MethodName := ⟨RX12, "leastOf", "(I)I"⟩
abbrev cX12_mostOf : ByteArray := prog_14_method_49_code
abbrev yX12_mostOf : MethodName := ⟨RX12, "mostOf", "(I)I"⟩
abbrev cX12_pullsOf : ByteArray := prog_14_method_50_code
abbrev yX12_pullsOf : MethodName := ⟨RX12, "pullsOf", "(I)I"⟩
abbrev cX12_isContent : ByteArray := prog_14_method_51_code
abbrev yX12_isContent : MethodName := ⟨RX12, "isContent", "(I)Z"⟩
abbrev cX12_allContent : ByteArray := prog_14_method_52_code
abbrev yX12_allContent : MethodName := ⟨RX12, "allContent", "()I"⟩
abbrev cX12_lodger : ByteArray := prog_14_method_53_code
abbrev yX12_lodger : MethodName := ⟨RX12, "lodger", "(II)I"⟩
abbrev cX12_ofLodger : ByteArray := prog_14_method_54_code
abbrev yX12_ofLodger : MethodName := ⟨RX12, "ofLodger", "(II)I"⟩
abbrev cX12_become : ByteArray := prog_14_method_55_code
abbrev yX12_become : MethodName := ⟨RX12, "become", "(II)I"⟩
abbrev cX12_above : ByteArray := prog_14_method_56_code
abbrev yX12_above : MethodName := ⟨RX12, "above", "(I)I"⟩
abbrev cX12_as : ByteArray := prog_14_method_57_code
abbrev yX12_as : MethodName := ⟨RX12, "as", "(II)I"⟩
abbrev cX12_goes : ByteArray := prog_14_method_58_code
abbrev yX12_goes : MethodName := ⟨RX12, "goes", "(II)I"⟩
abbrev cX12_content : ByteArray := prog_14_method_59_code
abbrev yX12_content : MethodName := ⟨RX12, "content", "()I"⟩
abbrev cX12_farOf : ByteArray := prog_14_method_60_code
abbrev yX12_farOf : MethodName := ⟨RX12, "farOf", "(I)I"⟩
abbrev cX12_choice : ByteArray := prog_14_method_61_code
abbrev yX12_choice : MethodName := ⟨RX12, "choice", "(I)I"⟩
abbrev cX12_turnOf : ByteArray := prog_14_method_62_code
abbrev yX12_turnOf : MethodName := ⟨RX12, "turnOf", "(I)I"⟩
abbrev cX12_turnOfAll : ByteArray := prog_14_method_63_code
abbrev yX12_turnOfAll : MethodName := ⟨RX12, "turnOfAll", "()I"⟩
abbrev cX12_anHour : ByteArray := prog_14_method_64_code
abbrev yX12_anHour : MethodName := ⟨RX12, "anHour", "()V"⟩
abbrev cX12_onesOf : ByteArray := prog_14_method_65_code
abbrev yX12_onesOf : MethodName := ⟨RX12, "onesOf", "(I)I"⟩
abbrev cX12_turn : ByteArray := prog_14_method_66_code
abbrev yX12_turn : MethodName := ⟨RX12, "turn", "(I)I"⟩
abbrev cX12_hours : ByteArray := prog_14_method_67_code
abbrev yX12_hours : MethodName := ⟨RX12, "hours", "(I)I"⟩
abbrev cX12_drawn : ByteArray := prog_14_method_68_code
abbrev yX12_drawn : MethodName := ⟨RX12, "drawn", "()I"⟩
abbrev cX12_loose : ByteArray := prog_14_method_69_code
abbrev yX12_loose : MethodName := ⟨RX12, "loose", "(I)I"⟩
abbrev cX12_hour : ByteArray := prog_14_method_70_code
abbrev yX12_hour : MethodName := ⟨RX12, "hour", "(I)I"⟩
abbrev cX12_lock : ByteArray := prog_14_method_71_code
abbrev yX12_lock : MethodName := ⟨RX12, "lock", "(II)I"⟩
abbrev cX12_rests : ByteArray := prog_14_method_72_code
abbrev yX12_rests : MethodName := ⟨RX12, "rests", "()I"⟩
abbrev cX12_then : ByteArray := prog_14_method_73_code
abbrev yX12_then : MethodName := ⟨RX12, "then", "(II)I"⟩
abbrev cX12_isLoose : ByteArray := prog_14_method_74_code
abbrev yX12_isLoose : MethodName := ⟨RX12, "isLoose", "(I)Z"⟩
abbrev cX12_looksAt : ByteArray := prog_14_method_75_code
abbrev yX12_looksAt : MethodName := ⟨RX12, "looksAt", "(Z)V"⟩
abbrev cX12_nextOf : ByteArray := prog_14_method_76_code
abbrev yX12_nextOf : MethodName := ⟨RX12, "nextOf", "(I)Z"⟩
abbrev cX12_goThrough : ByteArray := prog_14_method_77_code
abbrev yX12_goThrough : MethodName := ⟨RX12, "goThrough", "(ZZ)V"⟩
abbrev cX12_standings : ByteArray := prog_14_method_78_code
abbrev yX12_standings : MethodName := ⟨RX12, "standings", "()I"⟩
abbrev cX12_fewest : ByteArray := prog_14_method_79_code
abbrev yX12_fewest : MethodName := ⟨RX12, "fewest", "(I)I"⟩
abbrev cX12_most : ByteArray := prog_14_method_80_code
abbrev yX12_most : MethodName := ⟨RX12, "most", "(I)I"⟩
abbrev cX12_findHelps : ByteArray := prog_14_method_81_code
abbrev yX12_findHelps : MethodName := ⟨RX12, "findHelps", "()V"⟩
abbrev cX12_helps : ByteArray := prog_14_method_82_code
abbrev yX12_helps : MethodName := ⟨RX12, "helps", "(I)I"⟩
abbrev cX12_who : ByteArray := prog_14_method_83_code
abbrev yX12_who : MethodName := ⟨RX12, "who", "(I)I"⟩
abbrev cX12_seed : ByteArray := prog_14_method_84_code
abbrev yX12_seed : MethodName := ⟨RX12, "seed", "(I)I"⟩
abbrev cX12_ran : ByteArray := prog_14_method_85_code
abbrev yX12_ran : MethodName := ⟨RX12, "ran", "(I)V"⟩
abbrev cX12_own : ByteArray := prog_14_method_86_code
abbrev yX12_own : MethodName := ⟨RX12, "own", "()I"⟩
abbrev cX12_wakesBy : ByteArray := prog_14_method_87_code
abbrev yX12_wakesBy : MethodName := ⟨RX12, "wakesBy", "(II)I"⟩
abbrev cX12_pullsBy : ByteArray := prog_14_method_88_code
abbrev yX12_pullsBy : MethodName := ⟨RX12, "pullsBy", "(II)I"⟩
abbrev cX12_shutsBy : ByteArray := prog_14_method_89_code
abbrev yX12_shutsBy : MethodName := ⟨RX12, "shutsBy", "(II)I"⟩
abbrev cX12_tellsBy : ByteArray := prog_14_method_90_code
abbrev yX12_tellsBy : MethodName := ⟨RX12, "tellsBy", "(II)I"⟩
abbrev cX12_voice : ByteArray := prog_14_method_91_code
abbrev yX12_voice : MethodName := ⟨RX12, "voice", "(III)I"⟩
abbrev cX12_trace : ByteArray := prog_14_method_92_code
abbrev yX12_trace : MethodName := ⟨RX12, "trace", "(I)I"⟩
abbrev cX12_isSheet : ByteArray := prog_14_method_93_code
abbrev yX12_isSheet : MethodName := ⟨RX12, "isSheet", "(I)Z"⟩
abbrev cX12_sheet : ByteArray := prog_14_method_94_code
abbrev yX12_sheet : MethodName := ⟨RX12, "sheet", "(III)I"⟩
abbrev cX12_put : ByteArray := prog_14_method_95_code
abbrev yX12_put : MethodName := ⟨RX12, "put", "(III)I"⟩
abbrev cX12_move : ByteArray := prog_14_method_96_code
abbrev yX12_move : MethodName := ⟨RX12, "move", "(IIIII)I"⟩
abbrev cX12_judge : ByteArray := prog_14_method_97_code
abbrev yX12_judge : MethodName := ⟨RX12, "judge", "(I)I"⟩
abbrev cX12_image : ByteArray := prog_14_method_98_code
abbrev yX12_image : MethodName := ⟨RX12, "image", "()I"⟩
abbrev cX12_restore : ByteArray := prog_14_method_99_code
abbrev yX12_restore : MethodName := ⟨RX12, "restore", "()I"⟩
abbrev cX12_tell : ByteArray := prog_14_method_100_code
abbrev yX12_tell : MethodName := ⟨RX12, "tell", "(I)I"⟩
abbrev cX12_check : ByteArray := prog_14_method_101_code
abbrev yX12_check : MethodName := ⟨RX12, "check", "()I"⟩
abbrev cX12_openOfAll : ByteArray := prog_14_method_102_code
abbrev yX12_openOfAll : MethodName := ⟨RX12, "openOfAll", "()I"⟩
abbrev cX12_count : ByteArray := prog_14_method_103_code
abbrev yX12_count : MethodName := ⟨RX12, "count", "(I)I"⟩
abbrev cX12_told : ByteArray := prog_14_method_104_code
abbrev yX12_told : MethodName := ⟨RX12, "told", "(I)I"⟩
abbrev RJ11 : String := "java/lang/Character"
abbrev cJ11_isValidCodePoint_9a6ad : ByteArray := prog_15_method_11_code
abbrev yJ11_isValidCodePoint_9a6ad : MethodName := ⟨RJ11, "isValidCodePoint", "(I)Z"⟩
abbrev cJ11_highSurrogate_5068e : ByteArray := prog_15_method_28_code
abbrev yJ11_highSurrogate_5068e : MethodName := ⟨RJ11, "highSurrogate", "(I)C"⟩
abbrev cJ11_lowSurrogate_5068e : ByteArray := prog_15_method_29_code
abbrev yJ11_lowSurrogate_5068e : MethodName := ⟨RJ11, "lowSurrogate", "(I)C"⟩
abbrev RJ6 : String := "java/lang/Integer"
abbrev cJ6_bitCount_0f7a4 : ByteArray := prog_16_method_49_code
abbrev yJ6_bitCount_0f7a4 : MethodName := ⟨RJ6, "bitCount", "(I)I"⟩
abbrev RJ9 : String := "java/lang/Math"
abbrev cJ9_abs_0f7a4 : ByteArray := prog_17_method_59_code
abbrev yJ9_abs_0f7a4 : MethodName := ⟨RJ9, "abs", "(I)I"⟩
abbrev cJ9_max_7cf53 : ByteArray := prog_17_method_65_code
abbrev yJ9_max_7cf53 : MethodName := ⟨RJ9, "max", "(II)I"⟩
abbrev cJ9_min_7cf53 : ByteArray := prog_17_method_69_code
abbrev yJ9_min_7cf53 : MethodName := ⟨RJ9, "min", "(II)I"⟩
abbrev RJ0 : String := "java/lang/String"
abbrev cJ0_length_8abf5 : ByteArray := prog_18_method_54_code
abbrev yJ0_length_8abf5 : MethodName := ⟨RJ0, "length", "()I"⟩
abbrev cJ0_indexOf_0f7a4 : ByteArray := prog_18_method_79_code
abbrev yJ0_indexOf_0f7a4 : MethodName := ⟨RJ0, "indexOf", "(I)I"⟩
abbrev cJ0_indexOf_7cf53 : ByteArray := prog_18_method_80_code
abbrev yJ0_indexOf_7cf53 : MethodName := ⟨RJ0, "indexOf", "(II)I"⟩
abbrev cJ0_coder_7d493 : ByteArray := prog_18_method_152_code
abbrev yJ0_coder_7d493 : MethodName := ⟨RJ0, "coder", "()B"⟩
abbrev cJ0_isLatin1_aae02 : ByteArray := prog_18_method_154_code
abbrev yJ0_isLatin1_aae02 : MethodName := ⟨RJ0, "isLatin1", "()Z"⟩
abbrev cJ0_checkBoundsBeginEnd_23922 : ByteArray := prog_18_method_158_code
abbrev yJ0_checkBoundsBeginEnd_23922 : MethodName := ⟨RJ0, "checkBoundsBeginEnd", "(III)V"⟩
abbrev RJ1 : String := "java/lang/StringLatin1"
abbrev cJ1_canEncode_9a6ad : ByteArray := prog_19_method_4_code
abbrev yJ1_canEncode_9a6ad : MethodName := ⟨RJ1, "canEncode", "(I)Z"⟩
abbrev cJ1_indexOf_4cfef : ByteArray := prog_19_method_22_code
abbrev yJ1_indexOf_4cfef : MethodName := ⟨RJ1, "indexOf", "([BIII)I"⟩
abbrev cJ1_indexOfChar_4cfef : ByteArray := prog_19_method_23_code
abbrev yJ1_indexOfChar_4cfef : MethodName := ⟨RJ1, "indexOfChar", "([BIII)I"⟩
abbrev RJ2 : String := "java/lang/StringUTF16"
abbrev cJ2_getChar_3b067 : ByteArray := prog_20_method_5_code
abbrev yJ2_getChar_3b067 : MethodName := ⟨RJ2, "getChar", "([BI)C"⟩
abbrev cJ2_length_9d52b : ByteArray := prog_20_method_6_code
abbrev yJ2_length_9d52b : MethodName := ⟨RJ2, "length", "([B)I"⟩
abbrev cJ2_indexOf_4cfef : ByteArray := prog_20_method_40_code
abbrev yJ2_indexOf_4cfef : MethodName := ⟨RJ2, "indexOf", "([BIII)I"⟩
abbrev cJ2_indexOfChar_4cfef : ByteArray := prog_20_method_47_code
abbrev yJ2_indexOfChar_4cfef : MethodName := ⟨RJ2, "indexOfChar", "([BIII)I"⟩
abbrev cJ2_indexOfCharUnsafe_4cfef : ByteArray := prog_20_method_48_code
abbrev yJ2_indexOfCharUnsafe_4cfef : MethodName := ⟨RJ2, "indexOfCharUnsafe", "([BIII)I"⟩
abbrev cJ2_indexOfSupplementary_4cfef : ByteArray := prog_20_method_49_code
abbrev yJ2_indexOfSupplementary_4cfef : MethodName := ⟨RJ2, "indexOfSupplementary", "([BIII)I"⟩
abbrev cJ2_checkBoundsBeginEnd_d044e : ByteArray := prog_20_method_93_code
abbrev yJ2_checkBoundsBeginEnd_d044e : MethodName := ⟨RJ2, "checkBoundsBeginEnd", "(II[B)V"⟩
abbrev RJ10 : String := "java/lang/System"
abbrev RJ7 : String := "java/util/Arrays"
abbrev cJ7_fill_53178 : ByteArray := prog_22_method_103_code
abbrev yJ7_fill_53178 : MethodName := ⟨RJ7, "fill", "([II)V"⟩
abbrev RJ3 : String := "jdk/internal/util/Preconditions"
abbrev cJ3_checkFromToIndex_8c36e : ByteArray := prog_23_method_12_code
abbrev yJ3_checkFromToIndex_8c36e : MethodName := ⟨RJ3, "checkFromToIndex", "(IIILjava/util/function/BiFunction;)I"⟩
abbrev RL : String := "OneOfTwoLaw"
abbrev cL_law : ByteArray := code
abbrev yL_law : MethodName := ⟨RL, "law", "([I)Z"⟩
abbrev vwCl : List vw_C := [(RX0, TX0, 1), (RX1, TX1, 1), (RX2, TX2, 19), (RX3, TX3, 1), (RX4, TX4, 3), (RX5, TX5, 10), (RX6, TX6, 1), (RX7, TX7, 1), (RX8, TX8, 1), (RX9, TX9, 1), (RX10, TX10, 7), (RX11, TX11, 11), (RX12, TX12, 29)]
theorem tw_1_0 : (Jvm.Cond.initialized "OneOfTwoLaw") ∈ TB := tb_1 (i := 0) rfl rfl
theorem tw_1_1 : (Jvm.Cond.initialized "OneOfTwo") ∈ TB := tb_1 (i := 1) rfl rfl
theorem tw_1_2 : (Jvm.Cond.initialized "OneOfTwo$Row") ∈ TB := tb_1 (i := 2) rfl rfl
theorem tw_1_3 : (Jvm.Cond.initialized "OneOfTwo$Lodger") ∈ TB := tb_1 (i := 3) rfl rfl
theorem tw_1_4 : (Jvm.Cond.initialized "OneOfTwo$Cougher") ∈ TB := tb_1 (i := 4) rfl rfl
theorem tw_1_5 : (Jvm.Cond.initialized "OneOfTwo$Smoker") ∈ TB := tb_1 (i := 5) rfl rfl
theorem tw_1_6 : (Jvm.Cond.initialized "OneOfTwo$Sleeper") ∈ TB := tb_1 (i := 6) rfl rfl
theorem tw_1_7 : (Jvm.Cond.initialized "OneOfTwo$Fevered") ∈ TB := tb_1 (i := 7) rfl rfl
theorem tw_1_8 : (Jvm.Cond.initialized "OneOfTwo$Strong") ∈ TB := tb_1 (i := 8) rfl rfl
theorem tw_1_9 : (Jvm.Cond.initialized "OneOfTwo$Spiteful") ∈ TB := tb_1 (i := 9) rfl rfl
theorem tw_1_10 : (Jvm.Cond.initialized "OneOfTwo$House") ∈ TB := tb_1 (i := 10) rfl rfl
theorem tw_1_11 : (Jvm.Cond.initialized "OneOfTwo$Search") ∈ TB := tb_1 (i := 11) rfl rfl
theorem tw_1_12 : (Jvm.Cond.initialized "OneOfTwoModel") ∈ TB := tb_1 (i := 12) rfl rfl
theorem tw_1_13 : (Jvm.Cond.initialized "java/lang/Integer") ∈ TB := tb_1 (i := 13) rfl rfl
theorem tw_1_14 : (Jvm.Cond.initialized "java/lang/Math") ∈ TB := tb_1 (i := 14) rfl rfl
theorem tw_1_15 : (Jvm.Cond.initialized "OneOfTwo$Text") ∈ TB := tb_1 (i := 15) rfl rfl
theorem tw_1_16 : (Jvm.Cond.initialized "java/lang/String") ∈ TB := tb_1 (i := 16) rfl rfl
theorem tw_1_17 : (Jvm.Cond.initialized "java/lang/StringLatin1") ∈ TB := tb_1 (i := 17) rfl rfl
theorem tw_1_18 : (Jvm.Cond.initialized "java/lang/StringUTF16") ∈ TB := tb_1 (i := 18) rfl rfl
theorem tw_1_19 : (Jvm.Cond.initialized "jdk/internal/util/Preconditions") ∈ TB := tb_1 (i := 19) rfl rfl
theorem tw_1_20 : (Jvm.Cond.initialized "java/lang/Character") ∈ TB := tb_1 (i := 20) rfl rfl
theorem tw_1_21 : (Jvm.Cond.initialized "java/lang/System") ∈ TB := tb_1 (i := 21) rfl rfl
theorem tw_1_22 : (Jvm.Cond.initialized "java/util/Arrays") ∈ TB := tb_1 (i := 22) rfl rfl
theorem tw_1_23 : (Jvm.Cond.classLink "OneOfTwoLaw" (7 : Nat) "OneOfTwo") ∈ TB := tb_1 (i := 23) rfl rfl
theorem tw_1_24 : (Jvm.Cond.instantiable "OneOfTwo" (11 : Nat)) ∈ TB := tb_1 (i := 24) rfl rfl
theorem tw_1_25 : (Jvm.Cond.methodLink "OneOfTwoLaw" (9 : Nat) ({ cls := "OneOfTwo", name := "<init>", desc := "()V" } : Jvm.MethodName)) ∈ TB := tb_1 (i := 25) rfl rfl
theorem tw_1_26 : (Jvm.Cond.instanceMethod ({ cls := "OneOfTwo", name := "<init>", desc := "()V" } : Jvm.MethodName)) ∈ TB := tb_1 (i := 26) rfl rfl
theorem tw_1_27 : (Jvm.Cond.code ({ cls := "OneOfTwo", name := "<init>", desc := "()V" } : Jvm.MethodName) prog_1_method_1_code (2 : Nat) (Option.none : Option Jvm.ClassFile.FieldType)) ∈ TB := tb_1 (i := 27) rfl rfl
theorem tw_1_28 : (Jvm.Cond.methodLink "OneOfTwo" (1 : Nat) ({ cls := "java/lang/Object", name := "<init>", desc := "()V" } : Jvm.MethodName)) ∈ TB := tb_1 (i := 28) rfl rfl
theorem tw_1_29 : (Jvm.Cond.instanceMethod ({ cls := "java/lang/Object", name := "<init>", desc := "()V" } : Jvm.MethodName)) ∈ TB := tb_1 (i := 29) rfl rfl
theorem tw_1_30 : (Jvm.Cond.code ({ cls := "java/lang/Object", name := "<init>", desc := "()V" } : Jvm.MethodName) object_method_1_code (1 : Nat) (Option.none : Option Jvm.ClassFile.FieldType)) ∈ TB := tb_1 (i := 30) rfl rfl
theorem tw_1_31 : (Jvm.Cond.classLink "OneOfTwo" (9 : Nat) "OneOfTwo$Lodger") ∈ TB := tb_1 (i := 31) rfl rfl
theorem tw_1_33 : (Jvm.Cond.classLink "OneOfTwo" (19 : Nat) "OneOfTwo$Row") ∈ TB := tb_1 (i := 33) rfl rfl
theorem tw_1_35 : (Jvm.Cond.instantiable "OneOfTwo$Row" (3 : Nat)) ∈ TB := tb_1 (i := 35) rfl rfl
theorem tw_1_36 : (Jvm.Cond.methodLink "OneOfTwo" (25 : Nat) ({ cls := "OneOfTwo$Row", name := "<init>", desc := "(I)V" } : Jvm.MethodName)) ∈ TB := tb_1 (i := 36) rfl rfl
theorem tw_1_37 : (Jvm.Cond.instanceMethod ({ cls := "OneOfTwo$Row", name := "<init>", desc := "(I)V" } : Jvm.MethodName)) ∈ TB := tb_1 (i := 37) rfl rfl
theorem tw_1_38 : (Jvm.Cond.code ({ cls := "OneOfTwo$Row", name := "<init>", desc := "(I)V" } : Jvm.MethodName) prog_6_method_1_code (2 : Nat) (Option.none : Option Jvm.ClassFile.FieldType)) ∈ TB := tb_1 (i := 38) rfl rfl
theorem tw_1_39 : (Jvm.Cond.methodLink "OneOfTwo$Row" (1 : Nat) ({ cls := "java/lang/Object", name := "<init>", desc := "()V" } : Jvm.MethodName)) ∈ TB := tb_1 (i := 39) rfl rfl
theorem tw_1_40 : (Jvm.Cond.fieldLink "OneOfTwo$Row" (16 : Nat) "OneOfTwo$Row" "cells" "[I") ∈ TB := tb_1 (i := 40) rfl rfl
theorem tw_1_41 : (Jvm.Cond.fieldLink "OneOfTwo$Text" (41 : Nat) "OneOfTwo$Row" "cells" "[I") ∈ TB := tb_1 (i := 41) rfl rfl
theorem tw_1_42 : (Jvm.Cond.fieldLink "OneOfTwo$House" (101 : Nat) "OneOfTwo$Row" "cells" "[I") ∈ TB := tb_1 (i := 42) rfl rfl
theorem tw_1_43 : (Jvm.Cond.fieldLink "OneOfTwo" (307 : Nat) "OneOfTwo$Row" "cells" "[I") ∈ TB := tb_1 (i := 43) rfl rfl
theorem tw_1_44 : (Jvm.Cond.fieldLink "OneOfTwo$Row" (7 : Nat) "OneOfTwo$Row" "length" "I") ∈ TB := tb_1 (i := 44) rfl rfl
theorem tw_1_45 : (Jvm.Cond.fieldLink "OneOfTwo$Text" (38 : Nat) "OneOfTwo$Row" "length" "I") ∈ TB := tb_1 (i := 45) rfl rfl
theorem tw_1_46 : (Jvm.Cond.fieldLink "OneOfTwo$House" (92 : Nat) "OneOfTwo$Row" "length" "I") ∈ TB := tb_1 (i := 46) rfl rfl
theorem tw_1_47 : (Jvm.Cond.fieldLink "OneOfTwo" (206 : Nat) "OneOfTwo$Row" "length" "I") ∈ TB := tb_1 (i := 47) rfl rfl
theorem tw_1_48 : (Jvm.Cond.fieldLink "OneOfTwo$Row" (13 : Nat) "OneOfTwo$Row" "bits" "I") ∈ TB := tb_1 (i := 48) rfl rfl
theorem tw_1_49 : (Jvm.Cond.fieldLink "OneOfTwo" (284 : Nat) "OneOfTwo$Row" "bits" "I") ∈ TB := tb_1 (i := 49) rfl rfl
theorem tw_1_50 : (Jvm.Cond.laysFinal "OneOfTwo$Row" "OneOfTwo$Row" "cells" "[I") ∈ TB := tb_1 (i := 50) rfl rfl
theorem tw_1_51 : (Jvm.Cond.soleField "OneOfTwo$Row" "cells") ∈ TB := tb_1 (i := 51) rfl rfl
theorem tw_1_52 : (Jvm.Cond.lays "OneOfTwo$Row" "OneOfTwo$Row" "length" "I") ∈ TB := tb_1 (i := 52) rfl rfl
theorem tw_1_53 : (Jvm.Cond.soleField "OneOfTwo$Row" "length") ∈ TB := tb_1 (i := 53) rfl rfl
theorem tw_1_54 : (Jvm.Cond.lays "OneOfTwo$Row" "OneOfTwo$Row" "bits" "I") ∈ TB := tb_1 (i := 54) rfl rfl
theorem tw_1_55 : (Jvm.Cond.soleField "OneOfTwo$Row" "bits") ∈ TB := tb_1 (i := 55) rfl rfl
theorem tw_1_56 : (Jvm.Cond.superclass "OneOfTwo$Row" "java/lang/Object") ∈ TB := tb_1 (i := 56) rfl rfl
theorem tw_1_57 : (Jvm.Cond.arrayClass Jvm.ClassFile.FieldType.int) ∈ TB := tb_1 (i := 57) rfl rfl
theorem tw_1_58 : (Jvm.Cond.instantiable "OneOfTwo$Lodger" (1 : Nat)) ∈ TB := tb_1 (i := 58) rfl rfl
theorem tw_1_59 : (Jvm.Cond.methodLink "OneOfTwo" (42 : Nat) ({ cls := "OneOfTwo$Lodger", name := "<init>", desc := "(I)V" } : Jvm.MethodName)) ∈ TB := tb_1 (i := 59) rfl rfl
theorem tw_1_60 : (Jvm.Cond.instanceMethod ({ cls := "OneOfTwo$Lodger", name := "<init>", desc := "(I)V" } : Jvm.MethodName)) ∈ TB := tb_1 (i := 60) rfl rfl
theorem tw_1_61 : (Jvm.Cond.code ({ cls := "OneOfTwo$Lodger", name := "<init>", desc := "(I)V" } : Jvm.MethodName) prog_5_method_1_code (2 : Nat) (Option.none : Option Jvm.ClassFile.FieldType)) ∈ TB := tb_1 (i := 61) rfl rfl
theorem tw_1_62 : (Jvm.Cond.methodLink "OneOfTwo$Lodger" (1 : Nat) ({ cls := "java/lang/Object", name := "<init>", desc := "()V" } : Jvm.MethodName)) ∈ TB := tb_1 (i := 62) rfl rfl
theorem tw_1_63 : (Jvm.Cond.fieldLink "OneOfTwo$Lodger" (7 : Nat) "OneOfTwo$Lodger" "number" "I") ∈ TB := tb_1 (i := 63) rfl rfl
theorem tw_1_64 : (Jvm.Cond.fieldLink "OneOfTwo" (179 : Nat) "OneOfTwo$Lodger" "number" "I") ∈ TB := tb_1 (i := 64) rfl rfl
theorem tw_1_65 : (Jvm.Cond.laysFinal "OneOfTwo$Lodger" "OneOfTwo$Lodger" "number" "I") ∈ TB := tb_1 (i := 65) rfl rfl
theorem tw_1_66 : (Jvm.Cond.soleField "OneOfTwo$Lodger" "number") ∈ TB := tb_1 (i := 66) rfl rfl
theorem tw_1_67 : (Jvm.Cond.superclass "OneOfTwo$Lodger" "java/lang/Object") ∈ TB := tb_1 (i := 67) rfl rfl
theorem tw_1_68 : (Jvm.Cond.classLink "OneOfTwo" (43 : Nat) "OneOfTwo$Cougher") ∈ TB := tb_1 (i := 68) rfl rfl
theorem tw_1_69 : (Jvm.Cond.instantiable "OneOfTwo$Cougher" (1 : Nat)) ∈ TB := tb_1 (i := 69) rfl rfl
theorem tw_1_70 : (Jvm.Cond.methodLink "OneOfTwo" (45 : Nat) ({ cls := "OneOfTwo$Cougher", name := "<init>", desc := "(I)V" } : Jvm.MethodName)) ∈ TB := tb_1 (i := 70) rfl rfl
theorem tw_1_71 : (Jvm.Cond.instanceMethod ({ cls := "OneOfTwo$Cougher", name := "<init>", desc := "(I)V" } : Jvm.MethodName)) ∈ TB := tb_1 (i := 71) rfl rfl
theorem tw_1_72 : (Jvm.Cond.code ({ cls := "OneOfTwo$Cougher", name := "<init>", desc := "(I)V" } : Jvm.MethodName) prog_2_method_1_code (2 : Nat) (Option.none : Option Jvm.ClassFile.FieldType)) ∈ TB := tb_1 (i := 72) rfl rfl
theorem tw_1_73 : (Jvm.Cond.methodLink "OneOfTwo$Cougher" (1 : Nat) ({ cls := "OneOfTwo$Lodger", name := "<init>", desc := "(I)V" } : Jvm.MethodName)) ∈ TB := tb_1 (i := 73) rfl rfl
theorem tw_1_74 : (Jvm.Cond.laysFinal "OneOfTwo$Cougher" "OneOfTwo$Lodger" "number" "I") ∈ TB := tb_1 (i := 74) rfl rfl
theorem tw_1_75 : (Jvm.Cond.superclass "OneOfTwo$Cougher" "OneOfTwo$Lodger") ∈ TB := tb_1 (i := 75) rfl rfl
theorem tw_1_76 : (Jvm.Cond.classLink "OneOfTwo" (46 : Nat) "OneOfTwo$Smoker") ∈ TB := tb_1 (i := 76) rfl rfl
theorem tw_1_77 : (Jvm.Cond.instantiable "OneOfTwo$Smoker" (1 : Nat)) ∈ TB := tb_1 (i := 77) rfl rfl
theorem tw_1_78 : (Jvm.Cond.methodLink "OneOfTwo" (48 : Nat) ({ cls := "OneOfTwo$Smoker", name := "<init>", desc := "(I)V" } : Jvm.MethodName)) ∈ TB := tb_1 (i := 78) rfl rfl
theorem tw_1_79 : (Jvm.Cond.instanceMethod ({ cls := "OneOfTwo$Smoker", name := "<init>", desc := "(I)V" } : Jvm.MethodName)) ∈ TB := tb_1 (i := 79) rfl rfl
theorem tw_1_80 : (Jvm.Cond.code ({ cls := "OneOfTwo$Smoker", name := "<init>", desc := "(I)V" } : Jvm.MethodName) prog_9_method_1_code (2 : Nat) (Option.none : Option Jvm.ClassFile.FieldType)) ∈ TB := tb_1 (i := 80) rfl rfl
theorem tw_1_81 : (Jvm.Cond.methodLink "OneOfTwo$Smoker" (1 : Nat) ({ cls := "OneOfTwo$Lodger", name := "<init>", desc := "(I)V" } : Jvm.MethodName)) ∈ TB := tb_1 (i := 81) rfl rfl
theorem tw_1_82 : (Jvm.Cond.laysFinal "OneOfTwo$Smoker" "OneOfTwo$Lodger" "number" "I") ∈ TB := tb_1 (i := 82) rfl rfl
theorem tw_1_83 : (Jvm.Cond.superclass "OneOfTwo$Smoker" "OneOfTwo$Lodger") ∈ TB := tb_1 (i := 83) rfl rfl
theorem tw_1_84 : (Jvm.Cond.classLink "OneOfTwo" (49 : Nat) "OneOfTwo$Sleeper") ∈ TB := tb_1 (i := 84) rfl rfl
theorem tw_1_85 : (Jvm.Cond.instantiable "OneOfTwo$Sleeper" (1 : Nat)) ∈ TB := tb_1 (i := 85) rfl rfl
theorem tw_1_86 : (Jvm.Cond.methodLink "OneOfTwo" (51 : Nat) ({ cls := "OneOfTwo$Sleeper", name := "<init>", desc := "(I)V" } : Jvm.MethodName)) ∈ TB := tb_1 (i := 86) rfl rfl
theorem tw_1_87 : (Jvm.Cond.instanceMethod ({ cls := "OneOfTwo$Sleeper", name := "<init>", desc := "(I)V" } : Jvm.MethodName)) ∈ TB := tb_1 (i := 87) rfl rfl
theorem tw_1_88 : (Jvm.Cond.code ({ cls := "OneOfTwo$Sleeper", name := "<init>", desc := "(I)V" } : Jvm.MethodName) prog_8_method_1_code (2 : Nat) (Option.none : Option Jvm.ClassFile.FieldType)) ∈ TB := tb_1 (i := 88) rfl rfl
theorem tw_1_89 : (Jvm.Cond.methodLink "OneOfTwo$Sleeper" (1 : Nat) ({ cls := "OneOfTwo$Lodger", name := "<init>", desc := "(I)V" } : Jvm.MethodName)) ∈ TB := tb_1 (i := 89) rfl rfl
theorem tw_1_90 : (Jvm.Cond.laysFinal "OneOfTwo$Sleeper" "OneOfTwo$Lodger" "number" "I") ∈ TB := tb_1 (i := 90) rfl rfl
theorem tw_1_91 : (Jvm.Cond.superclass "OneOfTwo$Sleeper" "OneOfTwo$Lodger") ∈ TB := tb_1 (i := 91) rfl rfl
theorem tw_1_92 : (Jvm.Cond.classLink "OneOfTwo" (52 : Nat) "OneOfTwo$Fevered") ∈ TB := tb_1 (i := 92) rfl rfl
theorem tw_1_93 : (Jvm.Cond.instantiable "OneOfTwo$Fevered" (1 : Nat)) ∈ TB := tb_1 (i := 93) rfl rfl
theorem tw_1_94 : (Jvm.Cond.methodLink "OneOfTwo" (54 : Nat) ({ cls := "OneOfTwo$Fevered", name := "<init>", desc := "(I)V" } : Jvm.MethodName)) ∈ TB := tb_1 (i := 94) rfl rfl
theorem tw_1_95 : (Jvm.Cond.instanceMethod ({ cls := "OneOfTwo$Fevered", name := "<init>", desc := "(I)V" } : Jvm.MethodName)) ∈ TB := tb_1 (i := 95) rfl rfl
theorem tw_1_96 : (Jvm.Cond.code ({ cls := "OneOfTwo$Fevered", name := "<init>", desc := "(I)V" } : Jvm.MethodName) prog_3_method_1_code (2 : Nat) (Option.none : Option Jvm.ClassFile.FieldType)) ∈ TB := tb_1 (i := 96) rfl rfl
theorem tw_1_97 : (Jvm.Cond.methodLink "OneOfTwo$Fevered" (1 : Nat) ({ cls := "OneOfTwo$Cougher", name := "<init>", desc := "(I)V" } : Jvm.MethodName)) ∈ TB := tb_1 (i := 97) rfl rfl
theorem tw_1_98 : (Jvm.Cond.laysFinal "OneOfTwo$Fevered" "OneOfTwo$Lodger" "number" "I") ∈ TB := tb_1 (i := 98) rfl rfl
theorem tw_1_99 : (Jvm.Cond.superclass "OneOfTwo$Fevered" "OneOfTwo$Cougher") ∈ TB := tb_1 (i := 99) rfl rfl
theorem tw_1_100 : (Jvm.Cond.classLink "OneOfTwo" (55 : Nat) "OneOfTwo$Strong") ∈ TB := tb_1 (i := 100) rfl rfl
theorem tw_1_101 : (Jvm.Cond.instantiable "OneOfTwo$Strong" (1 : Nat)) ∈ TB := tb_1 (i := 101) rfl rfl
theorem tw_1_102 : (Jvm.Cond.methodLink "OneOfTwo" (57 : Nat) ({ cls := "OneOfTwo$Strong", name := "<init>", desc := "(I)V" } : Jvm.MethodName)) ∈ TB := tb_1 (i := 102) rfl rfl
theorem tw_1_103 : (Jvm.Cond.instanceMethod ({ cls := "OneOfTwo$Strong", name := "<init>", desc := "(I)V" } : Jvm.MethodName)) ∈ TB := tb_1 (i := 103) rfl rfl
theorem tw_1_104 : (Jvm.Cond.code ({ cls := "OneOfTwo$Strong", name := "<init>", desc := "(I)V" } : Jvm.MethodName) prog_11_method_1_code (2 : Nat) (Option.none : Option Jvm.ClassFile.FieldType)) ∈ TB := tb_1 (i := 104) rfl rfl
theorem tw_1_105 : (Jvm.Cond.methodLink "OneOfTwo$Strong" (1 : Nat) ({ cls := "OneOfTwo$Smoker", name := "<init>", desc := "(I)V" } : Jvm.MethodName)) ∈ TB := tb_1 (i := 105) rfl rfl
theorem tw_1_106 : (Jvm.Cond.laysFinal "OneOfTwo$Strong" "OneOfTwo$Lodger" "number" "I") ∈ TB := tb_1 (i := 106) rfl rfl
theorem tw_1_107 : (Jvm.Cond.superclass "OneOfTwo$Strong" "OneOfTwo$Smoker") ∈ TB := tb_1 (i := 107) rfl rfl
theorem tw_1_108 : (Jvm.Cond.classLink "OneOfTwo" (58 : Nat) "OneOfTwo$Spiteful") ∈ TB := tb_1 (i := 108) rfl rfl
theorem tw_1_109 : (Jvm.Cond.instantiable "OneOfTwo$Spiteful" (1 : Nat)) ∈ TB := tb_1 (i := 109) rfl rfl
theorem tw_1_110 : (Jvm.Cond.methodLink "OneOfTwo" (60 : Nat) ({ cls := "OneOfTwo$Spiteful", name := "<init>", desc := "(I)V" } : Jvm.MethodName)) ∈ TB := tb_1 (i := 110) rfl rfl
theorem tw_1_111 : (Jvm.Cond.instanceMethod ({ cls := "OneOfTwo$Spiteful", name := "<init>", desc := "(I)V" } : Jvm.MethodName)) ∈ TB := tb_1 (i := 111) rfl rfl
theorem tw_1_112 : (Jvm.Cond.code ({ cls := "OneOfTwo$Spiteful", name := "<init>", desc := "(I)V" } : Jvm.MethodName) prog_10_method_1_code (2 : Nat) (Option.none : Option Jvm.ClassFile.FieldType)) ∈ TB := tb_1 (i := 112) rfl rfl
theorem tw_1_113 : (Jvm.Cond.methodLink "OneOfTwo$Spiteful" (1 : Nat) ({ cls := "OneOfTwo$Sleeper", name := "<init>", desc := "(I)V" } : Jvm.MethodName)) ∈ TB := tb_1 (i := 113) rfl rfl
theorem tw_1_114 : (Jvm.Cond.laysFinal "OneOfTwo$Spiteful" "OneOfTwo$Lodger" "number" "I") ∈ TB := tb_1 (i := 114) rfl rfl
theorem tw_1_115 : (Jvm.Cond.superclass "OneOfTwo$Spiteful" "OneOfTwo$Sleeper") ∈ TB := tb_1 (i := 115) rfl rfl
theorem tw_1_116 : (Jvm.Cond.classLink "OneOfTwo" (61 : Nat) "OneOfTwo$House") ∈ TB := tb_1 (i := 116) rfl rfl
theorem tw_1_117 : (Jvm.Cond.instantiable "OneOfTwo$House" (19 : Nat)) ∈ TB := tb_1 (i := 117) rfl rfl
theorem tw_1_118 : (Jvm.Cond.methodLink "OneOfTwo" (63 : Nat) ({ cls := "OneOfTwo$House", name := "<init>", desc := "(LOneOfTwo$Lodger;)V" } : Jvm.MethodName)) ∈ TB := tb_1 (i := 118) rfl rfl
theorem tw_1_119 : (Jvm.Cond.instanceMethod ({ cls := "OneOfTwo$House", name := "<init>", desc := "(LOneOfTwo$Lodger;)V" } : Jvm.MethodName)) ∈ TB := tb_1 (i := 119) rfl rfl
theorem tw_1_120 : (Jvm.Cond.code ({ cls := "OneOfTwo$House", name := "<init>", desc := "(LOneOfTwo$Lodger;)V" } : Jvm.MethodName) prog_4_method_1_code (3 : Nat) (Option.none : Option Jvm.ClassFile.FieldType)) ∈ TB := tb_1 (i := 120) rfl rfl
theorem tw_1_121 : (Jvm.Cond.methodLink "OneOfTwo$House" (3 : Nat) ({ cls := "java/lang/Object", name := "<init>", desc := "()V" } : Jvm.MethodName)) ∈ TB := tb_1 (i := 121) rfl rfl
theorem tw_1_122 : (Jvm.Cond.classLink "OneOfTwo$House" (34 : Nat) "OneOfTwo$Lodger") ∈ TB := tb_1 (i := 122) rfl rfl
theorem tw_1_123 : (Jvm.Cond.classLink "OneOfTwo$House" (64 : Nat) "OneOfTwo$Row") ∈ TB := tb_1 (i := 123) rfl rfl
theorem tw_1_124 : (Jvm.Cond.methodLink "OneOfTwo$House" (66 : Nat) ({ cls := "OneOfTwo$Row", name := "<init>", desc := "(I)V" } : Jvm.MethodName)) ∈ TB := tb_1 (i := 124) rfl rfl
theorem tw_1_125 : (Jvm.Cond.classLink "OneOfTwo$House" (76 : Nat) "OneOfTwo$Text") ∈ TB := tb_1 (i := 125) rfl rfl
theorem tw_1_127 : (Jvm.Cond.fieldLink "OneOfTwo$House" (9 : Nat) "OneOfTwo$House" "windows" "I") ∈ TB := tb_1 (i := 127) rfl rfl
theorem tw_1_128 : (Jvm.Cond.fieldLink "OneOfTwo" (96 : Nat) "OneOfTwo$House" "windows" "I") ∈ TB := tb_1 (i := 128) rfl rfl
theorem tw_1_129 : (Jvm.Cond.fieldLink "OneOfTwo$Search" (91 : Nat) "OneOfTwo$House" "windows" "I") ∈ TB := tb_1 (i := 129) rfl rfl
theorem tw_1_130 : (Jvm.Cond.fieldLink "OneOfTwo$House" (15 : Nat) "OneOfTwo$House" "cords" "I") ∈ TB := tb_1 (i := 130) rfl rfl
theorem tw_1_131 : (Jvm.Cond.fieldLink "OneOfTwo" (108 : Nat) "OneOfTwo$House" "cords" "I") ∈ TB := tb_1 (i := 131) rfl rfl
theorem tw_1_132 : (Jvm.Cond.fieldLink "OneOfTwo$Search" (100 : Nat) "OneOfTwo$House" "cords" "I") ∈ TB := tb_1 (i := 132) rfl rfl
theorem tw_1_133 : (Jvm.Cond.fieldLink "OneOfTwo$House" (18 : Nat) "OneOfTwo$House" "lodgers" "I") ∈ TB := tb_1 (i := 133) rfl rfl
theorem tw_1_134 : (Jvm.Cond.fieldLink "OneOfTwo$Search" (78 : Nat) "OneOfTwo$House" "lodgers" "I") ∈ TB := tb_1 (i := 134) rfl rfl
theorem tw_1_135 : (Jvm.Cond.fieldLink "OneOfTwo" (163 : Nat) "OneOfTwo$House" "lodgers" "I") ∈ TB := tb_1 (i := 135) rfl rfl
theorem tw_1_136 : (Jvm.Cond.fieldLink "OneOfTwo$House" (21 : Nat) "OneOfTwo$House" "room" "[I") ∈ TB := tb_1 (i := 136) rfl rfl
theorem tw_1_137 : (Jvm.Cond.fieldLink "OneOfTwo$Search" (97 : Nat) "OneOfTwo$House" "room" "[I") ∈ TB := tb_1 (i := 137) rfl rfl
theorem tw_1_138 : (Jvm.Cond.fieldLink "OneOfTwo" (124 : Nat) "OneOfTwo$House" "room" "[I") ∈ TB := tb_1 (i := 138) rfl rfl
theorem tw_1_139 : (Jvm.Cond.fieldLink "OneOfTwo$House" (25 : Nat) "OneOfTwo$House" "open" "[I") ∈ TB := tb_1 (i := 139) rfl rfl
theorem tw_1_140 : (Jvm.Cond.fieldLink "OneOfTwo$Search" (69 : Nat) "OneOfTwo$House" "open" "[I") ∈ TB := tb_1 (i := 140) rfl rfl
theorem tw_1_141 : (Jvm.Cond.fieldLink "OneOfTwo" (127 : Nat) "OneOfTwo$House" "open" "[I") ∈ TB := tb_1 (i := 141) rfl rfl
theorem tw_1_142 : (Jvm.Cond.fieldLink "OneOfTwo$House" (28 : Nat) "OneOfTwo$House" "cordOf" "[I") ∈ TB := tb_1 (i := 142) rfl rfl
theorem tw_1_143 : (Jvm.Cond.fieldLink "OneOfTwo" (130 : Nat) "OneOfTwo$House" "cordOf" "[I") ∈ TB := tb_1 (i := 143) rfl rfl
theorem tw_1_144 : (Jvm.Cond.fieldLink "OneOfTwo$Search" (118 : Nat) "OneOfTwo$House" "cordOf" "[I") ∈ TB := tb_1 (i := 144) rfl rfl
theorem tw_1_145 : (Jvm.Cond.fieldLink "OneOfTwo$House" (31 : Nat) "OneOfTwo$House" "swollen" "[I") ∈ TB := tb_1 (i := 145) rfl rfl
theorem tw_1_146 : (Jvm.Cond.fieldLink "OneOfTwo" (133 : Nat) "OneOfTwo$House" "swollen" "[I") ∈ TB := tb_1 (i := 146) rfl rfl
theorem tw_1_147 : (Jvm.Cond.fieldLink "OneOfTwo$Search" (115 : Nat) "OneOfTwo$House" "swollen" "[I") ∈ TB := tb_1 (i := 147) rfl rfl
theorem tw_1_148 : (Jvm.Cond.fieldLink "OneOfTwo$House" (36 : Nat) "OneOfTwo$House" "kind" "[LOneOfTwo$Lodger;") ∈ TB := tb_1 (i := 148) rfl rfl
theorem tw_1_149 : (Jvm.Cond.fieldLink "OneOfTwo" (176 : Nat) "OneOfTwo$House" "kind" "[LOneOfTwo$Lodger;") ∈ TB := tb_1 (i := 149) rfl rfl
theorem tw_1_150 : (Jvm.Cond.fieldLink "OneOfTwo$House" (40 : Nat) "OneOfTwo$House" "m" "[I") ∈ TB := tb_1 (i := 150) rfl rfl
theorem tw_1_151 : (Jvm.Cond.fieldLink "OneOfTwo" (182 : Nat) "OneOfTwo$House" "m" "[I") ∈ TB := tb_1 (i := 151) rfl rfl
theorem tw_1_152 : (Jvm.Cond.fieldLink "OneOfTwo$House" (43 : Nat) "OneOfTwo$House" "at" "[I") ∈ TB := tb_1 (i := 152) rfl rfl
theorem tw_1_153 : (Jvm.Cond.fieldLink "OneOfTwo$Search" (106 : Nat) "OneOfTwo$House" "at" "[I") ∈ TB := tb_1 (i := 153) rfl rfl
theorem tw_1_154 : (Jvm.Cond.fieldLink "OneOfTwo" (170 : Nat) "OneOfTwo$House" "at" "[I") ∈ TB := tb_1 (i := 154) rfl rfl
theorem tw_1_155 : (Jvm.Cond.fieldLink "OneOfTwo$House" (46 : Nat) "OneOfTwo$House" "hour" "I") ∈ TB := tb_1 (i := 155) rfl rfl
theorem tw_1_156 : (Jvm.Cond.fieldLink "OneOfTwo" (244 : Nat) "OneOfTwo$House" "hour" "I") ∈ TB := tb_1 (i := 156) rfl rfl
theorem tw_1_157 : (Jvm.Cond.fieldLink "OneOfTwo$House" (49 : Nat) "OneOfTwo$House" "day" "I") ∈ TB := tb_1 (i := 157) rfl rfl
theorem tw_1_158 : (Jvm.Cond.fieldLink "OneOfTwo" (329 : Nat) "OneOfTwo$House" "day" "I") ∈ TB := tb_1 (i := 158) rfl rfl
theorem tw_1_159 : (Jvm.Cond.fieldLink "OneOfTwo$House" (52 : Nat) "OneOfTwo$House" "quiet" "I") ∈ TB := tb_1 (i := 159) rfl rfl
theorem tw_1_160 : (Jvm.Cond.fieldLink "OneOfTwo" (238 : Nat) "OneOfTwo$House" "quiet" "I") ∈ TB := tb_1 (i := 160) rfl rfl
theorem tw_1_161 : (Jvm.Cond.fieldLink "OneOfTwo$House" (55 : Nat) "OneOfTwo$House" "lockFrom" "I") ∈ TB := tb_1 (i := 161) rfl rfl
theorem tw_1_162 : (Jvm.Cond.fieldLink "OneOfTwo" (247 : Nat) "OneOfTwo$House" "lockFrom" "I") ∈ TB := tb_1 (i := 162) rfl rfl
theorem tw_1_163 : (Jvm.Cond.fieldLink "OneOfTwo$House" (58 : Nat) "OneOfTwo$House" "lockTo" "I") ∈ TB := tb_1 (i := 163) rfl rfl
theorem tw_1_164 : (Jvm.Cond.fieldLink "OneOfTwo" (250 : Nat) "OneOfTwo$House" "lockTo" "I") ∈ TB := tb_1 (i := 164) rfl rfl
theorem tw_1_165 : (Jvm.Cond.fieldLink "OneOfTwo$House" (61 : Nat) "OneOfTwo$House" "z" "I") ∈ TB := tb_1 (i := 165) rfl rfl
theorem tw_1_166 : (Jvm.Cond.fieldLink "OneOfTwo" (291 : Nat) "OneOfTwo$House" "z" "I") ∈ TB := tb_1 (i := 166) rfl rfl
theorem tw_1_167 : (Jvm.Cond.fieldLink "OneOfTwo$House" (69 : Nat) "OneOfTwo$House" "tape" "LOneOfTwo$Row;") ∈ TB := tb_1 (i := 167) rfl rfl
theorem tw_1_168 : (Jvm.Cond.fieldLink "OneOfTwo" (203 : Nat) "OneOfTwo$House" "tape" "LOneOfTwo$Row;") ∈ TB := tb_1 (i := 168) rfl rfl
theorem tw_1_169 : (Jvm.Cond.fieldLink "OneOfTwo$House" (73 : Nat) "OneOfTwo$House" "waiting" "LOneOfTwo$Row;") ∈ TB := tb_1 (i := 169) rfl rfl
theorem tw_1_170 : (Jvm.Cond.fieldLink "OneOfTwo" (326 : Nat) "OneOfTwo$House" "waiting" "LOneOfTwo$Row;") ∈ TB := tb_1 (i := 170) rfl rfl
theorem tw_1_171 : (Jvm.Cond.fieldLink "OneOfTwo$House" (78 : Nat) "OneOfTwo$House" "laws" "[LOneOfTwo$Text;") ∈ TB := tb_1 (i := 171) rfl rfl
theorem tw_1_172 : (Jvm.Cond.fieldLink "OneOfTwo" (224 : Nat) "OneOfTwo$House" "laws" "[LOneOfTwo$Text;") ∈ TB := tb_1 (i := 172) rfl rfl
theorem tw_1_173 : (Jvm.Cond.lays "OneOfTwo$House" "OneOfTwo$House" "windows" "I") ∈ TB := tb_1 (i := 173) rfl rfl
theorem tw_1_174 : (Jvm.Cond.soleField "OneOfTwo$House" "windows") ∈ TB := tb_1 (i := 174) rfl rfl
theorem tw_1_175 : (Jvm.Cond.lays "OneOfTwo$House" "OneOfTwo$House" "cords" "I") ∈ TB := tb_1 (i := 175) rfl rfl
theorem tw_1_176 : (Jvm.Cond.soleField "OneOfTwo$House" "cords") ∈ TB := tb_1 (i := 176) rfl rfl
theorem tw_1_177 : (Jvm.Cond.lays "OneOfTwo$House" "OneOfTwo$House" "lodgers" "I") ∈ TB := tb_1 (i := 177) rfl rfl
theorem tw_1_178 : (Jvm.Cond.soleField "OneOfTwo$House" "lodgers") ∈ TB := tb_1 (i := 178) rfl rfl
theorem tw_1_179 : (Jvm.Cond.laysFinal "OneOfTwo$House" "OneOfTwo$House" "room" "[I") ∈ TB := tb_1 (i := 179) rfl rfl
theorem tw_1_180 : (Jvm.Cond.soleField "OneOfTwo$House" "room") ∈ TB := tb_1 (i := 180) rfl rfl
theorem tw_1_181 : (Jvm.Cond.laysFinal "OneOfTwo$House" "OneOfTwo$House" "open" "[I") ∈ TB := tb_1 (i := 181) rfl rfl
theorem tw_1_182 : (Jvm.Cond.soleField "OneOfTwo$House" "open") ∈ TB := tb_1 (i := 182) rfl rfl
theorem tw_1_183 : (Jvm.Cond.laysFinal "OneOfTwo$House" "OneOfTwo$House" "cordOf" "[I") ∈ TB := tb_1 (i := 183) rfl rfl
theorem tw_1_184 : (Jvm.Cond.soleField "OneOfTwo$House" "cordOf") ∈ TB := tb_1 (i := 184) rfl rfl
theorem tw_1_185 : (Jvm.Cond.laysFinal "OneOfTwo$House" "OneOfTwo$House" "swollen" "[I") ∈ TB := tb_1 (i := 185) rfl rfl
theorem tw_1_186 : (Jvm.Cond.soleField "OneOfTwo$House" "swollen") ∈ TB := tb_1 (i := 186) rfl rfl
theorem tw_1_187 : (Jvm.Cond.laysFinal "OneOfTwo$House" "OneOfTwo$House" "kind" "[LOneOfTwo$Lodger;") ∈ TB := tb_1 (i := 187) rfl rfl
theorem tw_1_188 : (Jvm.Cond.soleField "OneOfTwo$House" "kind") ∈ TB := tb_1 (i := 188) rfl rfl
theorem tw_1_189 : (Jvm.Cond.laysFinal "OneOfTwo$House" "OneOfTwo$House" "m" "[I") ∈ TB := tb_1 (i := 189) rfl rfl
theorem tw_1_190 : (Jvm.Cond.soleField "OneOfTwo$House" "m") ∈ TB := tb_1 (i := 190) rfl rfl
theorem tw_1_191 : (Jvm.Cond.laysFinal "OneOfTwo$House" "OneOfTwo$House" "at" "[I") ∈ TB := tb_1 (i := 191) rfl rfl
theorem tw_1_192 : (Jvm.Cond.soleField "OneOfTwo$House" "at") ∈ TB := tb_1 (i := 192) rfl rfl
theorem tw_1_193 : (Jvm.Cond.lays "OneOfTwo$House" "OneOfTwo$House" "hour" "I") ∈ TB := tb_1 (i := 193) rfl rfl
theorem tw_1_194 : (Jvm.Cond.soleField "OneOfTwo$House" "hour") ∈ TB := tb_1 (i := 194) rfl rfl
theorem tw_1_195 : (Jvm.Cond.lays "OneOfTwo$House" "OneOfTwo$House" "day" "I") ∈ TB := tb_1 (i := 195) rfl rfl
theorem tw_1_196 : (Jvm.Cond.soleField "OneOfTwo$House" "day") ∈ TB := tb_1 (i := 196) rfl rfl
theorem tw_1_197 : (Jvm.Cond.lays "OneOfTwo$House" "OneOfTwo$House" "quiet" "I") ∈ TB := tb_1 (i := 197) rfl rfl
theorem tw_1_198 : (Jvm.Cond.soleField "OneOfTwo$House" "quiet") ∈ TB := tb_1 (i := 198) rfl rfl
theorem tw_1_199 : (Jvm.Cond.lays "OneOfTwo$House" "OneOfTwo$House" "lockFrom" "I") ∈ TB := tb_1 (i := 199) rfl rfl
theorem tw_1_200 : (Jvm.Cond.soleField "OneOfTwo$House" "lockFrom") ∈ TB := tb_1 (i := 200) rfl rfl
theorem tw_1_201 : (Jvm.Cond.lays "OneOfTwo$House" "OneOfTwo$House" "lockTo" "I") ∈ TB := tb_1 (i := 201) rfl rfl
theorem tw_1_202 : (Jvm.Cond.soleField "OneOfTwo$House" "lockTo") ∈ TB := tb_1 (i := 202) rfl rfl
theorem tw_1_203 : (Jvm.Cond.lays "OneOfTwo$House" "OneOfTwo$House" "z" "I") ∈ TB := tb_1 (i := 203) rfl rfl
theorem tw_1_204 : (Jvm.Cond.soleField "OneOfTwo$House" "z") ∈ TB := tb_1 (i := 204) rfl rfl
theorem tw_1_205 : (Jvm.Cond.laysFinal "OneOfTwo$House" "OneOfTwo$House" "tape" "LOneOfTwo$Row;") ∈ TB := tb_1 (i := 205) rfl rfl
theorem tw_1_206 : (Jvm.Cond.soleField "OneOfTwo$House" "tape") ∈ TB := tb_1 (i := 206) rfl rfl
theorem tw_1_207 : (Jvm.Cond.laysFinal "OneOfTwo$House" "OneOfTwo$House" "waiting" "LOneOfTwo$Row;") ∈ TB := tb_1 (i := 207) rfl rfl
theorem tw_1_208 : (Jvm.Cond.soleField "OneOfTwo$House" "waiting") ∈ TB := tb_1 (i := 208) rfl rfl
theorem tw_1_209 : (Jvm.Cond.laysFinal "OneOfTwo$House" "OneOfTwo$House" "laws" "[LOneOfTwo$Text;") ∈ TB := tb_1 (i := 209) rfl rfl
theorem tw_1_210 : (Jvm.Cond.soleField "OneOfTwo$House" "laws") ∈ TB := tb_1 (i := 210) rfl rfl
theorem tw_1_211 : (Jvm.Cond.superclass "OneOfTwo$House" "java/lang/Object") ∈ TB := tb_1 (i := 211) rfl rfl
theorem tw_1_212 : (Jvm.Cond.classLink "OneOfTwo" (76 : Nat) "OneOfTwo$Search") ∈ TB := tb_1 (i := 212) rfl rfl
theorem tw_1_213 : (Jvm.Cond.instantiable "OneOfTwo$Search" (10 : Nat)) ∈ TB := tb_1 (i := 213) rfl rfl
theorem tw_1_214 : (Jvm.Cond.methodLink "OneOfTwo" (78 : Nat) ({ cls := "OneOfTwo$Search", name := "<init>", desc := "(LOneOfTwo$House;)V" } : Jvm.MethodName)) ∈ TB := tb_1 (i := 214) rfl rfl
theorem tw_1_215 : (Jvm.Cond.instanceMethod ({ cls := "OneOfTwo$Search", name := "<init>", desc := "(LOneOfTwo$House;)V" } : Jvm.MethodName)) ∈ TB := tb_1 (i := 215) rfl rfl
theorem tw_1_216 : (Jvm.Cond.code ({ cls := "OneOfTwo$Search", name := "<init>", desc := "(LOneOfTwo$House;)V" } : Jvm.MethodName) prog_7_method_1_code (2 : Nat) (Option.none : Option Jvm.ClassFile.FieldType)) ∈ TB := tb_1 (i := 216) rfl rfl
theorem tw_1_217 : (Jvm.Cond.methodLink "OneOfTwo$Search" (3 : Nat) ({ cls := "java/lang/Object", name := "<init>", desc := "()V" } : Jvm.MethodName)) ∈ TB := tb_1 (i := 217) rfl rfl
theorem tw_1_218 : (Jvm.Cond.fieldLink "OneOfTwo$Search" (40 : Nat) "OneOfTwo$Search" "house" "LOneOfTwo$House;") ∈ TB := tb_1 (i := 218) rfl rfl
theorem tw_1_219 : (Jvm.Cond.fieldLink "OneOfTwo$Search" (9 : Nat) "OneOfTwo$Search" "row" "[I") ∈ TB := tb_1 (i := 219) rfl rfl
theorem tw_1_220 : (Jvm.Cond.fieldLink "OneOfTwo$Search" (15 : Nat) "OneOfTwo$Search" "roomOpen" "[I") ∈ TB := tb_1 (i := 220) rfl rfl
theorem tw_1_221 : (Jvm.Cond.fieldLink "OneOfTwo$Search" (18 : Nat) "OneOfTwo$Search" "cordRest" "[I") ∈ TB := tb_1 (i := 221) rfl rfl
theorem tw_1_222 : (Jvm.Cond.fieldLink "OneOfTwo$Search" (21 : Nat) "OneOfTwo$Search" "cordLeft" "[I") ∈ TB := tb_1 (i := 222) rfl rfl
theorem tw_1_223 : (Jvm.Cond.fieldLink "OneOfTwo$Search" (24 : Nat) "OneOfTwo$Search" "cordLast" "[I") ∈ TB := tb_1 (i := 223) rfl rfl
theorem tw_1_224 : (Jvm.Cond.fieldLink "OneOfTwo$Search" (27 : Nat) "OneOfTwo$Search" "settled" "[I") ∈ TB := tb_1 (i := 224) rfl rfl
theorem tw_1_225 : (Jvm.Cond.fieldLink "OneOfTwo$Search" (30 : Nat) "OneOfTwo$Search" "best" "[I") ∈ TB := tb_1 (i := 225) rfl rfl
theorem tw_1_226 : (Jvm.Cond.fieldLink "OneOfTwo" (272 : Nat) "OneOfTwo$Search" "best" "[I") ∈ TB := tb_1 (i := 226) rfl rfl
theorem tw_1_227 : (Jvm.Cond.fieldLink "OneOfTwo$Search" (33 : Nat) "OneOfTwo$Search" "bestContent" "I") ∈ TB := tb_1 (i := 227) rfl rfl
theorem tw_1_228 : (Jvm.Cond.fieldLink "OneOfTwo" (275 : Nat) "OneOfTwo$Search" "bestContent" "I") ∈ TB := tb_1 (i := 228) rfl rfl
theorem tw_1_229 : (Jvm.Cond.fieldLink "OneOfTwo$Search" (37 : Nat) "OneOfTwo$Search" "bestPulls" "I") ∈ TB := tb_1 (i := 229) rfl rfl
theorem tw_1_230 : (Jvm.Cond.fieldLink "OneOfTwo" (268 : Nat) "OneOfTwo$Search" "bestPulls" "I") ∈ TB := tb_1 (i := 230) rfl rfl
theorem tw_1_231 : (Jvm.Cond.laysFinal "OneOfTwo$Search" "OneOfTwo$Search" "house" "LOneOfTwo$House;") ∈ TB := tb_1 (i := 231) rfl rfl
theorem tw_1_232 : (Jvm.Cond.soleField "OneOfTwo$Search" "house") ∈ TB := tb_1 (i := 232) rfl rfl
theorem tw_1_233 : (Jvm.Cond.laysFinal "OneOfTwo$Search" "OneOfTwo$Search" "row" "[I") ∈ TB := tb_1 (i := 233) rfl rfl
theorem tw_1_234 : (Jvm.Cond.soleField "OneOfTwo$Search" "row") ∈ TB := tb_1 (i := 234) rfl rfl
theorem tw_1_235 : (Jvm.Cond.laysFinal "OneOfTwo$Search" "OneOfTwo$Search" "roomOpen" "[I") ∈ TB := tb_1 (i := 235) rfl rfl
theorem tw_1_236 : (Jvm.Cond.soleField "OneOfTwo$Search" "roomOpen") ∈ TB := tb_1 (i := 236) rfl rfl
theorem tw_1_237 : (Jvm.Cond.laysFinal "OneOfTwo$Search" "OneOfTwo$Search" "cordRest" "[I") ∈ TB := tb_1 (i := 237) rfl rfl
theorem tw_1_238 : (Jvm.Cond.soleField "OneOfTwo$Search" "cordRest") ∈ TB := tb_1 (i := 238) rfl rfl
theorem tw_1_239 : (Jvm.Cond.laysFinal "OneOfTwo$Search" "OneOfTwo$Search" "cordLeft" "[I") ∈ TB := tb_1 (i := 239) rfl rfl
theorem tw_2_0 : (Jvm.Cond.soleField "OneOfTwo$Search" "cordLeft") ∈ TB := tb_2 (i := 0) rfl rfl
theorem tw_2_1 : (Jvm.Cond.laysFinal "OneOfTwo$Search" "OneOfTwo$Search" "cordLast" "[I") ∈ TB := tb_2 (i := 1) rfl rfl
theorem tw_2_2 : (Jvm.Cond.soleField "OneOfTwo$Search" "cordLast") ∈ TB := tb_2 (i := 2) rfl rfl
theorem tw_2_3 : (Jvm.Cond.laysFinal "OneOfTwo$Search" "OneOfTwo$Search" "settled" "[I") ∈ TB := tb_2 (i := 3) rfl rfl
theorem tw_2_4 : (Jvm.Cond.soleField "OneOfTwo$Search" "settled") ∈ TB := tb_2 (i := 4) rfl rfl
theorem tw_2_5 : (Jvm.Cond.laysFinal "OneOfTwo$Search" "OneOfTwo$Search" "best" "[I") ∈ TB := tb_2 (i := 5) rfl rfl
theorem tw_2_6 : (Jvm.Cond.soleField "OneOfTwo$Search" "best") ∈ TB := tb_2 (i := 6) rfl rfl
theorem tw_2_7 : (Jvm.Cond.lays "OneOfTwo$Search" "OneOfTwo$Search" "bestContent" "I") ∈ TB := tb_2 (i := 7) rfl rfl
theorem tw_2_8 : (Jvm.Cond.soleField "OneOfTwo$Search" "bestContent") ∈ TB := tb_2 (i := 8) rfl rfl
theorem tw_2_9 : (Jvm.Cond.lays "OneOfTwo$Search" "OneOfTwo$Search" "bestPulls" "I") ∈ TB := tb_2 (i := 9) rfl rfl
theorem tw_2_10 : (Jvm.Cond.soleField "OneOfTwo$Search" "bestPulls") ∈ TB := tb_2 (i := 10) rfl rfl
theorem tw_2_11 : (Jvm.Cond.superclass "OneOfTwo$Search" "java/lang/Object") ∈ TB := tb_2 (i := 11) rfl rfl
theorem tw_2_12 : (Jvm.Cond.fieldLink "OneOfTwo" (11 : Nat) "OneOfTwo" "kinds" "[LOneOfTwo$Lodger;") ∈ TB := tb_2 (i := 12) rfl rfl
theorem tw_2_13 : (Jvm.Cond.fieldLink "OneOfTwo" (15 : Nat) "OneOfTwo" "airMemo" "[I") ∈ TB := tb_2 (i := 13) rfl rfl
theorem tw_2_14 : (Jvm.Cond.fieldLink "OneOfTwo" (21 : Nat) "OneOfTwo" "sheets" "[LOneOfTwo$Row;") ∈ TB := tb_2 (i := 14) rfl rfl
theorem tw_2_15 : (Jvm.Cond.fieldLink "OneOfTwo" (28 : Nat) "OneOfTwo" "trace" "LOneOfTwo$Row;") ∈ TB := tb_2 (i := 15) rfl rfl
theorem tw_2_16 : (Jvm.Cond.fieldLink "OneOfTwo" (32 : Nat) "OneOfTwo" "answered" "[I") ∈ TB := tb_2 (i := 16) rfl rfl
theorem tw_2_17 : (Jvm.Cond.fieldLink "OneOfTwo" (66 : Nat) "OneOfTwo" "house" "LOneOfTwo$House;") ∈ TB := tb_2 (i := 17) rfl rfl
theorem tw_2_18 : (Jvm.Cond.fieldLink "OneOfTwo" (70 : Nat) "OneOfTwo" "aside" "LOneOfTwo$House;") ∈ TB := tb_2 (i := 18) rfl rfl
theorem tw_2_19 : (Jvm.Cond.fieldLink "OneOfTwo" (73 : Nat) "OneOfTwo" "kept" "LOneOfTwo$House;") ∈ TB := tb_2 (i := 19) rfl rfl
theorem tw_2_20 : (Jvm.Cond.fieldLink "OneOfTwo" (81 : Nat) "OneOfTwo" "search" "LOneOfTwo$Search;") ∈ TB := tb_2 (i := 20) rfl rfl
theorem tw_2_21 : (Jvm.Cond.fieldLink "OneOfTwo" (35 : Nat) "OneOfTwo" "images" "I") ∈ TB := tb_2 (i := 21) rfl rfl
theorem tw_2_22 : (Jvm.Cond.fieldLink "OneOfTwo" (39 : Nat) "OneOfTwo" "texts" "I") ∈ TB := tb_2 (i := 22) rfl rfl
theorem tw_2_23 : (Jvm.Cond.laysFinal "OneOfTwo" "OneOfTwo" "kinds" "[LOneOfTwo$Lodger;") ∈ TB := tb_2 (i := 23) rfl rfl
theorem tw_2_24 : (Jvm.Cond.soleField "OneOfTwo" "kinds") ∈ TB := tb_2 (i := 24) rfl rfl
theorem tw_2_25 : (Jvm.Cond.laysFinal "OneOfTwo" "OneOfTwo" "airMemo" "[I") ∈ TB := tb_2 (i := 25) rfl rfl
theorem tw_2_26 : (Jvm.Cond.soleField "OneOfTwo" "airMemo") ∈ TB := tb_2 (i := 26) rfl rfl
theorem tw_2_27 : (Jvm.Cond.laysFinal "OneOfTwo" "OneOfTwo" "sheets" "[LOneOfTwo$Row;") ∈ TB := tb_2 (i := 27) rfl rfl
theorem tw_2_28 : (Jvm.Cond.soleField "OneOfTwo" "sheets") ∈ TB := tb_2 (i := 28) rfl rfl
theorem tw_2_29 : (Jvm.Cond.laysFinal "OneOfTwo" "OneOfTwo" "trace" "LOneOfTwo$Row;") ∈ TB := tb_2 (i := 29) rfl rfl
theorem tw_2_30 : (Jvm.Cond.soleField "OneOfTwo" "trace") ∈ TB := tb_2 (i := 30) rfl rfl
theorem tw_2_31 : (Jvm.Cond.laysFinal "OneOfTwo" "OneOfTwo" "answered" "[I") ∈ TB := tb_2 (i := 31) rfl rfl
theorem tw_2_32 : (Jvm.Cond.soleField "OneOfTwo" "answered") ∈ TB := tb_2 (i := 32) rfl rfl
theorem tw_2_33 : (Jvm.Cond.laysFinal "OneOfTwo" "OneOfTwo" "house" "LOneOfTwo$House;") ∈ TB := tb_2 (i := 33) rfl rfl
theorem tw_2_34 : (Jvm.Cond.soleField "OneOfTwo" "house") ∈ TB := tb_2 (i := 34) rfl rfl
theorem tw_2_35 : (Jvm.Cond.laysFinal "OneOfTwo" "OneOfTwo" "aside" "LOneOfTwo$House;") ∈ TB := tb_2 (i := 35) rfl rfl
theorem tw_2_36 : (Jvm.Cond.soleField "OneOfTwo" "aside") ∈ TB := tb_2 (i := 36) rfl rfl
theorem tw_2_37 : (Jvm.Cond.laysFinal "OneOfTwo" "OneOfTwo" "kept" "LOneOfTwo$House;") ∈ TB := tb_2 (i := 37) rfl rfl
theorem tw_2_38 : (Jvm.Cond.soleField "OneOfTwo" "kept") ∈ TB := tb_2 (i := 38) rfl rfl
theorem tw_2_39 : (Jvm.Cond.laysFinal "OneOfTwo" "OneOfTwo" "search" "LOneOfTwo$Search;") ∈ TB := tb_2 (i := 39) rfl rfl
theorem tw_2_40 : (Jvm.Cond.soleField "OneOfTwo" "search") ∈ TB := tb_2 (i := 40) rfl rfl
theorem tw_2_41 : (Jvm.Cond.lays "OneOfTwo" "OneOfTwo" "images" "I") ∈ TB := tb_2 (i := 41) rfl rfl
theorem tw_2_42 : (Jvm.Cond.soleField "OneOfTwo" "images") ∈ TB := tb_2 (i := 42) rfl rfl
theorem tw_2_43 : (Jvm.Cond.lays "OneOfTwo" "OneOfTwo" "texts" "I") ∈ TB := tb_2 (i := 43) rfl rfl
theorem tw_2_44 : (Jvm.Cond.soleField "OneOfTwo" "texts") ∈ TB := tb_2 (i := 44) rfl rfl
theorem tw_2_45 : (Jvm.Cond.superclass "OneOfTwo" "java/lang/Object") ∈ TB := tb_2 (i := 45) rfl rfl
theorem tw_2_46 : (Jvm.Cond.methodLink "OneOfTwoLaw" (13 : Nat) ({ cls := "OneOfTwo", name := "window", desc := "(II)I" } : Jvm.MethodName)) ∈ TB := tb_2 (i := 46) rfl rfl
theorem tw_2_47 : (Jvm.Cond.instanceMethod ({ cls := "OneOfTwo", name := "window", desc := "(II)I" } : Jvm.MethodName)) ∈ TB := tb_2 (i := 47) rfl rfl
theorem tw_2_48 : (Jvm.Cond.selects "OneOfTwo" ({ cls := "OneOfTwo", name := "window", desc := "(II)I" } : Jvm.MethodName) ({ cls := "OneOfTwo", name := "window", desc := "(II)I" } : Jvm.MethodName)) ∈ TB := tb_2 (i := 48) rfl rfl
theorem tw_2_49 : (Jvm.Cond.code ({ cls := "OneOfTwo", name := "window", desc := "(II)I" } : Jvm.MethodName) prog_1_method_2_code (3 : Nat) (Option.some Jvm.ClassFile.FieldType.int)) ∈ TB := tb_2 (i := 49) rfl rfl
theorem tw_2_50 : (Jvm.Cond.methodLink "OneOfTwo" (85 : Nat) ({ cls := "OneOfTwo", name := "isRoom", desc := "(I)Z" } : Jvm.MethodName)) ∈ TB := tb_2 (i := 50) rfl rfl
theorem tw_2_51 : (Jvm.Cond.static ({ cls := "OneOfTwo", name := "isRoom", desc := "(I)Z" } : Jvm.MethodName)) ∈ TB := tb_2 (i := 51) rfl rfl
theorem tw_2_52 : (Jvm.Cond.code ({ cls := "OneOfTwo", name := "isRoom", desc := "(I)Z" } : Jvm.MethodName) prog_1_method_49_code (1 : Nat) (Option.some Jvm.ClassFile.FieldType.boolean)) ∈ TB := tb_2 (i := 52) rfl rfl
theorem tw_2_53 : (Jvm.Cond.methodLink "OneOfTwo" (89 : Nat) ({ cls := "OneOfTwo", name := "isNotch", desc := "(I)Z" } : Jvm.MethodName)) ∈ TB := tb_2 (i := 53) rfl rfl
theorem tw_2_54 : (Jvm.Cond.static ({ cls := "OneOfTwo", name := "isNotch", desc := "(I)Z" } : Jvm.MethodName)) ∈ TB := tb_2 (i := 54) rfl rfl
theorem tw_2_55 : (Jvm.Cond.code ({ cls := "OneOfTwo", name := "isNotch", desc := "(I)Z" } : Jvm.MethodName) prog_1_method_50_code (1 : Nat) (Option.some Jvm.ClassFile.FieldType.boolean)) ∈ TB := tb_2 (i := 55) rfl rfl
theorem tw_2_56 : (Jvm.Cond.methodLink "OneOfTwo" (92 : Nat) ({ cls := "OneOfTwo", name := "error", desc := "(I)I" } : Jvm.MethodName)) ∈ TB := tb_2 (i := 56) rfl rfl
theorem tw_2_58 : (Jvm.Cond.instanceMethod ({ cls := "OneOfTwo", name := "error", desc := "(I)I" } : Jvm.MethodName)) ∈ TB := tb_2 (i := 58) rfl rfl
theorem tw_2_59 : (Jvm.Cond.code ({ cls := "OneOfTwo", name := "error", desc := "(I)I" } : Jvm.MethodName) prog_1_method_46_code (2 : Nat) (Option.some Jvm.ClassFile.FieldType.int)) ∈ TB := tb_2 (i := 59) rfl rfl
theorem tw_2_60 : (Jvm.Cond.constant "OneOfTwo" (332 : Nat) (-1000000000 : Int32)) ∈ TB := tb_2 (i := 60) rfl rfl
theorem tw_2_61 : (Jvm.Cond.methodLink "OneOfTwo" (99 : Nat) ({ cls := "OneOfTwo$House", name := "addWindow", desc := "(II)I" } : Jvm.MethodName)) ∈ TB := tb_2 (i := 61) rfl rfl
theorem tw_2_62 : (Jvm.Cond.instanceMethod ({ cls := "OneOfTwo$House", name := "addWindow", desc := "(II)I" } : Jvm.MethodName)) ∈ TB := tb_2 (i := 62) rfl rfl
theorem tw_2_63 : (Jvm.Cond.selects "OneOfTwo$House" ({ cls := "OneOfTwo$House", name := "addWindow", desc := "(II)I" } : Jvm.MethodName) ({ cls := "OneOfTwo$House", name := "addWindow", desc := "(II)I" } : Jvm.MethodName)) ∈ TB := tb_2 (i := 63) rfl rfl
theorem tw_2_64 : (Jvm.Cond.code ({ cls := "OneOfTwo$House", name := "addWindow", desc := "(II)I" } : Jvm.MethodName) prog_4_method_3_code (4 : Nat) (Option.some Jvm.ClassFile.FieldType.int)) ∈ TB := tb_2 (i := 64) rfl rfl
theorem tw_2_65 : (Jvm.Cond.methodLink "OneOfTwoLaw" (18 : Nat) ({ cls := "OneOfTwo", name := "cord", desc := "(I)I" } : Jvm.MethodName)) ∈ TB := tb_2 (i := 65) rfl rfl
theorem tw_2_66 : (Jvm.Cond.instanceMethod ({ cls := "OneOfTwo", name := "cord", desc := "(I)I" } : Jvm.MethodName)) ∈ TB := tb_2 (i := 66) rfl rfl
theorem tw_2_67 : (Jvm.Cond.selects "OneOfTwo" ({ cls := "OneOfTwo", name := "cord", desc := "(I)I" } : Jvm.MethodName) ({ cls := "OneOfTwo", name := "cord", desc := "(I)I" } : Jvm.MethodName)) ∈ TB := tb_2 (i := 67) rfl rfl
theorem tw_2_68 : (Jvm.Cond.code ({ cls := "OneOfTwo", name := "cord", desc := "(I)I" } : Jvm.MethodName) prog_1_method_3_code (3 : Nat) (Option.some Jvm.ClassFile.FieldType.int)) ∈ TB := tb_2 (i := 68) rfl rfl
theorem tw_2_69 : (Jvm.Cond.methodLink "OneOfTwo" (103 : Nat) ({ cls := "java/lang/Integer", name := "bitCount", desc := "(I)I" } : Jvm.MethodName)) ∈ TB := tb_2 (i := 69) rfl rfl
theorem tw_2_70 : (Jvm.Cond.static ({ cls := "java/lang/Integer", name := "bitCount", desc := "(I)I" } : Jvm.MethodName)) ∈ TB := tb_2 (i := 70) rfl rfl
theorem tw_2_71 : (Jvm.Cond.code ({ cls := "java/lang/Integer", name := "bitCount", desc := "(I)I" } : Jvm.MethodName) prog_16_method_49_code (1 : Nat) (Option.some Jvm.ClassFile.FieldType.int)) ∈ TB := tb_2 (i := 71) rfl rfl
theorem tw_2_72 : (Jvm.Cond.constant "java/lang/Integer" (265 : Nat) (1431655765 : Int32)) ∈ TB := tb_2 (i := 72) rfl rfl
theorem tw_2_73 : (Jvm.Cond.constant "java/lang/Integer" (266 : Nat) (858993459 : Int32)) ∈ TB := tb_2 (i := 73) rfl rfl
theorem tw_2_74 : (Jvm.Cond.constant "java/lang/Integer" (267 : Nat) (252645135 : Int32)) ∈ TB := tb_2 (i := 74) rfl rfl
theorem tw_2_75 : (Jvm.Cond.methodLink "OneOfTwo" (111 : Nat) ({ cls := "OneOfTwo$House", name := "hanging", desc := "()I" } : Jvm.MethodName)) ∈ TB := tb_2 (i := 75) rfl rfl
theorem tw_2_76 : (Jvm.Cond.instanceMethod ({ cls := "OneOfTwo$House", name := "hanging", desc := "()I" } : Jvm.MethodName)) ∈ TB := tb_2 (i := 76) rfl rfl
theorem tw_2_77 : (Jvm.Cond.selects "OneOfTwo$House" ({ cls := "OneOfTwo$House", name := "hanging", desc := "()I" } : Jvm.MethodName) ({ cls := "OneOfTwo$House", name := "hanging", desc := "()I" } : Jvm.MethodName)) ∈ TB := tb_2 (i := 77) rfl rfl
theorem tw_2_78 : (Jvm.Cond.code ({ cls := "OneOfTwo$House", name := "hanging", desc := "()I" } : Jvm.MethodName) prog_4_method_8_code (3 : Nat) (Option.some Jvm.ClassFile.FieldType.int)) ∈ TB := tb_2 (i := 78) rfl rfl
theorem tw_2_79 : (Jvm.Cond.methodLink "OneOfTwo" (115 : Nat) ({ cls := "OneOfTwo$House", name := "addCord", desc := "(I)I" } : Jvm.MethodName)) ∈ TB := tb_2 (i := 79) rfl rfl
theorem tw_2_80 : (Jvm.Cond.instanceMethod ({ cls := "OneOfTwo$House", name := "addCord", desc := "(I)I" } : Jvm.MethodName)) ∈ TB := tb_2 (i := 80) rfl rfl
theorem tw_2_81 : (Jvm.Cond.selects "OneOfTwo$House" ({ cls := "OneOfTwo$House", name := "addCord", desc := "(I)I" } : Jvm.MethodName) ({ cls := "OneOfTwo$House", name := "addCord", desc := "(I)I" } : Jvm.MethodName)) ∈ TB := tb_2 (i := 81) rfl rfl
theorem tw_2_82 : (Jvm.Cond.code ({ cls := "OneOfTwo$House", name := "addCord", desc := "(I)I" } : Jvm.MethodName) prog_4_method_4_code (4 : Nat) (Option.some Jvm.ClassFile.FieldType.int)) ∈ TB := tb_2 (i := 82) rfl rfl
theorem tw_2_83 : (Jvm.Cond.methodLink "OneOfTwoLaw" (23 : Nat) ({ cls := "OneOfTwo", name := "drop", desc := "()I" } : Jvm.MethodName)) ∈ TB := tb_2 (i := 83) rfl rfl
theorem tw_2_84 : (Jvm.Cond.instanceMethod ({ cls := "OneOfTwo", name := "drop", desc := "()I" } : Jvm.MethodName)) ∈ TB := tb_2 (i := 84) rfl rfl
theorem tw_2_85 : (Jvm.Cond.selects "OneOfTwo" ({ cls := "OneOfTwo", name := "drop", desc := "()I" } : Jvm.MethodName) ({ cls := "OneOfTwo", name := "drop", desc := "()I" } : Jvm.MethodName)) ∈ TB := tb_2 (i := 85) rfl rfl
theorem tw_2_86 : (Jvm.Cond.code ({ cls := "OneOfTwo", name := "drop", desc := "()I" } : Jvm.MethodName) prog_1_method_4_code (1 : Nat) (Option.some Jvm.ClassFile.FieldType.int)) ∈ TB := tb_2 (i := 86) rfl rfl
theorem tw_2_87 : (Jvm.Cond.methodLink "OneOfTwo" (118 : Nat) ({ cls := "OneOfTwo$House", name := "takeOffCord", desc := "()I" } : Jvm.MethodName)) ∈ TB := tb_2 (i := 87) rfl rfl
theorem tw_2_88 : (Jvm.Cond.instanceMethod ({ cls := "OneOfTwo$House", name := "takeOffCord", desc := "()I" } : Jvm.MethodName)) ∈ TB := tb_2 (i := 88) rfl rfl
theorem tw_2_89 : (Jvm.Cond.selects "OneOfTwo$House" ({ cls := "OneOfTwo$House", name := "takeOffCord", desc := "()I" } : Jvm.MethodName) ({ cls := "OneOfTwo$House", name := "takeOffCord", desc := "()I" } : Jvm.MethodName)) ∈ TB := tb_2 (i := 89) rfl rfl
theorem tw_2_90 : (Jvm.Cond.code ({ cls := "OneOfTwo$House", name := "takeOffCord", desc := "()I" } : Jvm.MethodName) prog_4_method_5_code (2 : Nat) (Option.some Jvm.ClassFile.FieldType.int)) ∈ TB := tb_2 (i := 90) rfl rfl
theorem tw_2_91 : (Jvm.Cond.methodLink "OneOfTwoLaw" (28 : Nat) ({ cls := "OneOfTwo", name := "ofWindow", desc := "(II)I" } : Jvm.MethodName)) ∈ TB := tb_2 (i := 91) rfl rfl
theorem tw_2_92 : (Jvm.Cond.instanceMethod ({ cls := "OneOfTwo", name := "ofWindow", desc := "(II)I" } : Jvm.MethodName)) ∈ TB := tb_2 (i := 92) rfl rfl
theorem tw_2_93 : (Jvm.Cond.selects "OneOfTwo" ({ cls := "OneOfTwo", name := "ofWindow", desc := "(II)I" } : Jvm.MethodName) ({ cls := "OneOfTwo", name := "ofWindow", desc := "(II)I" } : Jvm.MethodName)) ∈ TB := tb_2 (i := 93) rfl rfl
theorem tw_2_94 : (Jvm.Cond.code ({ cls := "OneOfTwo", name := "ofWindow", desc := "(II)I" } : Jvm.MethodName) prog_1_method_5_code (3 : Nat) (Option.some Jvm.ClassFile.FieldType.int)) ∈ TB := tb_2 (i := 94) rfl rfl
theorem tw_2_95 : (Jvm.Cond.methodLink "OneOfTwo" (121 : Nat) ({ cls := "OneOfTwo", name := "isWindow", desc := "(I)Z" } : Jvm.MethodName)) ∈ TB := tb_2 (i := 95) rfl rfl
theorem tw_2_97 : (Jvm.Cond.instanceMethod ({ cls := "OneOfTwo", name := "isWindow", desc := "(I)Z" } : Jvm.MethodName)) ∈ TB := tb_2 (i := 97) rfl rfl
theorem tw_2_98 : (Jvm.Cond.code ({ cls := "OneOfTwo", name := "isWindow", desc := "(I)Z" } : Jvm.MethodName) prog_1_method_47_code (2 : Nat) (Option.some Jvm.ClassFile.FieldType.boolean)) ∈ TB := tb_2 (i := 98) rfl rfl
theorem tw_2_99 : (Jvm.Cond.methodLink "OneOfTwoLaw" (32 : Nat) ({ cls := "OneOfTwo", name := "ofCord", desc := "(II)I" } : Jvm.MethodName)) ∈ TB := tb_2 (i := 99) rfl rfl
theorem tw_2_100 : (Jvm.Cond.instanceMethod ({ cls := "OneOfTwo", name := "ofCord", desc := "(II)I" } : Jvm.MethodName)) ∈ TB := tb_2 (i := 100) rfl rfl
theorem tw_2_101 : (Jvm.Cond.selects "OneOfTwo" ({ cls := "OneOfTwo", name := "ofCord", desc := "(II)I" } : Jvm.MethodName) ({ cls := "OneOfTwo", name := "ofCord", desc := "(II)I" } : Jvm.MethodName)) ∈ TB := tb_2 (i := 101) rfl rfl
theorem tw_2_102 : (Jvm.Cond.code ({ cls := "OneOfTwo", name := "ofCord", desc := "(II)I" } : Jvm.MethodName) prog_1_method_6_code (4 : Nat) (Option.some Jvm.ClassFile.FieldType.int)) ∈ TB := tb_2 (i := 102) rfl rfl
theorem tw_2_103 : (Jvm.Cond.methodLink "OneOfTwo" (136 : Nat) ({ cls := "OneOfTwo$House", name := "setOf", desc := "(I)I" } : Jvm.MethodName)) ∈ TB := tb_2 (i := 103) rfl rfl
theorem tw_2_104 : (Jvm.Cond.instanceMethod ({ cls := "OneOfTwo$House", name := "setOf", desc := "(I)I" } : Jvm.MethodName)) ∈ TB := tb_2 (i := 104) rfl rfl
theorem tw_2_105 : (Jvm.Cond.selects "OneOfTwo$House" ({ cls := "OneOfTwo$House", name := "setOf", desc := "(I)I" } : Jvm.MethodName) ({ cls := "OneOfTwo$House", name := "setOf", desc := "(I)I" } : Jvm.MethodName)) ∈ TB := tb_2 (i := 105) rfl rfl
theorem tw_2_106 : (Jvm.Cond.code ({ cls := "OneOfTwo$House", name := "setOf", desc := "(I)I" } : Jvm.MethodName) prog_4_method_7_code (4 : Nat) (Option.some Jvm.ClassFile.FieldType.int)) ∈ TB := tb_2 (i := 106) rfl rfl
theorem tw_2_107 : (Jvm.Cond.methodLink "OneOfTwo" (139 : Nat) ({ cls := "OneOfTwo$House", name := "openOf", desc := "(I)I" } : Jvm.MethodName)) ∈ TB := tb_2 (i := 107) rfl rfl
theorem tw_2_108 : (Jvm.Cond.instanceMethod ({ cls := "OneOfTwo$House", name := "openOf", desc := "(I)I" } : Jvm.MethodName)) ∈ TB := tb_2 (i := 108) rfl rfl
theorem tw_2_109 : (Jvm.Cond.selects "OneOfTwo$House" ({ cls := "OneOfTwo$House", name := "openOf", desc := "(I)I" } : Jvm.MethodName) ({ cls := "OneOfTwo$House", name := "openOf", desc := "(I)I" } : Jvm.MethodName)) ∈ TB := tb_2 (i := 109) rfl rfl
theorem tw_2_110 : (Jvm.Cond.code ({ cls := "OneOfTwo$House", name := "openOf", desc := "(I)I" } : Jvm.MethodName) prog_4_method_10_code (4 : Nat) (Option.some Jvm.ClassFile.FieldType.int)) ∈ TB := tb_2 (i := 110) rfl rfl
theorem tw_2_111 : (Jvm.Cond.methodLink "OneOfTwoLaw" (36 : Nat) ({ cls := "OneOfTwo", name := "open", desc := "(II)I" } : Jvm.MethodName)) ∈ TB := tb_2 (i := 111) rfl rfl
theorem tw_2_112 : (Jvm.Cond.instanceMethod ({ cls := "OneOfTwo", name := "open", desc := "(II)I" } : Jvm.MethodName)) ∈ TB := tb_2 (i := 112) rfl rfl
theorem tw_2_113 : (Jvm.Cond.selects "OneOfTwo" ({ cls := "OneOfTwo", name := "open", desc := "(II)I" } : Jvm.MethodName) ({ cls := "OneOfTwo", name := "open", desc := "(II)I" } : Jvm.MethodName)) ∈ TB := tb_2 (i := 113) rfl rfl
theorem tw_2_114 : (Jvm.Cond.code ({ cls := "OneOfTwo", name := "open", desc := "(II)I" } : Jvm.MethodName) prog_1_method_7_code (4 : Nat) (Option.some Jvm.ClassFile.FieldType.int)) ∈ TB := tb_2 (i := 114) rfl rfl
theorem tw_2_115 : (Jvm.Cond.methodLink "OneOfTwoLaw" (40 : Nat) ({ cls := "OneOfTwo", name := "swell", desc := "(II)I" } : Jvm.MethodName)) ∈ TB := tb_2 (i := 115) rfl rfl
theorem tw_2_116 : (Jvm.Cond.instanceMethod ({ cls := "OneOfTwo", name := "swell", desc := "(II)I" } : Jvm.MethodName)) ∈ TB := tb_2 (i := 116) rfl rfl
theorem tw_2_117 : (Jvm.Cond.selects "OneOfTwo" ({ cls := "OneOfTwo", name := "swell", desc := "(II)I" } : Jvm.MethodName) ({ cls := "OneOfTwo", name := "swell", desc := "(II)I" } : Jvm.MethodName)) ∈ TB := tb_2 (i := 117) rfl rfl
theorem tw_2_118 : (Jvm.Cond.code ({ cls := "OneOfTwo", name := "swell", desc := "(II)I" } : Jvm.MethodName) prog_1_method_8_code (4 : Nat) (Option.some Jvm.ClassFile.FieldType.int)) ∈ TB := tb_2 (i := 118) rfl rfl
theorem tw_2_119 : (Jvm.Cond.methodLink "OneOfTwoLaw" (44 : Nat) ({ cls := "OneOfTwo", name := "pull", desc := "(II)I" } : Jvm.MethodName)) ∈ TB := tb_2 (i := 119) rfl rfl
theorem tw_2_120 : (Jvm.Cond.instanceMethod ({ cls := "OneOfTwo", name := "pull", desc := "(II)I" } : Jvm.MethodName)) ∈ TB := tb_2 (i := 120) rfl rfl
theorem tw_2_121 : (Jvm.Cond.selects "OneOfTwo" ({ cls := "OneOfTwo", name := "pull", desc := "(II)I" } : Jvm.MethodName) ({ cls := "OneOfTwo", name := "pull", desc := "(II)I" } : Jvm.MethodName)) ∈ TB := tb_2 (i := 121) rfl rfl
theorem tw_2_122 : (Jvm.Cond.code ({ cls := "OneOfTwo", name := "pull", desc := "(II)I" } : Jvm.MethodName) prog_1_method_9_code (3 : Nat) (Option.some Jvm.ClassFile.FieldType.int)) ∈ TB := tb_2 (i := 122) rfl rfl
theorem tw_2_123 : (Jvm.Cond.methodLink "OneOfTwo" (142 : Nat) ({ cls := "OneOfTwo$House", name := "isLocked", desc := "()Z" } : Jvm.MethodName)) ∈ TB := tb_2 (i := 123) rfl rfl
theorem tw_2_124 : (Jvm.Cond.instanceMethod ({ cls := "OneOfTwo$House", name := "isLocked", desc := "()Z" } : Jvm.MethodName)) ∈ TB := tb_2 (i := 124) rfl rfl
theorem tw_2_125 : (Jvm.Cond.selects "OneOfTwo$House" ({ cls := "OneOfTwo$House", name := "isLocked", desc := "()Z" } : Jvm.MethodName) ({ cls := "OneOfTwo$House", name := "isLocked", desc := "()Z" } : Jvm.MethodName)) ∈ TB := tb_2 (i := 125) rfl rfl
theorem tw_2_126 : (Jvm.Cond.code ({ cls := "OneOfTwo$House", name := "isLocked", desc := "()Z" } : Jvm.MethodName) prog_4_method_12_code (1 : Nat) (Option.some Jvm.ClassFile.FieldType.boolean)) ∈ TB := tb_2 (i := 126) rfl rfl
theorem tw_2_127 : (Jvm.Cond.methodLink "OneOfTwo" (146 : Nat) ({ cls := "OneOfTwo$House", name := "canPull", desc := "(II)Z" } : Jvm.MethodName)) ∈ TB := tb_2 (i := 127) rfl rfl
theorem tw_2_128 : (Jvm.Cond.instanceMethod ({ cls := "OneOfTwo$House", name := "canPull", desc := "(II)Z" } : Jvm.MethodName)) ∈ TB := tb_2 (i := 128) rfl rfl
theorem tw_2_129 : (Jvm.Cond.selects "OneOfTwo$House" ({ cls := "OneOfTwo$House", name := "canPull", desc := "(II)Z" } : Jvm.MethodName) ({ cls := "OneOfTwo$House", name := "canPull", desc := "(II)Z" } : Jvm.MethodName)) ∈ TB := tb_2 (i := 129) rfl rfl
theorem tw_2_130 : (Jvm.Cond.code ({ cls := "OneOfTwo$House", name := "canPull", desc := "(II)Z" } : Jvm.MethodName) prog_4_method_13_code (3 : Nat) (Option.some Jvm.ClassFile.FieldType.boolean)) ∈ TB := tb_2 (i := 130) rfl rfl
theorem tw_2_131 : (Jvm.Cond.methodLink "OneOfTwo" (150 : Nat) ({ cls := "OneOfTwo$House", name := "pullBy", desc := "(II)V" } : Jvm.MethodName)) ∈ TB := tb_2 (i := 131) rfl rfl
theorem tw_2_132 : (Jvm.Cond.instanceMethod ({ cls := "OneOfTwo$House", name := "pullBy", desc := "(II)V" } : Jvm.MethodName)) ∈ TB := tb_2 (i := 132) rfl rfl
theorem tw_2_133 : (Jvm.Cond.selects "OneOfTwo$House" ({ cls := "OneOfTwo$House", name := "pullBy", desc := "(II)V" } : Jvm.MethodName) ({ cls := "OneOfTwo$House", name := "pullBy", desc := "(II)V" } : Jvm.MethodName)) ∈ TB := tb_2 (i := 133) rfl rfl
theorem tw_2_134 : (Jvm.Cond.code ({ cls := "OneOfTwo$House", name := "pullBy", desc := "(II)V" } : Jvm.MethodName) prog_4_method_14_code (3 : Nat) (Option.none : Option Jvm.ClassFile.FieldType)) ∈ TB := tb_2 (i := 134) rfl rfl
theorem tw_2_135 : (Jvm.Cond.methodLink "OneOfTwoLaw" (48 : Nat) ({ cls := "OneOfTwo", name := "swap", desc := "(II)I" } : Jvm.MethodName)) ∈ TB := tb_2 (i := 135) rfl rfl
theorem tw_2_136 : (Jvm.Cond.instanceMethod ({ cls := "OneOfTwo", name := "swap", desc := "(II)I" } : Jvm.MethodName)) ∈ TB := tb_2 (i := 136) rfl rfl
theorem tw_2_137 : (Jvm.Cond.selects "OneOfTwo" ({ cls := "OneOfTwo", name := "swap", desc := "(II)I" } : Jvm.MethodName) ({ cls := "OneOfTwo", name := "swap", desc := "(II)I" } : Jvm.MethodName)) ∈ TB := tb_2 (i := 137) rfl rfl
theorem tw_2_138 : (Jvm.Cond.code ({ cls := "OneOfTwo", name := "swap", desc := "(II)I" } : Jvm.MethodName) prog_1_method_10_code (3 : Nat) (Option.some Jvm.ClassFile.FieldType.int)) ∈ TB := tb_2 (i := 138) rfl rfl
theorem tw_2_139 : (Jvm.Cond.methodLink "OneOfTwo" (154 : Nat) ({ cls := "OneOfTwo$House", name := "hangOtherwise", desc := "(II)V" } : Jvm.MethodName)) ∈ TB := tb_2 (i := 139) rfl rfl
theorem tw_2_140 : (Jvm.Cond.instanceMethod ({ cls := "OneOfTwo$House", name := "hangOtherwise", desc := "(II)V" } : Jvm.MethodName)) ∈ TB := tb_2 (i := 140) rfl rfl
theorem tw_2_141 : (Jvm.Cond.selects "OneOfTwo$House" ({ cls := "OneOfTwo$House", name := "hangOtherwise", desc := "(II)V" } : Jvm.MethodName) ({ cls := "OneOfTwo$House", name := "hangOtherwise", desc := "(II)V" } : Jvm.MethodName)) ∈ TB := tb_2 (i := 141) rfl rfl
theorem tw_2_142 : (Jvm.Cond.code ({ cls := "OneOfTwo$House", name := "hangOtherwise", desc := "(II)V" } : Jvm.MethodName) prog_4_method_15_code (4 : Nat) (Option.none : Option Jvm.ClassFile.FieldType)) ∈ TB := tb_2 (i := 142) rfl rfl
theorem tw_2_143 : (Jvm.Cond.methodLink "OneOfTwoLaw" (52 : Nat) ({ cls := "OneOfTwo", name := "air", desc := "(I)I" } : Jvm.MethodName)) ∈ TB := tb_2 (i := 143) rfl rfl
theorem tw_2_144 : (Jvm.Cond.instanceMethod ({ cls := "OneOfTwo", name := "air", desc := "(I)I" } : Jvm.MethodName)) ∈ TB := tb_2 (i := 144) rfl rfl
theorem tw_2_145 : (Jvm.Cond.selects "OneOfTwo" ({ cls := "OneOfTwo", name := "air", desc := "(I)I" } : Jvm.MethodName) ({ cls := "OneOfTwo", name := "air", desc := "(I)I" } : Jvm.MethodName)) ∈ TB := tb_2 (i := 145) rfl rfl
theorem tw_2_146 : (Jvm.Cond.code ({ cls := "OneOfTwo", name := "air", desc := "(I)I" } : Jvm.MethodName) prog_1_method_11_code (2 : Nat) (Option.some Jvm.ClassFile.FieldType.int)) ∈ TB := tb_2 (i := 146) rfl rfl
theorem tw_2_147 : (Jvm.Cond.methodLink "OneOfTwo" (157 : Nat) ({ cls := "OneOfTwo$House", name := "airOf", desc := "(I)I" } : Jvm.MethodName)) ∈ TB := tb_2 (i := 147) rfl rfl
theorem tw_2_148 : (Jvm.Cond.instanceMethod ({ cls := "OneOfTwo$House", name := "airOf", desc := "(I)I" } : Jvm.MethodName)) ∈ TB := tb_2 (i := 148) rfl rfl
theorem tw_2_149 : (Jvm.Cond.selects "OneOfTwo$House" ({ cls := "OneOfTwo$House", name := "airOf", desc := "(I)I" } : Jvm.MethodName) ({ cls := "OneOfTwo$House", name := "airOf", desc := "(I)I" } : Jvm.MethodName)) ∈ TB := tb_2 (i := 149) rfl rfl
theorem tw_2_150 : (Jvm.Cond.code ({ cls := "OneOfTwo$House", name := "airOf", desc := "(I)I" } : Jvm.MethodName) prog_4_method_18_code (2 : Nat) (Option.some Jvm.ClassFile.FieldType.int)) ∈ TB := tb_2 (i := 150) rfl rfl
theorem tw_2_151 : (Jvm.Cond.methodLink "OneOfTwo$House" (104 : Nat) ({ cls := "OneOfTwo$House", name := "openIn", desc := "(I)I" } : Jvm.MethodName)) ∈ TB := tb_2 (i := 151) rfl rfl
theorem tw_2_152 : (Jvm.Cond.instanceMethod ({ cls := "OneOfTwo$House", name := "openIn", desc := "(I)I" } : Jvm.MethodName)) ∈ TB := tb_2 (i := 152) rfl rfl
theorem tw_2_153 : (Jvm.Cond.selects "OneOfTwo$House" ({ cls := "OneOfTwo$House", name := "openIn", desc := "(I)I" } : Jvm.MethodName) ({ cls := "OneOfTwo$House", name := "openIn", desc := "(I)I" } : Jvm.MethodName)) ∈ TB := tb_2 (i := 153) rfl rfl
theorem tw_2_154 : (Jvm.Cond.code ({ cls := "OneOfTwo$House", name := "openIn", desc := "(I)I" } : Jvm.MethodName) prog_4_method_16_code (4 : Nat) (Option.some Jvm.ClassFile.FieldType.int)) ∈ TB := tb_2 (i := 154) rfl rfl
theorem tw_2_155 : (Jvm.Cond.methodLink "OneOfTwo$House" (108 : Nat) ({ cls := "OneOfTwo$House", name := "openBeside", desc := "(I)I" } : Jvm.MethodName)) ∈ TB := tb_2 (i := 155) rfl rfl
theorem tw_2_156 : (Jvm.Cond.instanceMethod ({ cls := "OneOfTwo$House", name := "openBeside", desc := "(I)I" } : Jvm.MethodName)) ∈ TB := tb_2 (i := 156) rfl rfl
theorem tw_2_157 : (Jvm.Cond.selects "OneOfTwo$House" ({ cls := "OneOfTwo$House", name := "openBeside", desc := "(I)I" } : Jvm.MethodName) ({ cls := "OneOfTwo$House", name := "openBeside", desc := "(I)I" } : Jvm.MethodName)) ∈ TB := tb_2 (i := 157) rfl rfl
theorem tw_2_158 : (Jvm.Cond.code ({ cls := "OneOfTwo$House", name := "openBeside", desc := "(I)I" } : Jvm.MethodName) prog_4_method_17_code (2 : Nat) (Option.some Jvm.ClassFile.FieldType.int)) ∈ TB := tb_2 (i := 158) rfl rfl
theorem tw_2_159 : (Jvm.Cond.methodLink "OneOfTwo$House" (111 : Nat) ({ cls := "OneOfTwo$House", name := "airBy", desc := "(II)I" } : Jvm.MethodName)) ∈ TB := tb_2 (i := 159) rfl rfl
theorem tw_2_160 : (Jvm.Cond.instanceMethod ({ cls := "OneOfTwo$House", name := "airBy", desc := "(II)I" } : Jvm.MethodName)) ∈ TB := tb_2 (i := 160) rfl rfl
theorem tw_2_161 : (Jvm.Cond.selects "OneOfTwo$House" ({ cls := "OneOfTwo$House", name := "airBy", desc := "(II)I" } : Jvm.MethodName) ({ cls := "OneOfTwo$House", name := "airBy", desc := "(II)I" } : Jvm.MethodName)) ∈ TB := tb_2 (i := 161) rfl rfl
theorem tw_2_162 : (Jvm.Cond.code ({ cls := "OneOfTwo$House", name := "airBy", desc := "(II)I" } : Jvm.MethodName) prog_4_method_19_code (6 : Nat) (Option.some Jvm.ClassFile.FieldType.int)) ∈ TB := tb_2 (i := 162) rfl rfl
theorem tw_2_163 : (Jvm.Cond.methodLink "OneOfTwo$House" (114 : Nat) ({ cls := "OneOfTwo$House", name := "heldAir", desc := "(I)I" } : Jvm.MethodName)) ∈ TB := tb_2 (i := 163) rfl rfl
theorem tw_2_164 : (Jvm.Cond.static ({ cls := "OneOfTwo$House", name := "heldAir", desc := "(I)I" } : Jvm.MethodName)) ∈ TB := tb_2 (i := 164) rfl rfl
theorem tw_2_165 : (Jvm.Cond.code ({ cls := "OneOfTwo$House", name := "heldAir", desc := "(I)I" } : Jvm.MethodName) prog_4_method_20_code (1 : Nat) (Option.some Jvm.ClassFile.FieldType.int)) ∈ TB := tb_2 (i := 165) rfl rfl
theorem tw_2_166 : (Jvm.Cond.methodLink "OneOfTwo$House" (95 : Nat) ({ cls := "java/lang/Math", name := "min", desc := "(II)I" } : Jvm.MethodName)) ∈ TB := tb_2 (i := 166) rfl rfl
theorem tw_2_167 : (Jvm.Cond.static ({ cls := "java/lang/Math", name := "min", desc := "(II)I" } : Jvm.MethodName)) ∈ TB := tb_2 (i := 167) rfl rfl
theorem tw_2_168 : (Jvm.Cond.code ({ cls := "java/lang/Math", name := "min", desc := "(II)I" } : Jvm.MethodName) prog_17_method_69_code (2 : Nat) (Option.some Jvm.ClassFile.FieldType.int)) ∈ TB := tb_2 (i := 168) rfl rfl
theorem tw_2_169 : (Jvm.Cond.methodLink "OneOfTwo$House" (130 : Nat) ({ cls := "java/lang/Math", name := "max", desc := "(II)I" } : Jvm.MethodName)) ∈ TB := tb_2 (i := 169) rfl rfl
theorem tw_2_170 : (Jvm.Cond.static ({ cls := "java/lang/Math", name := "max", desc := "(II)I" } : Jvm.MethodName)) ∈ TB := tb_2 (i := 170) rfl rfl
theorem tw_2_171 : (Jvm.Cond.code ({ cls := "java/lang/Math", name := "max", desc := "(II)I" } : Jvm.MethodName) prog_17_method_65_code (2 : Nat) (Option.some Jvm.ClassFile.FieldType.int)) ∈ TB := tb_2 (i := 171) rfl rfl
theorem tw_2_172 : (Jvm.Cond.methodLink "OneOfTwo$House" (117 : Nat) ({ cls := "OneOfTwo$House", name := "memoPlace", desc := "(II)I" } : Jvm.MethodName)) ∈ TB := tb_2 (i := 172) rfl rfl
theorem tw_2_173 : (Jvm.Cond.static ({ cls := "OneOfTwo$House", name := "memoPlace", desc := "(II)I" } : Jvm.MethodName)) ∈ TB := tb_2 (i := 173) rfl rfl
theorem tw_2_174 : (Jvm.Cond.code ({ cls := "OneOfTwo$House", name := "memoPlace", desc := "(II)I" } : Jvm.MethodName) prog_4_method_21_code (2 : Nat) (Option.some Jvm.ClassFile.FieldType.int)) ∈ TB := tb_2 (i := 174) rfl rfl
theorem tw_2_175 : (Jvm.Cond.methodLink "OneOfTwo$House" (123 : Nat) ({ cls := "OneOfTwo$Text", name := "value", desc := "(III)I" } : Jvm.MethodName)) ∈ TB := tb_2 (i := 175) rfl rfl
theorem tw_2_176 : (Jvm.Cond.instanceMethod ({ cls := "OneOfTwo$Text", name := "value", desc := "(III)I" } : Jvm.MethodName)) ∈ TB := tb_2 (i := 176) rfl rfl
theorem tw_2_177 : (Jvm.Cond.selects "OneOfTwo$Text" ({ cls := "OneOfTwo$Text", name := "value", desc := "(III)I" } : Jvm.MethodName) ({ cls := "OneOfTwo$Text", name := "value", desc := "(III)I" } : Jvm.MethodName)) ∈ TB := tb_2 (i := 177) rfl rfl
theorem tw_2_178 : (Jvm.Cond.code ({ cls := "OneOfTwo$Text", name := "value", desc := "(III)I" } : Jvm.MethodName) prog_12_method_16_code (7 : Nat) (Option.some Jvm.ClassFile.FieldType.int)) ∈ TB := tb_2 (i := 178) rfl rfl
theorem tw_2_179 : (Jvm.Cond.methodLink "OneOfTwo$Text" (101 : Nat) ({ cls := "OneOfTwo$Text", name := "joined", desc := "(III)I" } : Jvm.MethodName)) ∈ TB := tb_2 (i := 179) rfl rfl
theorem tw_2_180 : (Jvm.Cond.static ({ cls := "OneOfTwo$Text", name := "joined", desc := "(III)I" } : Jvm.MethodName)) ∈ TB := tb_2 (i := 180) rfl rfl
theorem tw_2_181 : (Jvm.Cond.code ({ cls := "OneOfTwo$Text", name := "joined", desc := "(III)I" } : Jvm.MethodName) prog_12_method_17_code (3 : Nat) (Option.some Jvm.ClassFile.FieldType.int)) ∈ TB := tb_2 (i := 181) rfl rfl
theorem tw_2_182 : (Jvm.Cond.methodLink "OneOfTwoLaw" (56 : Nat) ({ cls := "OneOfTwo", name := "lodger", desc := "(II)I" } : Jvm.MethodName)) ∈ TB := tb_2 (i := 182) rfl rfl
theorem tw_2_183 : (Jvm.Cond.instanceMethod ({ cls := "OneOfTwo", name := "lodger", desc := "(II)I" } : Jvm.MethodName)) ∈ TB := tb_2 (i := 183) rfl rfl
theorem tw_2_184 : (Jvm.Cond.selects "OneOfTwo" ({ cls := "OneOfTwo", name := "lodger", desc := "(II)I" } : Jvm.MethodName) ({ cls := "OneOfTwo", name := "lodger", desc := "(II)I" } : Jvm.MethodName)) ∈ TB := tb_2 (i := 184) rfl rfl
theorem tw_2_185 : (Jvm.Cond.code ({ cls := "OneOfTwo", name := "lodger", desc := "(II)I" } : Jvm.MethodName) prog_1_method_12_code (4 : Nat) (Option.some Jvm.ClassFile.FieldType.int)) ∈ TB := tb_2 (i := 185) rfl rfl
theorem tw_2_186 : (Jvm.Cond.methodLink "OneOfTwo" (160 : Nat) ({ cls := "OneOfTwo", name := "isKindAndNumber", desc := "(I)Z" } : Jvm.MethodName)) ∈ TB := tb_2 (i := 186) rfl rfl
theorem tw_2_187 : (Jvm.Cond.static ({ cls := "OneOfTwo", name := "isKindAndNumber", desc := "(I)Z" } : Jvm.MethodName)) ∈ TB := tb_2 (i := 187) rfl rfl
theorem tw_2_188 : (Jvm.Cond.code ({ cls := "OneOfTwo", name := "isKindAndNumber", desc := "(I)Z" } : Jvm.MethodName) prog_1_method_51_code (1 : Nat) (Option.some Jvm.ClassFile.FieldType.boolean)) ∈ TB := tb_2 (i := 188) rfl rfl
theorem tw_2_189 : (Jvm.Cond.methodLink "OneOfTwo" (166 : Nat) ({ cls := "OneOfTwo$House", name := "settle", desc := "(ILOneOfTwo$Lodger;I)V" } : Jvm.MethodName)) ∈ TB := tb_2 (i := 189) rfl rfl
theorem tw_2_190 : (Jvm.Cond.instanceMethod ({ cls := "OneOfTwo$House", name := "settle", desc := "(ILOneOfTwo$Lodger;I)V" } : Jvm.MethodName)) ∈ TB := tb_2 (i := 190) rfl rfl
theorem tw_2_191 : (Jvm.Cond.selects "OneOfTwo$House" ({ cls := "OneOfTwo$House", name := "settle", desc := "(ILOneOfTwo$Lodger;I)V" } : Jvm.MethodName) ({ cls := "OneOfTwo$House", name := "settle", desc := "(ILOneOfTwo$Lodger;I)V" } : Jvm.MethodName)) ∈ TB := tb_2 (i := 191) rfl rfl
theorem tw_2_192 : (Jvm.Cond.code ({ cls := "OneOfTwo$House", name := "settle", desc := "(ILOneOfTwo$Lodger;I)V" } : Jvm.MethodName) prog_4_method_6_code (4 : Nat) (Option.none : Option Jvm.ClassFile.FieldType)) ∈ TB := tb_2 (i := 192) rfl rfl
theorem tw_2_193 : (Jvm.Cond.methodLink "OneOfTwoLaw" (60 : Nat) ({ cls := "OneOfTwo", name := "ofLodger", desc := "(II)I" } : Jvm.MethodName)) ∈ TB := tb_2 (i := 193) rfl rfl
theorem tw_2_194 : (Jvm.Cond.instanceMethod ({ cls := "OneOfTwo", name := "ofLodger", desc := "(II)I" } : Jvm.MethodName)) ∈ TB := tb_2 (i := 194) rfl rfl
theorem tw_2_195 : (Jvm.Cond.selects "OneOfTwo" ({ cls := "OneOfTwo", name := "ofLodger", desc := "(II)I" } : Jvm.MethodName) ({ cls := "OneOfTwo", name := "ofLodger", desc := "(II)I" } : Jvm.MethodName)) ∈ TB := tb_2 (i := 195) rfl rfl
theorem tw_2_196 : (Jvm.Cond.code ({ cls := "OneOfTwo", name := "ofLodger", desc := "(II)I" } : Jvm.MethodName) prog_1_method_13_code (4 : Nat) (Option.some Jvm.ClassFile.FieldType.int)) ∈ TB := tb_2 (i := 196) rfl rfl
theorem tw_2_197 : (Jvm.Cond.methodLink "OneOfTwo" (173 : Nat) ({ cls := "OneOfTwo", name := "isLodger", desc := "(I)Z" } : Jvm.MethodName)) ∈ TB := tb_2 (i := 197) rfl rfl
theorem tw_2_199 : (Jvm.Cond.instanceMethod ({ cls := "OneOfTwo", name := "isLodger", desc := "(I)Z" } : Jvm.MethodName)) ∈ TB := tb_2 (i := 199) rfl rfl
theorem tw_2_200 : (Jvm.Cond.code ({ cls := "OneOfTwo", name := "isLodger", desc := "(I)Z" } : Jvm.MethodName) prog_1_method_48_code (2 : Nat) (Option.some Jvm.ClassFile.FieldType.boolean)) ∈ TB := tb_2 (i := 200) rfl rfl
theorem tw_2_201 : (Jvm.Cond.methodLink "OneOfTwo" (185 : Nat) ({ cls := "OneOfTwo$Lodger", name := "leastAir", desc := "(I)I" } : Jvm.MethodName)) ∈ TB := tb_2 (i := 201) rfl rfl
theorem tw_2_202 : (Jvm.Cond.instanceMethod ({ cls := "OneOfTwo$Lodger", name := "leastAir", desc := "(I)I" } : Jvm.MethodName)) ∈ TB := tb_2 (i := 202) rfl rfl
theorem tw_2_203 : (Jvm.Cond.selects "OneOfTwo$Lodger" ({ cls := "OneOfTwo$Lodger", name := "leastAir", desc := "(I)I" } : Jvm.MethodName) ({ cls := "OneOfTwo$Lodger", name := "leastAir", desc := "(I)I" } : Jvm.MethodName)) ∈ TB := tb_2 (i := 203) rfl rfl
theorem tw_2_204 : (Jvm.Cond.sameMethod "OneOfTwo$Lodger" "OneOfTwo$Lodger" "leastAir" "(I)I") ∈ TB := tb_2 (i := 204) rfl rfl
theorem tw_2_205 : (Jvm.Cond.selects "OneOfTwo$Cougher" ({ cls := "OneOfTwo$Lodger", name := "leastAir", desc := "(I)I" } : Jvm.MethodName) ({ cls := "OneOfTwo$Cougher", name := "leastAir", desc := "(I)I" } : Jvm.MethodName)) ∈ TB := tb_2 (i := 205) rfl rfl
theorem tw_2_206 : (Jvm.Cond.instanceMethod ({ cls := "OneOfTwo$Cougher", name := "leastAir", desc := "(I)I" } : Jvm.MethodName)) ∈ TB := tb_2 (i := 206) rfl rfl
theorem tw_2_207 : (Jvm.Cond.code ({ cls := "OneOfTwo$Cougher", name := "leastAir", desc := "(I)I" } : Jvm.MethodName) prog_2_method_2_code (2 : Nat) (Option.some Jvm.ClassFile.FieldType.int)) ∈ TB := tb_2 (i := 207) rfl rfl
theorem tw_2_208 : (Jvm.Cond.selects "OneOfTwo$Fevered" ({ cls := "OneOfTwo$Lodger", name := "leastAir", desc := "(I)I" } : Jvm.MethodName) ({ cls := "OneOfTwo$Fevered", name := "leastAir", desc := "(I)I" } : Jvm.MethodName)) ∈ TB := tb_2 (i := 208) rfl rfl
theorem tw_2_209 : (Jvm.Cond.instanceMethod ({ cls := "OneOfTwo$Fevered", name := "leastAir", desc := "(I)I" } : Jvm.MethodName)) ∈ TB := tb_2 (i := 209) rfl rfl
theorem tw_2_210 : (Jvm.Cond.code ({ cls := "OneOfTwo$Fevered", name := "leastAir", desc := "(I)I" } : Jvm.MethodName) prog_3_method_2_code (2 : Nat) (Option.some Jvm.ClassFile.FieldType.int)) ∈ TB := tb_2 (i := 210) rfl rfl
theorem tw_2_211 : (Jvm.Cond.selects "OneOfTwo$Sleeper" ({ cls := "OneOfTwo$Lodger", name := "leastAir", desc := "(I)I" } : Jvm.MethodName) ({ cls := "OneOfTwo$Lodger", name := "leastAir", desc := "(I)I" } : Jvm.MethodName)) ∈ TB := tb_2 (i := 211) rfl rfl
theorem tw_2_212 : (Jvm.Cond.selects "OneOfTwo$Smoker" ({ cls := "OneOfTwo$Lodger", name := "leastAir", desc := "(I)I" } : Jvm.MethodName) ({ cls := "OneOfTwo$Smoker", name := "leastAir", desc := "(I)I" } : Jvm.MethodName)) ∈ TB := tb_2 (i := 212) rfl rfl
theorem tw_2_213 : (Jvm.Cond.instanceMethod ({ cls := "OneOfTwo$Smoker", name := "leastAir", desc := "(I)I" } : Jvm.MethodName)) ∈ TB := tb_2 (i := 213) rfl rfl
theorem tw_2_214 : (Jvm.Cond.code ({ cls := "OneOfTwo$Smoker", name := "leastAir", desc := "(I)I" } : Jvm.MethodName) prog_9_method_2_code (2 : Nat) (Option.some Jvm.ClassFile.FieldType.int)) ∈ TB := tb_2 (i := 214) rfl rfl
theorem tw_2_215 : (Jvm.Cond.selects "OneOfTwo$Spiteful" ({ cls := "OneOfTwo$Lodger", name := "leastAir", desc := "(I)I" } : Jvm.MethodName) ({ cls := "OneOfTwo$Lodger", name := "leastAir", desc := "(I)I" } : Jvm.MethodName)) ∈ TB := tb_2 (i := 215) rfl rfl
theorem tw_2_216 : (Jvm.Cond.selects "OneOfTwo$Strong" ({ cls := "OneOfTwo$Lodger", name := "leastAir", desc := "(I)I" } : Jvm.MethodName) ({ cls := "OneOfTwo$Smoker", name := "leastAir", desc := "(I)I" } : Jvm.MethodName)) ∈ TB := tb_2 (i := 216) rfl rfl
theorem tw_2_217 : (Jvm.Cond.code ({ cls := "OneOfTwo$Lodger", name := "leastAir", desc := "(I)I" } : Jvm.MethodName) prog_5_method_2_code (2 : Nat) (Option.some Jvm.ClassFile.FieldType.int)) ∈ TB := tb_2 (i := 217) rfl rfl
theorem tw_2_218 : (Jvm.Cond.methodLink "OneOfTwo" (188 : Nat) ({ cls := "OneOfTwo$Lodger", name := "mostAir", desc := "(I)I" } : Jvm.MethodName)) ∈ TB := tb_2 (i := 218) rfl rfl
theorem tw_2_219 : (Jvm.Cond.instanceMethod ({ cls := "OneOfTwo$Lodger", name := "mostAir", desc := "(I)I" } : Jvm.MethodName)) ∈ TB := tb_2 (i := 219) rfl rfl
theorem tw_2_220 : (Jvm.Cond.selects "OneOfTwo$Lodger" ({ cls := "OneOfTwo$Lodger", name := "mostAir", desc := "(I)I" } : Jvm.MethodName) ({ cls := "OneOfTwo$Lodger", name := "mostAir", desc := "(I)I" } : Jvm.MethodName)) ∈ TB := tb_2 (i := 220) rfl rfl
theorem tw_2_221 : (Jvm.Cond.sameMethod "OneOfTwo$Lodger" "OneOfTwo$Lodger" "mostAir" "(I)I") ∈ TB := tb_2 (i := 221) rfl rfl
theorem tw_2_222 : (Jvm.Cond.selects "OneOfTwo$Cougher" ({ cls := "OneOfTwo$Lodger", name := "mostAir", desc := "(I)I" } : Jvm.MethodName) ({ cls := "OneOfTwo$Cougher", name := "mostAir", desc := "(I)I" } : Jvm.MethodName)) ∈ TB := tb_2 (i := 222) rfl rfl
theorem tw_2_223 : (Jvm.Cond.instanceMethod ({ cls := "OneOfTwo$Cougher", name := "mostAir", desc := "(I)I" } : Jvm.MethodName)) ∈ TB := tb_2 (i := 223) rfl rfl
theorem tw_2_224 : (Jvm.Cond.code ({ cls := "OneOfTwo$Cougher", name := "mostAir", desc := "(I)I" } : Jvm.MethodName) prog_2_method_3_code (2 : Nat) (Option.some Jvm.ClassFile.FieldType.int)) ∈ TB := tb_2 (i := 224) rfl rfl
theorem tw_2_225 : (Jvm.Cond.selects "OneOfTwo$Fevered" ({ cls := "OneOfTwo$Lodger", name := "mostAir", desc := "(I)I" } : Jvm.MethodName) ({ cls := "OneOfTwo$Fevered", name := "mostAir", desc := "(I)I" } : Jvm.MethodName)) ∈ TB := tb_2 (i := 225) rfl rfl
theorem tw_2_226 : (Jvm.Cond.instanceMethod ({ cls := "OneOfTwo$Fevered", name := "mostAir", desc := "(I)I" } : Jvm.MethodName)) ∈ TB := tb_2 (i := 226) rfl rfl
theorem tw_2_227 : (Jvm.Cond.code ({ cls := "OneOfTwo$Fevered", name := "mostAir", desc := "(I)I" } : Jvm.MethodName) prog_3_method_3_code (2 : Nat) (Option.some Jvm.ClassFile.FieldType.int)) ∈ TB := tb_2 (i := 227) rfl rfl
theorem tw_2_228 : (Jvm.Cond.methodLink "OneOfTwo$Fevered" (7 : Nat) ({ cls := "OneOfTwo$Cougher", name := "mostAir", desc := "(I)I" } : Jvm.MethodName)) ∈ TB := tb_2 (i := 228) rfl rfl
theorem tw_2_229 : (Jvm.Cond.selects "OneOfTwo$Sleeper" ({ cls := "OneOfTwo$Lodger", name := "mostAir", desc := "(I)I" } : Jvm.MethodName) ({ cls := "OneOfTwo$Lodger", name := "mostAir", desc := "(I)I" } : Jvm.MethodName)) ∈ TB := tb_2 (i := 229) rfl rfl
theorem tw_2_230 : (Jvm.Cond.selects "OneOfTwo$Smoker" ({ cls := "OneOfTwo$Lodger", name := "mostAir", desc := "(I)I" } : Jvm.MethodName) ({ cls := "OneOfTwo$Smoker", name := "mostAir", desc := "(I)I" } : Jvm.MethodName)) ∈ TB := tb_2 (i := 230) rfl rfl
theorem tw_2_231 : (Jvm.Cond.instanceMethod ({ cls := "OneOfTwo$Smoker", name := "mostAir", desc := "(I)I" } : Jvm.MethodName)) ∈ TB := tb_2 (i := 231) rfl rfl
theorem tw_2_232 : (Jvm.Cond.code ({ cls := "OneOfTwo$Smoker", name := "mostAir", desc := "(I)I" } : Jvm.MethodName) prog_9_method_3_code (2 : Nat) (Option.some Jvm.ClassFile.FieldType.int)) ∈ TB := tb_2 (i := 232) rfl rfl
theorem tw_2_233 : (Jvm.Cond.selects "OneOfTwo$Spiteful" ({ cls := "OneOfTwo$Lodger", name := "mostAir", desc := "(I)I" } : Jvm.MethodName) ({ cls := "OneOfTwo$Lodger", name := "mostAir", desc := "(I)I" } : Jvm.MethodName)) ∈ TB := tb_2 (i := 233) rfl rfl
theorem tw_2_234 : (Jvm.Cond.selects "OneOfTwo$Strong" ({ cls := "OneOfTwo$Lodger", name := "mostAir", desc := "(I)I" } : Jvm.MethodName) ({ cls := "OneOfTwo$Smoker", name := "mostAir", desc := "(I)I" } : Jvm.MethodName)) ∈ TB := tb_2 (i := 234) rfl rfl
theorem tw_2_235 : (Jvm.Cond.code ({ cls := "OneOfTwo$Lodger", name := "mostAir", desc := "(I)I" } : Jvm.MethodName) prog_5_method_3_code (2 : Nat) (Option.some Jvm.ClassFile.FieldType.int)) ∈ TB := tb_2 (i := 235) rfl rfl
theorem tw_2_236 : (Jvm.Cond.methodLink "OneOfTwo" (191 : Nat) ({ cls := "OneOfTwo$Lodger", name := "strength", desc := "()I" } : Jvm.MethodName)) ∈ TB := tb_2 (i := 236) rfl rfl
theorem tw_2_237 : (Jvm.Cond.instanceMethod ({ cls := "OneOfTwo$Lodger", name := "strength", desc := "()I" } : Jvm.MethodName)) ∈ TB := tb_2 (i := 237) rfl rfl
theorem tw_2_238 : (Jvm.Cond.selects "OneOfTwo$Lodger" ({ cls := "OneOfTwo$Lodger", name := "strength", desc := "()I" } : Jvm.MethodName) ({ cls := "OneOfTwo$Lodger", name := "strength", desc := "()I" } : Jvm.MethodName)) ∈ TB := tb_2 (i := 238) rfl rfl
theorem tw_2_239 : (Jvm.Cond.sameMethod "OneOfTwo$Lodger" "OneOfTwo$Lodger" "strength" "()I") ∈ TB := tb_2 (i := 239) rfl rfl
theorem tw_3_0 : (Jvm.Cond.selects "OneOfTwo$Cougher" ({ cls := "OneOfTwo$Lodger", name := "strength", desc := "()I" } : Jvm.MethodName) ({ cls := "OneOfTwo$Lodger", name := "strength", desc := "()I" } : Jvm.MethodName)) ∈ TB := tb_3 (i := 0) rfl rfl
theorem tw_3_1 : (Jvm.Cond.selects "OneOfTwo$Fevered" ({ cls := "OneOfTwo$Lodger", name := "strength", desc := "()I" } : Jvm.MethodName) ({ cls := "OneOfTwo$Lodger", name := "strength", desc := "()I" } : Jvm.MethodName)) ∈ TB := tb_3 (i := 1) rfl rfl
theorem tw_3_2 : (Jvm.Cond.selects "OneOfTwo$Sleeper" ({ cls := "OneOfTwo$Lodger", name := "strength", desc := "()I" } : Jvm.MethodName) ({ cls := "OneOfTwo$Lodger", name := "strength", desc := "()I" } : Jvm.MethodName)) ∈ TB := tb_3 (i := 2) rfl rfl
theorem tw_3_3 : (Jvm.Cond.selects "OneOfTwo$Smoker" ({ cls := "OneOfTwo$Lodger", name := "strength", desc := "()I" } : Jvm.MethodName) ({ cls := "OneOfTwo$Lodger", name := "strength", desc := "()I" } : Jvm.MethodName)) ∈ TB := tb_3 (i := 3) rfl rfl
theorem tw_3_4 : (Jvm.Cond.selects "OneOfTwo$Spiteful" ({ cls := "OneOfTwo$Lodger", name := "strength", desc := "()I" } : Jvm.MethodName) ({ cls := "OneOfTwo$Lodger", name := "strength", desc := "()I" } : Jvm.MethodName)) ∈ TB := tb_3 (i := 4) rfl rfl
theorem tw_3_5 : (Jvm.Cond.selects "OneOfTwo$Strong" ({ cls := "OneOfTwo$Lodger", name := "strength", desc := "()I" } : Jvm.MethodName) ({ cls := "OneOfTwo$Strong", name := "strength", desc := "()I" } : Jvm.MethodName)) ∈ TB := tb_3 (i := 5) rfl rfl
theorem tw_3_6 : (Jvm.Cond.instanceMethod ({ cls := "OneOfTwo$Strong", name := "strength", desc := "()I" } : Jvm.MethodName)) ∈ TB := tb_3 (i := 6) rfl rfl
theorem tw_3_7 : (Jvm.Cond.code ({ cls := "OneOfTwo$Strong", name := "strength", desc := "()I" } : Jvm.MethodName) prog_11_method_2_code (1 : Nat) (Option.some Jvm.ClassFile.FieldType.int)) ∈ TB := tb_3 (i := 7) rfl rfl
theorem tw_3_8 : (Jvm.Cond.code ({ cls := "OneOfTwo$Lodger", name := "strength", desc := "()I" } : Jvm.MethodName) prog_5_method_4_code (1 : Nat) (Option.some Jvm.ClassFile.FieldType.int)) ∈ TB := tb_3 (i := 8) rfl rfl
theorem tw_3_9 : (Jvm.Cond.methodLink "OneOfTwo" (194 : Nat) ({ cls := "OneOfTwo$House", name := "isContent", desc := "(I)Z" } : Jvm.MethodName)) ∈ TB := tb_3 (i := 9) rfl rfl
theorem tw_3_10 : (Jvm.Cond.instanceMethod ({ cls := "OneOfTwo$House", name := "isContent", desc := "(I)Z" } : Jvm.MethodName)) ∈ TB := tb_3 (i := 10) rfl rfl
theorem tw_3_11 : (Jvm.Cond.selects "OneOfTwo$House" ({ cls := "OneOfTwo$House", name := "isContent", desc := "(I)Z" } : Jvm.MethodName) ({ cls := "OneOfTwo$House", name := "isContent", desc := "(I)Z" } : Jvm.MethodName)) ∈ TB := tb_3 (i := 11) rfl rfl
theorem tw_3_12 : (Jvm.Cond.code ({ cls := "OneOfTwo$House", name := "isContent", desc := "(I)Z" } : Jvm.MethodName) prog_4_method_24_code (3 : Nat) (Option.some Jvm.ClassFile.FieldType.boolean)) ∈ TB := tb_3 (i := 12) rfl rfl
theorem tw_3_13 : (Jvm.Cond.methodLink "OneOfTwo$House" (143 : Nat) ({ cls := "OneOfTwo$House", name := "isContentBy", desc := "(II)Z" } : Jvm.MethodName)) ∈ TB := tb_3 (i := 13) rfl rfl
theorem tw_3_14 : (Jvm.Cond.instanceMethod ({ cls := "OneOfTwo$House", name := "isContentBy", desc := "(II)Z" } : Jvm.MethodName)) ∈ TB := tb_3 (i := 14) rfl rfl
theorem tw_3_15 : (Jvm.Cond.selects "OneOfTwo$House" ({ cls := "OneOfTwo$House", name := "isContentBy", desc := "(II)Z" } : Jvm.MethodName) ({ cls := "OneOfTwo$House", name := "isContentBy", desc := "(II)Z" } : Jvm.MethodName)) ∈ TB := tb_3 (i := 15) rfl rfl
theorem tw_3_16 : (Jvm.Cond.code ({ cls := "OneOfTwo$House", name := "isContentBy", desc := "(II)Z" } : Jvm.MethodName) prog_4_method_23_code (5 : Nat) (Option.some Jvm.ClassFile.FieldType.boolean)) ∈ TB := tb_3 (i := 16) rfl rfl
theorem tw_3_17 : (Jvm.Cond.methodLink "OneOfTwo$House" (133 : Nat) ({ cls := "OneOfTwo$Lodger", name := "leastAir", desc := "(I)I" } : Jvm.MethodName)) ∈ TB := tb_3 (i := 17) rfl rfl
theorem tw_3_18 : (Jvm.Cond.methodLink "OneOfTwo$House" (136 : Nat) ({ cls := "OneOfTwo$Lodger", name := "mostAir", desc := "(I)I" } : Jvm.MethodName)) ∈ TB := tb_3 (i := 18) rfl rfl
theorem tw_3_19 : (Jvm.Cond.methodLink "OneOfTwo$House" (139 : Nat) ({ cls := "OneOfTwo$Lodger", name := "pleased", desc := "(ZI)Z" } : Jvm.MethodName)) ∈ TB := tb_3 (i := 19) rfl rfl
theorem tw_3_20 : (Jvm.Cond.instanceMethod ({ cls := "OneOfTwo$Lodger", name := "pleased", desc := "(ZI)Z" } : Jvm.MethodName)) ∈ TB := tb_3 (i := 20) rfl rfl
theorem tw_3_21 : (Jvm.Cond.selects "OneOfTwo$Lodger" ({ cls := "OneOfTwo$Lodger", name := "pleased", desc := "(ZI)Z" } : Jvm.MethodName) ({ cls := "OneOfTwo$Lodger", name := "pleased", desc := "(ZI)Z" } : Jvm.MethodName)) ∈ TB := tb_3 (i := 21) rfl rfl
theorem tw_3_22 : (Jvm.Cond.sameMethod "OneOfTwo$Lodger" "OneOfTwo$Lodger" "pleased" "(ZI)Z") ∈ TB := tb_3 (i := 22) rfl rfl
theorem tw_3_23 : (Jvm.Cond.selects "OneOfTwo$Cougher" ({ cls := "OneOfTwo$Lodger", name := "pleased", desc := "(ZI)Z" } : Jvm.MethodName) ({ cls := "OneOfTwo$Lodger", name := "pleased", desc := "(ZI)Z" } : Jvm.MethodName)) ∈ TB := tb_3 (i := 23) rfl rfl
theorem tw_3_24 : (Jvm.Cond.selects "OneOfTwo$Fevered" ({ cls := "OneOfTwo$Lodger", name := "pleased", desc := "(ZI)Z" } : Jvm.MethodName) ({ cls := "OneOfTwo$Lodger", name := "pleased", desc := "(ZI)Z" } : Jvm.MethodName)) ∈ TB := tb_3 (i := 24) rfl rfl
theorem tw_3_25 : (Jvm.Cond.selects "OneOfTwo$Sleeper" ({ cls := "OneOfTwo$Lodger", name := "pleased", desc := "(ZI)Z" } : Jvm.MethodName) ({ cls := "OneOfTwo$Sleeper", name := "pleased", desc := "(ZI)Z" } : Jvm.MethodName)) ∈ TB := tb_3 (i := 25) rfl rfl
theorem tw_3_26 : (Jvm.Cond.instanceMethod ({ cls := "OneOfTwo$Sleeper", name := "pleased", desc := "(ZI)Z" } : Jvm.MethodName)) ∈ TB := tb_3 (i := 26) rfl rfl
theorem tw_3_27 : (Jvm.Cond.code ({ cls := "OneOfTwo$Sleeper", name := "pleased", desc := "(ZI)Z" } : Jvm.MethodName) prog_8_method_2_code (3 : Nat) (Option.some Jvm.ClassFile.FieldType.boolean)) ∈ TB := tb_3 (i := 27) rfl rfl
theorem tw_3_28 : (Jvm.Cond.selects "OneOfTwo$Smoker" ({ cls := "OneOfTwo$Lodger", name := "pleased", desc := "(ZI)Z" } : Jvm.MethodName) ({ cls := "OneOfTwo$Lodger", name := "pleased", desc := "(ZI)Z" } : Jvm.MethodName)) ∈ TB := tb_3 (i := 28) rfl rfl
theorem tw_3_29 : (Jvm.Cond.selects "OneOfTwo$Spiteful" ({ cls := "OneOfTwo$Lodger", name := "pleased", desc := "(ZI)Z" } : Jvm.MethodName) ({ cls := "OneOfTwo$Spiteful", name := "pleased", desc := "(ZI)Z" } : Jvm.MethodName)) ∈ TB := tb_3 (i := 29) rfl rfl
theorem tw_3_30 : (Jvm.Cond.instanceMethod ({ cls := "OneOfTwo$Spiteful", name := "pleased", desc := "(ZI)Z" } : Jvm.MethodName)) ∈ TB := tb_3 (i := 30) rfl rfl
theorem tw_3_31 : (Jvm.Cond.code ({ cls := "OneOfTwo$Spiteful", name := "pleased", desc := "(ZI)Z" } : Jvm.MethodName) prog_10_method_2_code (3 : Nat) (Option.some Jvm.ClassFile.FieldType.boolean)) ∈ TB := tb_3 (i := 31) rfl rfl
theorem tw_3_32 : (Jvm.Cond.methodLink "OneOfTwo$Spiteful" (7 : Nat) ({ cls := "OneOfTwo$Sleeper", name := "pleased", desc := "(ZI)Z" } : Jvm.MethodName)) ∈ TB := tb_3 (i := 32) rfl rfl
theorem tw_3_33 : (Jvm.Cond.selects "OneOfTwo$Strong" ({ cls := "OneOfTwo$Lodger", name := "pleased", desc := "(ZI)Z" } : Jvm.MethodName) ({ cls := "OneOfTwo$Lodger", name := "pleased", desc := "(ZI)Z" } : Jvm.MethodName)) ∈ TB := tb_3 (i := 33) rfl rfl
theorem tw_3_34 : (Jvm.Cond.code ({ cls := "OneOfTwo$Lodger", name := "pleased", desc := "(ZI)Z" } : Jvm.MethodName) prog_5_method_5_code (3 : Nat) (Option.some Jvm.ClassFile.FieldType.boolean)) ∈ TB := tb_3 (i := 34) rfl rfl
theorem tw_3_35 : (Jvm.Cond.methodLink "OneOfTwoLaw" (64 : Nat) ({ cls := "OneOfTwo", name := "become", desc := "(II)I" } : Jvm.MethodName)) ∈ TB := tb_3 (i := 35) rfl rfl
theorem tw_3_36 : (Jvm.Cond.instanceMethod ({ cls := "OneOfTwo", name := "become", desc := "(II)I" } : Jvm.MethodName)) ∈ TB := tb_3 (i := 36) rfl rfl
theorem tw_3_37 : (Jvm.Cond.selects "OneOfTwo" ({ cls := "OneOfTwo", name := "become", desc := "(II)I" } : Jvm.MethodName) ({ cls := "OneOfTwo", name := "become", desc := "(II)I" } : Jvm.MethodName)) ∈ TB := tb_3 (i := 37) rfl rfl
theorem tw_3_38 : (Jvm.Cond.code ({ cls := "OneOfTwo", name := "become", desc := "(II)I" } : Jvm.MethodName) prog_1_method_14_code (4 : Nat) (Option.some Jvm.ClassFile.FieldType.int)) ∈ TB := tb_3 (i := 38) rfl rfl
theorem tw_3_39 : (Jvm.Cond.methodLink "OneOfTwoLaw" (68 : Nat) ({ cls := "OneOfTwo", name := "as", desc := "(II)I" } : Jvm.MethodName)) ∈ TB := tb_3 (i := 39) rfl rfl
theorem tw_3_40 : (Jvm.Cond.instanceMethod ({ cls := "OneOfTwo", name := "as", desc := "(II)I" } : Jvm.MethodName)) ∈ TB := tb_3 (i := 40) rfl rfl
theorem tw_3_41 : (Jvm.Cond.selects "OneOfTwo" ({ cls := "OneOfTwo", name := "as", desc := "(II)I" } : Jvm.MethodName) ({ cls := "OneOfTwo", name := "as", desc := "(II)I" } : Jvm.MethodName)) ∈ TB := tb_3 (i := 41) rfl rfl
theorem tw_3_42 : (Jvm.Cond.code ({ cls := "OneOfTwo", name := "as", desc := "(II)I" } : Jvm.MethodName) prog_1_method_15_code (3 : Nat) (Option.some Jvm.ClassFile.FieldType.int)) ∈ TB := tb_3 (i := 42) rfl rfl
theorem tw_3_43 : (Jvm.Cond.methodLink "OneOfTwo" (197 : Nat) ({ cls := "OneOfTwo", name := "isUnder", desc := "(II)Z" } : Jvm.MethodName)) ∈ TB := tb_3 (i := 43) rfl rfl
theorem tw_3_44 : (Jvm.Cond.static ({ cls := "OneOfTwo", name := "isUnder", desc := "(II)Z" } : Jvm.MethodName)) ∈ TB := tb_3 (i := 44) rfl rfl
theorem tw_3_45 : (Jvm.Cond.code ({ cls := "OneOfTwo", name := "isUnder", desc := "(II)Z" } : Jvm.MethodName) prog_1_method_54_code (4 : Nat) (Option.some Jvm.ClassFile.FieldType.boolean)) ∈ TB := tb_3 (i := 45) rfl rfl
theorem tw_3_46 : (Jvm.Cond.fieldLink "OneOfTwo" (333 : Nat) "OneOfTwo" "KIND_ABOVE" "[I") ∈ TB := tb_3 (i := 46) rfl rfl
theorem tw_3_48 : (Jvm.Cond.methodLink "OneOfTwoLaw" (72 : Nat) ({ cls := "OneOfTwo", name := "goes", desc := "(II)I" } : Jvm.MethodName)) ∈ TB := tb_3 (i := 48) rfl rfl
theorem tw_3_49 : (Jvm.Cond.instanceMethod ({ cls := "OneOfTwo", name := "goes", desc := "(II)I" } : Jvm.MethodName)) ∈ TB := tb_3 (i := 49) rfl rfl
theorem tw_3_50 : (Jvm.Cond.selects "OneOfTwo" ({ cls := "OneOfTwo", name := "goes", desc := "(II)I" } : Jvm.MethodName) ({ cls := "OneOfTwo", name := "goes", desc := "(II)I" } : Jvm.MethodName)) ∈ TB := tb_3 (i := 50) rfl rfl
theorem tw_3_51 : (Jvm.Cond.code ({ cls := "OneOfTwo", name := "goes", desc := "(II)I" } : Jvm.MethodName) prog_1_method_16_code (4 : Nat) (Option.some Jvm.ClassFile.FieldType.int)) ∈ TB := tb_3 (i := 51) rfl rfl
theorem tw_3_52 : (Jvm.Cond.methodLink "OneOfTwoLaw" (76 : Nat) ({ cls := "OneOfTwo", name := "content", desc := "()I" } : Jvm.MethodName)) ∈ TB := tb_3 (i := 52) rfl rfl
theorem tw_3_53 : (Jvm.Cond.instanceMethod ({ cls := "OneOfTwo", name := "content", desc := "()I" } : Jvm.MethodName)) ∈ TB := tb_3 (i := 53) rfl rfl
theorem tw_3_54 : (Jvm.Cond.selects "OneOfTwo" ({ cls := "OneOfTwo", name := "content", desc := "()I" } : Jvm.MethodName) ({ cls := "OneOfTwo", name := "content", desc := "()I" } : Jvm.MethodName)) ∈ TB := tb_3 (i := 54) rfl rfl
theorem tw_3_55 : (Jvm.Cond.code ({ cls := "OneOfTwo", name := "content", desc := "()I" } : Jvm.MethodName) prog_1_method_17_code (1 : Nat) (Option.some Jvm.ClassFile.FieldType.int)) ∈ TB := tb_3 (i := 55) rfl rfl
theorem tw_3_56 : (Jvm.Cond.methodLink "OneOfTwo" (200 : Nat) ({ cls := "OneOfTwo$House", name := "contentSet", desc := "()I" } : Jvm.MethodName)) ∈ TB := tb_3 (i := 56) rfl rfl
theorem tw_3_57 : (Jvm.Cond.instanceMethod ({ cls := "OneOfTwo$House", name := "contentSet", desc := "()I" } : Jvm.MethodName)) ∈ TB := tb_3 (i := 57) rfl rfl
theorem tw_3_58 : (Jvm.Cond.selects "OneOfTwo$House" ({ cls := "OneOfTwo$House", name := "contentSet", desc := "()I" } : Jvm.MethodName) ({ cls := "OneOfTwo$House", name := "contentSet", desc := "()I" } : Jvm.MethodName)) ∈ TB := tb_3 (i := 58) rfl rfl
theorem tw_3_59 : (Jvm.Cond.code ({ cls := "OneOfTwo$House", name := "contentSet", desc := "()I" } : Jvm.MethodName) prog_4_method_25_code (3 : Nat) (Option.some Jvm.ClassFile.FieldType.int)) ∈ TB := tb_3 (i := 59) rfl rfl
theorem tw_3_60 : (Jvm.Cond.methodLink "OneOfTwo$House" (147 : Nat) ({ cls := "OneOfTwo$House", name := "isContent", desc := "(I)Z" } : Jvm.MethodName)) ∈ TB := tb_3 (i := 60) rfl rfl
theorem tw_3_61 : (Jvm.Cond.methodLink "OneOfTwoLaw" (82 : Nat) ({ cls := "OneOfTwo", name := "feed", desc := "(JI)I" } : Jvm.MethodName)) ∈ TB := tb_3 (i := 61) rfl rfl
theorem tw_3_62 : (Jvm.Cond.instanceMethod ({ cls := "OneOfTwo", name := "feed", desc := "(JI)I" } : Jvm.MethodName)) ∈ TB := tb_3 (i := 62) rfl rfl
theorem tw_3_63 : (Jvm.Cond.selects "OneOfTwo" ({ cls := "OneOfTwo", name := "feed", desc := "(JI)I" } : Jvm.MethodName) ({ cls := "OneOfTwo", name := "feed", desc := "(JI)I" } : Jvm.MethodName)) ∈ TB := tb_3 (i := 63) rfl rfl
theorem tw_3_64 : (Jvm.Cond.code ({ cls := "OneOfTwo", name := "feed", desc := "(JI)I" } : Jvm.MethodName) prog_1_method_18_code (5 : Nat) (Option.some Jvm.ClassFile.FieldType.int)) ∈ TB := tb_3 (i := 64) rfl rfl
theorem tw_3_65 : (Jvm.Cond.methodLink "OneOfTwo" (209 : Nat) ({ cls := "OneOfTwo$Row", name := "add", desc := "(I)V" } : Jvm.MethodName)) ∈ TB := tb_3 (i := 65) rfl rfl
theorem tw_3_66 : (Jvm.Cond.instanceMethod ({ cls := "OneOfTwo$Row", name := "add", desc := "(I)V" } : Jvm.MethodName)) ∈ TB := tb_3 (i := 66) rfl rfl
theorem tw_3_67 : (Jvm.Cond.selects "OneOfTwo$Row" ({ cls := "OneOfTwo$Row", name := "add", desc := "(I)V" } : Jvm.MethodName) ({ cls := "OneOfTwo$Row", name := "add", desc := "(I)V" } : Jvm.MethodName)) ∈ TB := tb_3 (i := 67) rfl rfl
theorem tw_3_68 : (Jvm.Cond.code ({ cls := "OneOfTwo$Row", name := "add", desc := "(I)V" } : Jvm.MethodName) prog_6_method_2_code (2 : Nat) (Option.none : Option Jvm.ClassFile.FieldType)) ∈ TB := tb_3 (i := 68) rfl rfl
theorem tw_3_69 : (Jvm.Cond.methodLink "OneOfTwoLaw" (87 : Nat) ({ cls := "OneOfTwo", name := "text", desc := "(I)I" } : Jvm.MethodName)) ∈ TB := tb_3 (i := 69) rfl rfl
theorem tw_3_70 : (Jvm.Cond.instanceMethod ({ cls := "OneOfTwo", name := "text", desc := "(I)I" } : Jvm.MethodName)) ∈ TB := tb_3 (i := 70) rfl rfl
theorem tw_3_71 : (Jvm.Cond.selects "OneOfTwo" ({ cls := "OneOfTwo", name := "text", desc := "(I)I" } : Jvm.MethodName) ({ cls := "OneOfTwo", name := "text", desc := "(I)I" } : Jvm.MethodName)) ∈ TB := tb_3 (i := 71) rfl rfl
theorem tw_3_72 : (Jvm.Cond.code ({ cls := "OneOfTwo", name := "text", desc := "(I)I" } : Jvm.MethodName) prog_1_method_19_code (4 : Nat) (Option.some Jvm.ClassFile.FieldType.int)) ∈ TB := tb_3 (i := 72) rfl rfl
theorem tw_3_73 : (Jvm.Cond.methodLink "OneOfTwo" (212 : Nat) ({ cls := "OneOfTwo", name := "isUse", desc := "(I)Z" } : Jvm.MethodName)) ∈ TB := tb_3 (i := 73) rfl rfl
theorem tw_3_74 : (Jvm.Cond.static ({ cls := "OneOfTwo", name := "isUse", desc := "(I)Z" } : Jvm.MethodName)) ∈ TB := tb_3 (i := 74) rfl rfl
theorem tw_3_75 : (Jvm.Cond.code ({ cls := "OneOfTwo", name := "isUse", desc := "(I)Z" } : Jvm.MethodName) prog_1_method_52_code (1 : Nat) (Option.some Jvm.ClassFile.FieldType.boolean)) ∈ TB := tb_3 (i := 75) rfl rfl
theorem tw_3_76 : (Jvm.Cond.classLink "OneOfTwo" (215 : Nat) "OneOfTwo$Text") ∈ TB := tb_3 (i := 76) rfl rfl
theorem tw_3_77 : (Jvm.Cond.instantiable "OneOfTwo$Text" (7 : Nat)) ∈ TB := tb_3 (i := 77) rfl rfl
theorem tw_3_78 : (Jvm.Cond.methodLink "OneOfTwo" (217 : Nat) ({ cls := "OneOfTwo$Text", name := "<init>", desc := "(I[I)V" } : Jvm.MethodName)) ∈ TB := tb_3 (i := 78) rfl rfl
theorem tw_3_79 : (Jvm.Cond.instanceMethod ({ cls := "OneOfTwo$Text", name := "<init>", desc := "(I[I)V" } : Jvm.MethodName)) ∈ TB := tb_3 (i := 79) rfl rfl
theorem tw_3_80 : (Jvm.Cond.code ({ cls := "OneOfTwo$Text", name := "<init>", desc := "(I[I)V" } : Jvm.MethodName) prog_12_method_1_code (3 : Nat) (Option.none : Option Jvm.ClassFile.FieldType)) ∈ TB := tb_3 (i := 80) rfl rfl
theorem tw_3_81 : (Jvm.Cond.methodLink "OneOfTwo$Text" (3 : Nat) ({ cls := "java/lang/Object", name := "<init>", desc := "()V" } : Jvm.MethodName)) ∈ TB := tb_3 (i := 81) rfl rfl
theorem tw_3_82 : (Jvm.Cond.fieldLink "OneOfTwo$Text" (28 : Nat) "OneOfTwo$Text" "id" "I") ∈ TB := tb_3 (i := 82) rfl rfl
theorem tw_3_83 : (Jvm.Cond.fieldLink "OneOfTwo$House" (127 : Nat) "OneOfTwo$Text" "id" "I") ∈ TB := tb_3 (i := 83) rfl rfl
theorem tw_3_84 : (Jvm.Cond.fieldLink "OneOfTwo$Text" (31 : Nat) "OneOfTwo$Text" "memo" "[I") ∈ TB := tb_3 (i := 84) rfl rfl
theorem tw_3_85 : (Jvm.Cond.fieldLink "OneOfTwo$House" (120 : Nat) "OneOfTwo$Text" "memo" "[I") ∈ TB := tb_3 (i := 85) rfl rfl
theorem tw_3_86 : (Jvm.Cond.fieldLink "OneOfTwo$Text" (9 : Nat) "OneOfTwo$Text" "code" "[I") ∈ TB := tb_3 (i := 86) rfl rfl
theorem tw_3_87 : (Jvm.Cond.fieldLink "OneOfTwo$Text" (15 : Nat) "OneOfTwo$Text" "length" "I") ∈ TB := tb_3 (i := 87) rfl rfl
theorem tw_3_88 : (Jvm.Cond.fieldLink "OneOfTwo$Text" (19 : Nat) "OneOfTwo$Text" "stack" "[I") ∈ TB := tb_3 (i := 88) rfl rfl
theorem tw_3_89 : (Jvm.Cond.fieldLink "OneOfTwo$Text" (22 : Nat) "OneOfTwo$Text" "top" "I") ∈ TB := tb_3 (i := 89) rfl rfl
theorem tw_3_90 : (Jvm.Cond.fieldLink "OneOfTwo$Text" (25 : Nat) "OneOfTwo$Text" "nowOpen" "I") ∈ TB := tb_3 (i := 90) rfl rfl
theorem tw_3_91 : (Jvm.Cond.laysFinal "OneOfTwo$Text" "OneOfTwo$Text" "id" "I") ∈ TB := tb_3 (i := 91) rfl rfl
theorem tw_3_92 : (Jvm.Cond.soleField "OneOfTwo$Text" "id") ∈ TB := tb_3 (i := 92) rfl rfl
theorem tw_3_93 : (Jvm.Cond.laysFinal "OneOfTwo$Text" "OneOfTwo$Text" "memo" "[I") ∈ TB := tb_3 (i := 93) rfl rfl
theorem tw_3_94 : (Jvm.Cond.soleField "OneOfTwo$Text" "memo") ∈ TB := tb_3 (i := 94) rfl rfl
theorem tw_3_95 : (Jvm.Cond.laysFinal "OneOfTwo$Text" "OneOfTwo$Text" "code" "[I") ∈ TB := tb_3 (i := 95) rfl rfl
theorem tw_3_96 : (Jvm.Cond.soleField "OneOfTwo$Text" "code") ∈ TB := tb_3 (i := 96) rfl rfl
theorem tw_3_97 : (Jvm.Cond.lays "OneOfTwo$Text" "OneOfTwo$Text" "length" "I") ∈ TB := tb_3 (i := 97) rfl rfl
theorem tw_3_98 : (Jvm.Cond.soleField "OneOfTwo$Text" "length") ∈ TB := tb_3 (i := 98) rfl rfl
theorem tw_3_99 : (Jvm.Cond.laysFinal "OneOfTwo$Text" "OneOfTwo$Text" "stack" "[I") ∈ TB := tb_3 (i := 99) rfl rfl
theorem tw_3_100 : (Jvm.Cond.soleField "OneOfTwo$Text" "stack") ∈ TB := tb_3 (i := 100) rfl rfl
theorem tw_3_101 : (Jvm.Cond.lays "OneOfTwo$Text" "OneOfTwo$Text" "top" "I") ∈ TB := tb_3 (i := 101) rfl rfl
theorem tw_3_102 : (Jvm.Cond.soleField "OneOfTwo$Text" "top") ∈ TB := tb_3 (i := 102) rfl rfl
theorem tw_3_103 : (Jvm.Cond.lays "OneOfTwo$Text" "OneOfTwo$Text" "nowOpen" "I") ∈ TB := tb_3 (i := 103) rfl rfl
theorem tw_3_104 : (Jvm.Cond.soleField "OneOfTwo$Text" "nowOpen") ∈ TB := tb_3 (i := 104) rfl rfl
theorem tw_3_105 : (Jvm.Cond.superclass "OneOfTwo$Text" "java/lang/Object") ∈ TB := tb_3 (i := 105) rfl rfl
theorem tw_3_106 : (Jvm.Cond.methodLink "OneOfTwo" (220 : Nat) ({ cls := "OneOfTwo$Text", name := "read", desc := "(LOneOfTwo$Row;I)I" } : Jvm.MethodName)) ∈ TB := tb_3 (i := 106) rfl rfl
theorem tw_3_107 : (Jvm.Cond.instanceMethod ({ cls := "OneOfTwo$Text", name := "read", desc := "(LOneOfTwo$Row;I)I" } : Jvm.MethodName)) ∈ TB := tb_3 (i := 107) rfl rfl
theorem tw_3_108 : (Jvm.Cond.selects "OneOfTwo$Text" ({ cls := "OneOfTwo$Text", name := "read", desc := "(LOneOfTwo$Row;I)I" } : Jvm.MethodName) ({ cls := "OneOfTwo$Text", name := "read", desc := "(LOneOfTwo$Row;I)I" } : Jvm.MethodName)) ∈ TB := tb_3 (i := 108) rfl rfl
theorem tw_3_109 : (Jvm.Cond.code ({ cls := "OneOfTwo$Text", name := "read", desc := "(LOneOfTwo$Row;I)I" } : Jvm.MethodName) prog_12_method_2_code (8 : Nat) (Option.some Jvm.ClassFile.FieldType.int)) ∈ TB := tb_3 (i := 109) rfl rfl
theorem tw_3_112 : (Jvm.Cond.methodLink "OneOfTwo$Text" (44 : Nat) ({ cls := "OneOfTwo$Text", name := "closes", desc := "()Z" } : Jvm.MethodName)) ∈ TB := tb_3 (i := 112) rfl rfl
theorem tw_3_114 : (Jvm.Cond.instanceMethod ({ cls := "OneOfTwo$Text", name := "closes", desc := "()Z" } : Jvm.MethodName)) ∈ TB := tb_3 (i := 114) rfl rfl
theorem tw_3_115 : (Jvm.Cond.code ({ cls := "OneOfTwo$Text", name := "closes", desc := "()Z" } : Jvm.MethodName) prog_12_method_12_code (1 : Nat) (Option.some Jvm.ClassFile.FieldType.boolean)) ∈ TB := tb_3 (i := 115) rfl rfl
theorem tw_3_116 : (Jvm.Cond.methodLink "OneOfTwo$Text" (80 : Nat) ({ cls := "OneOfTwo$Text", name := "settleDownTo", desc := "(I)V" } : Jvm.MethodName)) ∈ TB := tb_3 (i := 116) rfl rfl
theorem tw_3_118 : (Jvm.Cond.instanceMethod ({ cls := "OneOfTwo$Text", name := "settleDownTo", desc := "(I)V" } : Jvm.MethodName)) ∈ TB := tb_3 (i := 118) rfl rfl
theorem tw_3_119 : (Jvm.Cond.code ({ cls := "OneOfTwo$Text", name := "settleDownTo", desc := "(I)V" } : Jvm.MethodName) prog_12_method_14_code (2 : Nat) (Option.none : Option Jvm.ClassFile.FieldType)) ∈ TB := tb_3 (i := 119) rfl rfl
theorem tw_3_120 : (Jvm.Cond.methodLink "OneOfTwo$Text" (98 : Nat) ({ cls := "OneOfTwo$Text", name := "levelOf", desc := "(I)I" } : Jvm.MethodName)) ∈ TB := tb_3 (i := 120) rfl rfl
theorem tw_3_121 : (Jvm.Cond.static ({ cls := "OneOfTwo$Text", name := "levelOf", desc := "(I)I" } : Jvm.MethodName)) ∈ TB := tb_3 (i := 121) rfl rfl
theorem tw_3_122 : (Jvm.Cond.code ({ cls := "OneOfTwo$Text", name := "levelOf", desc := "(I)I" } : Jvm.MethodName) prog_12_method_15_code (1 : Nat) (Option.some Jvm.ClassFile.FieldType.int)) ∈ TB := tb_3 (i := 122) rfl rfl
theorem tw_3_123 : (Jvm.Cond.methodLink "OneOfTwo$Text" (89 : Nat) ({ cls := "OneOfTwo$Text", name := "addCode", desc := "(I)V" } : Jvm.MethodName)) ∈ TB := tb_3 (i := 123) rfl rfl
theorem tw_3_125 : (Jvm.Cond.instanceMethod ({ cls := "OneOfTwo$Text", name := "addCode", desc := "(I)V" } : Jvm.MethodName)) ∈ TB := tb_3 (i := 125) rfl rfl
theorem tw_3_126 : (Jvm.Cond.code ({ cls := "OneOfTwo$Text", name := "addCode", desc := "(I)V" } : Jvm.MethodName) prog_12_method_7_code (2 : Nat) (Option.none : Option Jvm.ClassFile.FieldType)) ∈ TB := tb_3 (i := 126) rfl rfl
theorem tw_3_127 : (Jvm.Cond.methodLink "OneOfTwo$Text" (92 : Nat) ({ cls := "OneOfTwo$Text", name := "closeNots", desc := "()V" } : Jvm.MethodName)) ∈ TB := tb_3 (i := 127) rfl rfl
theorem tw_3_129 : (Jvm.Cond.instanceMethod ({ cls := "OneOfTwo$Text", name := "closeNots", desc := "()V" } : Jvm.MethodName)) ∈ TB := tb_3 (i := 129) rfl rfl
theorem tw_3_130 : (Jvm.Cond.code ({ cls := "OneOfTwo$Text", name := "closeNots", desc := "()V" } : Jvm.MethodName) prog_12_method_9_code (1 : Nat) (Option.none : Option Jvm.ClassFile.FieldType)) ∈ TB := tb_3 (i := 130) rfl rfl
theorem tw_3_131 : (Jvm.Cond.methodLink "OneOfTwo$Text" (48 : Nat) ({ cls := "OneOfTwo$Text", name := "joins", desc := "(I)Z" } : Jvm.MethodName)) ∈ TB := tb_3 (i := 131) rfl rfl
theorem tw_3_133 : (Jvm.Cond.instanceMethod ({ cls := "OneOfTwo$Text", name := "joins", desc := "(I)Z" } : Jvm.MethodName)) ∈ TB := tb_3 (i := 133) rfl rfl
theorem tw_3_134 : (Jvm.Cond.code ({ cls := "OneOfTwo$Text", name := "joins", desc := "(I)Z" } : Jvm.MethodName) prog_12_method_13_code (3 : Nat) (Option.some Jvm.ClassFile.FieldType.boolean)) ∈ TB := tb_3 (i := 134) rfl rfl
theorem tw_3_135 : (Jvm.Cond.methodLink "OneOfTwo$Text" (95 : Nat) ({ cls := "OneOfTwo$Text", name := "push", desc := "(I)Z" } : Jvm.MethodName)) ∈ TB := tb_3 (i := 135) rfl rfl
theorem tw_3_137 : (Jvm.Cond.instanceMethod ({ cls := "OneOfTwo$Text", name := "push", desc := "(I)Z" } : Jvm.MethodName)) ∈ TB := tb_3 (i := 137) rfl rfl
theorem tw_3_138 : (Jvm.Cond.code ({ cls := "OneOfTwo$Text", name := "push", desc := "(I)Z" } : Jvm.MethodName) prog_12_method_10_code (2 : Nat) (Option.some Jvm.ClassFile.FieldType.boolean)) ∈ TB := tb_3 (i := 138) rfl rfl
theorem tw_3_139 : (Jvm.Cond.methodLink "OneOfTwo$Text" (52 : Nat) ({ cls := "OneOfTwo$Text", name := "isDigit", desc := "(I)Z" } : Jvm.MethodName)) ∈ TB := tb_3 (i := 139) rfl rfl
theorem tw_3_140 : (Jvm.Cond.static ({ cls := "OneOfTwo$Text", name := "isDigit", desc := "(I)Z" } : Jvm.MethodName)) ∈ TB := tb_3 (i := 140) rfl rfl
theorem tw_3_141 : (Jvm.Cond.code ({ cls := "OneOfTwo$Text", name := "isDigit", desc := "(I)Z" } : Jvm.MethodName) prog_12_method_3_code (1 : Nat) (Option.some Jvm.ClassFile.FieldType.boolean)) ∈ TB := tb_3 (i := 141) rfl rfl
theorem tw_3_142 : (Jvm.Cond.methodLink "OneOfTwo$Text" (55 : Nat) ({ cls := "OneOfTwo$Text", name := "numberEnd", desc := "(LOneOfTwo$Row;I)I" } : Jvm.MethodName)) ∈ TB := tb_3 (i := 142) rfl rfl
theorem tw_3_143 : (Jvm.Cond.static ({ cls := "OneOfTwo$Text", name := "numberEnd", desc := "(LOneOfTwo$Row;I)I" } : Jvm.MethodName)) ∈ TB := tb_3 (i := 143) rfl rfl
theorem tw_3_144 : (Jvm.Cond.code ({ cls := "OneOfTwo$Text", name := "numberEnd", desc := "(LOneOfTwo$Row;I)I" } : Jvm.MethodName) prog_12_method_5_code (4 : Nat) (Option.some Jvm.ClassFile.FieldType.int)) ∈ TB := tb_3 (i := 144) rfl rfl
theorem tw_3_145 : (Jvm.Cond.methodLink "OneOfTwo$Text" (83 : Nat) ({ cls := "java/lang/Math", name := "min", desc := "(II)I" } : Jvm.MethodName)) ∈ TB := tb_3 (i := 145) rfl rfl
theorem tw_3_146 : (Jvm.Cond.methodLink "OneOfTwo$Text" (59 : Nat) ({ cls := "OneOfTwo$Text", name := "numberOf", desc := "(LOneOfTwo$Row;II)I" } : Jvm.MethodName)) ∈ TB := tb_3 (i := 146) rfl rfl
theorem tw_3_147 : (Jvm.Cond.static ({ cls := "OneOfTwo$Text", name := "numberOf", desc := "(LOneOfTwo$Row;II)I" } : Jvm.MethodName)) ∈ TB := tb_3 (i := 147) rfl rfl
theorem tw_3_148 : (Jvm.Cond.code ({ cls := "OneOfTwo$Text", name := "numberOf", desc := "(LOneOfTwo$Row;II)I" } : Jvm.MethodName) prog_12_method_6_code (5 : Nat) (Option.some Jvm.ClassFile.FieldType.int)) ∈ TB := tb_3 (i := 148) rfl rfl
theorem tw_3_149 : (Jvm.Cond.methodLink "OneOfTwo$Text" (63 : Nat) ({ cls := "OneOfTwo$Text", name := "addValue", desc := "(I)V" } : Jvm.MethodName)) ∈ TB := tb_3 (i := 149) rfl rfl
theorem tw_3_151 : (Jvm.Cond.instanceMethod ({ cls := "OneOfTwo$Text", name := "addValue", desc := "(I)V" } : Jvm.MethodName)) ∈ TB := tb_3 (i := 151) rfl rfl
theorem tw_3_152 : (Jvm.Cond.code ({ cls := "OneOfTwo$Text", name := "addValue", desc := "(I)V" } : Jvm.MethodName) prog_12_method_8_code (2 : Nat) (Option.none : Option Jvm.ClassFile.FieldType)) ∈ TB := tb_3 (i := 152) rfl rfl
theorem tw_3_153 : (Jvm.Cond.methodLink "OneOfTwo$Text" (67 : Nat) ({ cls := "OneOfTwo$Text", name := "isName", desc := "(Ljava/lang/String;I)Z" } : Jvm.MethodName)) ∈ TB := tb_3 (i := 153) rfl rfl
theorem tw_3_154 : (Jvm.Cond.static ({ cls := "OneOfTwo$Text", name := "isName", desc := "(Ljava/lang/String;I)Z" } : Jvm.MethodName)) ∈ TB := tb_3 (i := 154) rfl rfl
theorem tw_3_155 : (Jvm.Cond.code ({ cls := "OneOfTwo$Text", name := "isName", desc := "(Ljava/lang/String;I)Z" } : Jvm.MethodName) prog_12_method_4_code (2 : Nat) (Option.some Jvm.ClassFile.FieldType.boolean)) ∈ TB := tb_3 (i := 155) rfl rfl
theorem tw_3_156 : (Jvm.Cond.methodLink "OneOfTwo$Text" (71 : Nat) ({ cls := "java/lang/String", name := "indexOf", desc := "(I)I" } : Jvm.MethodName)) ∈ TB := tb_3 (i := 156) rfl rfl
theorem tw_3_157 : (Jvm.Cond.instanceMethod ({ cls := "java/lang/String", name := "indexOf", desc := "(I)I" } : Jvm.MethodName)) ∈ TB := tb_3 (i := 157) rfl rfl
theorem tw_3_158 : (Jvm.Cond.selects "java/lang/String" ({ cls := "java/lang/String", name := "indexOf", desc := "(I)I" } : Jvm.MethodName) ({ cls := "java/lang/String", name := "indexOf", desc := "(I)I" } : Jvm.MethodName)) ∈ TB := tb_3 (i := 158) rfl rfl
theorem tw_3_159 : (Jvm.Cond.code ({ cls := "java/lang/String", name := "indexOf", desc := "(I)I" } : Jvm.MethodName) prog_18_method_79_code (2 : Nat) (Option.some Jvm.ClassFile.FieldType.int)) ∈ TB := tb_3 (i := 159) rfl rfl
theorem tw_3_160 : (Jvm.Cond.methodLink "java/lang/String" (633 : Nat) ({ cls := "java/lang/String", name := "indexOf", desc := "(II)I" } : Jvm.MethodName)) ∈ TB := tb_3 (i := 160) rfl rfl
theorem tw_3_161 : (Jvm.Cond.instanceMethod ({ cls := "java/lang/String", name := "indexOf", desc := "(II)I" } : Jvm.MethodName)) ∈ TB := tb_3 (i := 161) rfl rfl
theorem tw_3_162 : (Jvm.Cond.selects "java/lang/String" ({ cls := "java/lang/String", name := "indexOf", desc := "(II)I" } : Jvm.MethodName) ({ cls := "java/lang/String", name := "indexOf", desc := "(II)I" } : Jvm.MethodName)) ∈ TB := tb_3 (i := 162) rfl rfl
theorem tw_3_163 : (Jvm.Cond.code ({ cls := "java/lang/String", name := "indexOf", desc := "(II)I" } : Jvm.MethodName) prog_18_method_80_code (3 : Nat) (Option.some Jvm.ClassFile.FieldType.int)) ∈ TB := tb_3 (i := 163) rfl rfl
theorem tw_3_164 : (Jvm.Cond.methodLink "java/lang/String" (492 : Nat) ({ cls := "java/lang/String", name := "isLatin1", desc := "()Z" } : Jvm.MethodName)) ∈ TB := tb_3 (i := 164) rfl rfl
theorem tw_3_165 : (Jvm.Cond.instanceMethod ({ cls := "java/lang/String", name := "isLatin1", desc := "()Z" } : Jvm.MethodName)) ∈ TB := tb_3 (i := 165) rfl rfl
theorem tw_3_166 : (Jvm.Cond.selects "java/lang/String" ({ cls := "java/lang/String", name := "isLatin1", desc := "()Z" } : Jvm.MethodName) ({ cls := "java/lang/String", name := "isLatin1", desc := "()Z" } : Jvm.MethodName)) ∈ TB := tb_3 (i := 166) rfl rfl
theorem tw_3_167 : (Jvm.Cond.code ({ cls := "java/lang/String", name := "isLatin1", desc := "()Z" } : Jvm.MethodName) prog_18_method_154_code (1 : Nat) (Option.some Jvm.ClassFile.FieldType.boolean)) ∈ TB := tb_3 (i := 167) rfl rfl
theorem tw_3_168 : (Jvm.Cond.fieldLink "java/lang/String" (38 : Nat) "java/lang/String" "COMPACT_STRINGS" "Z") ∈ TB := tb_3 (i := 168) rfl rfl
theorem tw_3_170 : (Jvm.Cond.methodLink "java/lang/String" (505 : Nat) ({ cls := "java/lang/String", name := "length", desc := "()I" } : Jvm.MethodName)) ∈ TB := tb_3 (i := 170) rfl rfl
theorem tw_3_171 : (Jvm.Cond.instanceMethod ({ cls := "java/lang/String", name := "length", desc := "()I" } : Jvm.MethodName)) ∈ TB := tb_3 (i := 171) rfl rfl
theorem tw_3_172 : (Jvm.Cond.selects "java/lang/String" ({ cls := "java/lang/String", name := "length", desc := "()I" } : Jvm.MethodName) ({ cls := "java/lang/String", name := "length", desc := "()I" } : Jvm.MethodName)) ∈ TB := tb_3 (i := 172) rfl rfl
theorem tw_3_173 : (Jvm.Cond.code ({ cls := "java/lang/String", name := "length", desc := "()I" } : Jvm.MethodName) prog_18_method_54_code (1 : Nat) (Option.some Jvm.ClassFile.FieldType.int)) ∈ TB := tb_3 (i := 173) rfl rfl
theorem tw_3_174 : (Jvm.Cond.methodLink "java/lang/String" (335 : Nat) ({ cls := "java/lang/String", name := "coder", desc := "()B" } : Jvm.MethodName)) ∈ TB := tb_3 (i := 174) rfl rfl
theorem tw_3_175 : (Jvm.Cond.instanceMethod ({ cls := "java/lang/String", name := "coder", desc := "()B" } : Jvm.MethodName)) ∈ TB := tb_3 (i := 175) rfl rfl
theorem tw_3_176 : (Jvm.Cond.selects "java/lang/String" ({ cls := "java/lang/String", name := "coder", desc := "()B" } : Jvm.MethodName) ({ cls := "java/lang/String", name := "coder", desc := "()B" } : Jvm.MethodName)) ∈ TB := tb_3 (i := 176) rfl rfl
theorem tw_3_177 : (Jvm.Cond.code ({ cls := "java/lang/String", name := "coder", desc := "()B" } : Jvm.MethodName) prog_18_method_152_code (1 : Nat) (Option.some Jvm.ClassFile.FieldType.byte)) ∈ TB := tb_3 (i := 177) rfl rfl
theorem tw_3_178 : (Jvm.Cond.methodLink "java/lang/String" (637 : Nat) ({ cls := "java/lang/StringLatin1", name := "indexOf", desc := "([BIII)I" } : Jvm.MethodName)) ∈ TB := tb_3 (i := 178) rfl rfl
theorem tw_3_179 : (Jvm.Cond.static ({ cls := "java/lang/StringLatin1", name := "indexOf", desc := "([BIII)I" } : Jvm.MethodName)) ∈ TB := tb_3 (i := 179) rfl rfl
theorem tw_3_180 : (Jvm.Cond.code ({ cls := "java/lang/StringLatin1", name := "indexOf", desc := "([BIII)I" } : Jvm.MethodName) prog_19_method_22_code (4 : Nat) (Option.some Jvm.ClassFile.FieldType.int)) ∈ TB := tb_3 (i := 180) rfl rfl
theorem tw_3_181 : (Jvm.Cond.methodLink "java/lang/StringLatin1" (88 : Nat) ({ cls := "java/lang/StringLatin1", name := "canEncode", desc := "(I)Z" } : Jvm.MethodName)) ∈ TB := tb_3 (i := 181) rfl rfl
theorem tw_3_182 : (Jvm.Cond.static ({ cls := "java/lang/StringLatin1", name := "canEncode", desc := "(I)Z" } : Jvm.MethodName)) ∈ TB := tb_3 (i := 182) rfl rfl
theorem tw_3_183 : (Jvm.Cond.code ({ cls := "java/lang/StringLatin1", name := "canEncode", desc := "(I)Z" } : Jvm.MethodName) prog_19_method_4_code (1 : Nat) (Option.some Jvm.ClassFile.FieldType.boolean)) ∈ TB := tb_3 (i := 183) rfl rfl
theorem tw_3_184 : (Jvm.Cond.methodLink "java/lang/StringLatin1" (92 : Nat) ({ cls := "java/lang/Math", name := "max", desc := "(II)I" } : Jvm.MethodName)) ∈ TB := tb_3 (i := 184) rfl rfl
theorem tw_3_185 : (Jvm.Cond.methodLink "java/lang/StringLatin1" (38 : Nat) ({ cls := "java/lang/Math", name := "min", desc := "(II)I" } : Jvm.MethodName)) ∈ TB := tb_3 (i := 185) rfl rfl
theorem tw_3_186 : (Jvm.Cond.methodLink "java/lang/StringLatin1" (95 : Nat) ({ cls := "java/lang/StringLatin1", name := "indexOfChar", desc := "([BIII)I" } : Jvm.MethodName)) ∈ TB := tb_3 (i := 186) rfl rfl
theorem tw_3_187 : (Jvm.Cond.static ({ cls := "java/lang/StringLatin1", name := "indexOfChar", desc := "([BIII)I" } : Jvm.MethodName)) ∈ TB := tb_3 (i := 187) rfl rfl
theorem tw_3_188 : (Jvm.Cond.code ({ cls := "java/lang/StringLatin1", name := "indexOfChar", desc := "([BIII)I" } : Jvm.MethodName) prog_19_method_23_code (6 : Nat) (Option.some Jvm.ClassFile.FieldType.int)) ∈ TB := tb_3 (i := 188) rfl rfl
theorem tw_3_189 : (Jvm.Cond.methodLink "java/lang/String" (640 : Nat) ({ cls := "java/lang/StringUTF16", name := "indexOf", desc := "([BIII)I" } : Jvm.MethodName)) ∈ TB := tb_3 (i := 189) rfl rfl
theorem tw_3_190 : (Jvm.Cond.static ({ cls := "java/lang/StringUTF16", name := "indexOf", desc := "([BIII)I" } : Jvm.MethodName)) ∈ TB := tb_3 (i := 190) rfl rfl
theorem tw_3_191 : (Jvm.Cond.code ({ cls := "java/lang/StringUTF16", name := "indexOf", desc := "([BIII)I" } : Jvm.MethodName) prog_20_method_40_code (4 : Nat) (Option.some Jvm.ClassFile.FieldType.int)) ∈ TB := tb_3 (i := 191) rfl rfl
theorem tw_3_192 : (Jvm.Cond.methodLink "java/lang/StringUTF16" (224 : Nat) ({ cls := "java/lang/Math", name := "max", desc := "(II)I" } : Jvm.MethodName)) ∈ TB := tb_3 (i := 192) rfl rfl
theorem tw_3_193 : (Jvm.Cond.methodLink "java/lang/StringUTF16" (183 : Nat) ({ cls := "java/lang/Math", name := "min", desc := "(II)I" } : Jvm.MethodName)) ∈ TB := tb_3 (i := 193) rfl rfl
theorem tw_3_194 : (Jvm.Cond.constant "java/lang/StringUTF16" (227 : Nat) (65536 : Int32)) ∈ TB := tb_3 (i := 194) rfl rfl
theorem tw_3_195 : (Jvm.Cond.methodLink "java/lang/StringUTF16" (228 : Nat) ({ cls := "java/lang/StringUTF16", name := "indexOfChar", desc := "([BIII)I" } : Jvm.MethodName)) ∈ TB := tb_3 (i := 195) rfl rfl
theorem tw_3_196 : (Jvm.Cond.static ({ cls := "java/lang/StringUTF16", name := "indexOfChar", desc := "([BIII)I" } : Jvm.MethodName)) ∈ TB := tb_3 (i := 196) rfl rfl
theorem tw_3_197 : (Jvm.Cond.code ({ cls := "java/lang/StringUTF16", name := "indexOfChar", desc := "([BIII)I" } : Jvm.MethodName) prog_20_method_47_code (4 : Nat) (Option.some Jvm.ClassFile.FieldType.int)) ∈ TB := tb_3 (i := 197) rfl rfl
theorem tw_3_198 : (Jvm.Cond.methodLink "java/lang/StringUTF16" (96 : Nat) ({ cls := "java/lang/StringUTF16", name := "checkBoundsBeginEnd", desc := "(II[B)V" } : Jvm.MethodName)) ∈ TB := tb_3 (i := 198) rfl rfl
theorem tw_3_199 : (Jvm.Cond.static ({ cls := "java/lang/StringUTF16", name := "checkBoundsBeginEnd", desc := "(II[B)V" } : Jvm.MethodName)) ∈ TB := tb_3 (i := 199) rfl rfl
theorem tw_3_200 : (Jvm.Cond.code ({ cls := "java/lang/StringUTF16", name := "checkBoundsBeginEnd", desc := "(II[B)V" } : Jvm.MethodName) prog_20_method_93_code (3 : Nat) (Option.none : Option Jvm.ClassFile.FieldType)) ∈ TB := tb_3 (i := 200) rfl rfl
theorem tw_3_201 : (Jvm.Cond.methodLink "java/lang/StringUTF16" (48 : Nat) ({ cls := "java/lang/StringUTF16", name := "length", desc := "([B)I" } : Jvm.MethodName)) ∈ TB := tb_3 (i := 201) rfl rfl
theorem tw_3_202 : (Jvm.Cond.static ({ cls := "java/lang/StringUTF16", name := "length", desc := "([B)I" } : Jvm.MethodName)) ∈ TB := tb_3 (i := 202) rfl rfl
theorem tw_3_203 : (Jvm.Cond.code ({ cls := "java/lang/StringUTF16", name := "length", desc := "([B)I" } : Jvm.MethodName) prog_20_method_6_code (1 : Nat) (Option.some Jvm.ClassFile.FieldType.int)) ∈ TB := tb_3 (i := 203) rfl rfl
theorem tw_3_204 : (Jvm.Cond.methodLink "java/lang/StringUTF16" (241 : Nat) ({ cls := "java/lang/String", name := "checkBoundsBeginEnd", desc := "(III)V" } : Jvm.MethodName)) ∈ TB := tb_3 (i := 204) rfl rfl
theorem tw_3_205 : (Jvm.Cond.static ({ cls := "java/lang/String", name := "checkBoundsBeginEnd", desc := "(III)V" } : Jvm.MethodName)) ∈ TB := tb_3 (i := 205) rfl rfl
theorem tw_3_206 : (Jvm.Cond.code ({ cls := "java/lang/String", name := "checkBoundsBeginEnd", desc := "(III)V" } : Jvm.MethodName) prog_18_method_158_code (3 : Nat) (Option.none : Option Jvm.ClassFile.FieldType)) ∈ TB := tb_3 (i := 206) rfl rfl
theorem tw_3_207 : (Jvm.Cond.fieldLink "java/lang/String" (1053 : Nat) "jdk/internal/util/Preconditions" "SIOOBE_FORMATTER" "Ljava/util/function/BiFunction;") ∈ TB := tb_3 (i := 207) rfl rfl
theorem tw_3_209 : (Jvm.Cond.methodLink "java/lang/String" (1062 : Nat) ({ cls := "jdk/internal/util/Preconditions", name := "checkFromToIndex", desc := "(IIILjava/util/function/BiFunction;)I" } : Jvm.MethodName)) ∈ TB := tb_3 (i := 209) rfl rfl
theorem tw_3_210 : (Jvm.Cond.static ({ cls := "jdk/internal/util/Preconditions", name := "checkFromToIndex", desc := "(IIILjava/util/function/BiFunction;)I" } : Jvm.MethodName)) ∈ TB := tb_3 (i := 210) rfl rfl
theorem tw_3_211 : (Jvm.Cond.code ({ cls := "jdk/internal/util/Preconditions", name := "checkFromToIndex", desc := "(IIILjava/util/function/BiFunction;)I" } : Jvm.MethodName) prog_23_method_12_code (4 : Nat) (Option.some Jvm.ClassFile.FieldType.int)) ∈ TB := tb_3 (i := 211) rfl rfl
theorem tw_3_212 : (Jvm.Cond.methodLink "java/lang/StringUTF16" (244 : Nat) ({ cls := "java/lang/StringUTF16", name := "indexOfCharUnsafe", desc := "([BIII)I" } : Jvm.MethodName)) ∈ TB := tb_3 (i := 212) rfl rfl
theorem tw_3_213 : (Jvm.Cond.static ({ cls := "java/lang/StringUTF16", name := "indexOfCharUnsafe", desc := "([BIII)I" } : Jvm.MethodName)) ∈ TB := tb_3 (i := 213) rfl rfl
theorem tw_3_214 : (Jvm.Cond.code ({ cls := "java/lang/StringUTF16", name := "indexOfCharUnsafe", desc := "([BIII)I" } : Jvm.MethodName) prog_20_method_48_code (5 : Nat) (Option.some Jvm.ClassFile.FieldType.int)) ∈ TB := tb_3 (i := 214) rfl rfl
theorem tw_3_215 : (Jvm.Cond.methodLink "java/lang/StringUTF16" (71 : Nat) ({ cls := "java/lang/StringUTF16", name := "getChar", desc := "([BI)C" } : Jvm.MethodName)) ∈ TB := tb_3 (i := 215) rfl rfl
theorem tw_3_216 : (Jvm.Cond.static ({ cls := "java/lang/StringUTF16", name := "getChar", desc := "([BI)C" } : Jvm.MethodName)) ∈ TB := tb_3 (i := 216) rfl rfl
theorem tw_3_217 : (Jvm.Cond.code ({ cls := "java/lang/StringUTF16", name := "getChar", desc := "([BI)C" } : Jvm.MethodName) prog_20_method_5_code (2 : Nat) (Option.some Jvm.ClassFile.FieldType.char)) ∈ TB := tb_3 (i := 217) rfl rfl
theorem tw_3_218 : (Jvm.Cond.fieldLink "java/lang/StringUTF16" (44 : Nat) "java/lang/StringUTF16" "$assertionsDisabled" "Z") ∈ TB := tb_3 (i := 218) rfl rfl
theorem tw_3_220 : (Jvm.Cond.fieldLink "java/lang/StringUTF16" (59 : Nat) "java/lang/StringUTF16" "HI_BYTE_SHIFT" "I") ∈ TB := tb_3 (i := 220) rfl rfl
theorem tw_3_222 : (Jvm.Cond.fieldLink "java/lang/StringUTF16" (63 : Nat) "java/lang/StringUTF16" "LO_BYTE_SHIFT" "I") ∈ TB := tb_3 (i := 222) rfl rfl
theorem tw_3_224 : (Jvm.Cond.methodLink "java/lang/StringUTF16" (232 : Nat) ({ cls := "java/lang/StringUTF16", name := "indexOfSupplementary", desc := "([BIII)I" } : Jvm.MethodName)) ∈ TB := tb_3 (i := 224) rfl rfl
theorem tw_3_225 : (Jvm.Cond.static ({ cls := "java/lang/StringUTF16", name := "indexOfSupplementary", desc := "([BIII)I" } : Jvm.MethodName)) ∈ TB := tb_3 (i := 225) rfl rfl
theorem tw_3_226 : (Jvm.Cond.code ({ cls := "java/lang/StringUTF16", name := "indexOfSupplementary", desc := "([BIII)I" } : Jvm.MethodName) prog_20_method_49_code (7 : Nat) (Option.some Jvm.ClassFile.FieldType.int)) ∈ TB := tb_3 (i := 226) rfl rfl
theorem tw_3_227 : (Jvm.Cond.methodLink "java/lang/StringUTF16" (164 : Nat) ({ cls := "java/lang/Character", name := "isValidCodePoint", desc := "(I)Z" } : Jvm.MethodName)) ∈ TB := tb_3 (i := 227) rfl rfl
theorem tw_3_228 : (Jvm.Cond.static ({ cls := "java/lang/Character", name := "isValidCodePoint", desc := "(I)Z" } : Jvm.MethodName)) ∈ TB := tb_3 (i := 228) rfl rfl
theorem tw_3_229 : (Jvm.Cond.code ({ cls := "java/lang/Character", name := "isValidCodePoint", desc := "(I)Z" } : Jvm.MethodName) prog_15_method_11_code (2 : Nat) (Option.some Jvm.ClassFile.FieldType.boolean)) ∈ TB := tb_3 (i := 229) rfl rfl
theorem tw_3_230 : (Jvm.Cond.methodLink "java/lang/StringUTF16" (157 : Nat) ({ cls := "java/lang/Character", name := "highSurrogate", desc := "(I)C" } : Jvm.MethodName)) ∈ TB := tb_3 (i := 230) rfl rfl
theorem tw_3_231 : (Jvm.Cond.static ({ cls := "java/lang/Character", name := "highSurrogate", desc := "(I)C" } : Jvm.MethodName)) ∈ TB := tb_3 (i := 231) rfl rfl
theorem tw_3_232 : (Jvm.Cond.code ({ cls := "java/lang/Character", name := "highSurrogate", desc := "(I)C" } : Jvm.MethodName) prog_15_method_28_code (1 : Nat) (Option.some Jvm.ClassFile.FieldType.char)) ∈ TB := tb_3 (i := 232) rfl rfl
theorem tw_3_233 : (Jvm.Cond.constant "java/lang/Character" (110 : Nat) (55232 : Int32)) ∈ TB := tb_3 (i := 233) rfl rfl
theorem tw_3_234 : (Jvm.Cond.methodLink "java/lang/StringUTF16" (161 : Nat) ({ cls := "java/lang/Character", name := "lowSurrogate", desc := "(I)C" } : Jvm.MethodName)) ∈ TB := tb_3 (i := 234) rfl rfl
theorem tw_3_235 : (Jvm.Cond.static ({ cls := "java/lang/Character", name := "lowSurrogate", desc := "(I)C" } : Jvm.MethodName)) ∈ TB := tb_3 (i := 235) rfl rfl
theorem tw_3_236 : (Jvm.Cond.code ({ cls := "java/lang/Character", name := "lowSurrogate", desc := "(I)C" } : Jvm.MethodName) prog_15_method_29_code (1 : Nat) (Option.some Jvm.ClassFile.FieldType.char)) ∈ TB := tb_3 (i := 236) rfl rfl
theorem tw_3_237 : (Jvm.Cond.constant "java/lang/Character" (76 : Nat) (56320 : Int32)) ∈ TB := tb_3 (i := 237) rfl rfl
theorem tw_3_238 : (Jvm.Cond.methodLink "OneOfTwo$Text" (77 : Nat) ({ cls := "OneOfTwo$Text", name := "opens", desc := "(I)Z" } : Jvm.MethodName)) ∈ TB := tb_3 (i := 238) rfl rfl
theorem tw_4_0 : (Jvm.Cond.instanceMethod ({ cls := "OneOfTwo$Text", name := "opens", desc := "(I)Z" } : Jvm.MethodName)) ∈ TB := tb_4 (i := 0) rfl rfl
theorem tw_4_1 : (Jvm.Cond.code ({ cls := "OneOfTwo$Text", name := "opens", desc := "(I)Z" } : Jvm.MethodName) prog_12_method_11_code (2 : Nat) (Option.some Jvm.ClassFile.FieldType.boolean)) ∈ TB := tb_4 (i := 1) rfl rfl
theorem tw_4_2 : (Jvm.Cond.arrayClass Jvm.ClassFile.FieldType.byte) ∈ TB := tb_4 (i := 2) rfl rfl
theorem tw_4_3 : (Jvm.Cond.methodLink "OneOfTwoLaw" (91 : Nat) ({ cls := "OneOfTwo", name := "law", desc := "(IIII)I" } : Jvm.MethodName)) ∈ TB := tb_4 (i := 3) rfl rfl
theorem tw_4_4 : (Jvm.Cond.instanceMethod ({ cls := "OneOfTwo", name := "law", desc := "(IIII)I" } : Jvm.MethodName)) ∈ TB := tb_4 (i := 4) rfl rfl
theorem tw_4_5 : (Jvm.Cond.selects "OneOfTwo" ({ cls := "OneOfTwo", name := "law", desc := "(IIII)I" } : Jvm.MethodName) ({ cls := "OneOfTwo", name := "law", desc := "(IIII)I" } : Jvm.MethodName)) ∈ TB := tb_4 (i := 5) rfl rfl
theorem tw_4_6 : (Jvm.Cond.code ({ cls := "OneOfTwo", name := "law", desc := "(IIII)I" } : Jvm.MethodName) prog_1_method_20_code (5 : Nat) (Option.some Jvm.ClassFile.FieldType.int)) ∈ TB := tb_4 (i := 6) rfl rfl
theorem tw_4_7 : (Jvm.Cond.methodLink "OneOfTwo" (228 : Nat) ({ cls := "OneOfTwo$House", name := "lawBy", desc := "(IIII)I" } : Jvm.MethodName)) ∈ TB := tb_4 (i := 7) rfl rfl
theorem tw_4_8 : (Jvm.Cond.instanceMethod ({ cls := "OneOfTwo$House", name := "lawBy", desc := "(IIII)I" } : Jvm.MethodName)) ∈ TB := tb_4 (i := 8) rfl rfl
theorem tw_4_9 : (Jvm.Cond.selects "OneOfTwo$House" ({ cls := "OneOfTwo$House", name := "lawBy", desc := "(IIII)I" } : Jvm.MethodName) ({ cls := "OneOfTwo$House", name := "lawBy", desc := "(IIII)I" } : Jvm.MethodName)) ∈ TB := tb_4 (i := 9) rfl rfl
theorem tw_4_10 : (Jvm.Cond.code ({ cls := "OneOfTwo$House", name := "lawBy", desc := "(IIII)I" } : Jvm.MethodName) prog_4_method_22_code (7 : Nat) (Option.some Jvm.ClassFile.FieldType.int)) ∈ TB := tb_4 (i := 10) rfl rfl
theorem tw_4_11 : (Jvm.Cond.methodLink "OneOfTwoLaw" (96 : Nat) ({ cls := "OneOfTwo", name := "turn", desc := "(I)I" } : Jvm.MethodName)) ∈ TB := tb_4 (i := 11) rfl rfl
theorem tw_4_12 : (Jvm.Cond.instanceMethod ({ cls := "OneOfTwo", name := "turn", desc := "(I)I" } : Jvm.MethodName)) ∈ TB := tb_4 (i := 12) rfl rfl
theorem tw_4_13 : (Jvm.Cond.selects "OneOfTwo" ({ cls := "OneOfTwo", name := "turn", desc := "(I)I" } : Jvm.MethodName) ({ cls := "OneOfTwo", name := "turn", desc := "(I)I" } : Jvm.MethodName)) ∈ TB := tb_4 (i := 13) rfl rfl
theorem tw_4_14 : (Jvm.Cond.code ({ cls := "OneOfTwo", name := "turn", desc := "(I)I" } : Jvm.MethodName) prog_1_method_21_code (2 : Nat) (Option.some Jvm.ClassFile.FieldType.int)) ∈ TB := tb_4 (i := 14) rfl rfl
theorem tw_4_15 : (Jvm.Cond.methodLink "OneOfTwo" (232 : Nat) ({ cls := "OneOfTwo$House", name := "turnOf", desc := "(I)I" } : Jvm.MethodName)) ∈ TB := tb_4 (i := 15) rfl rfl
theorem tw_4_16 : (Jvm.Cond.instanceMethod ({ cls := "OneOfTwo$House", name := "turnOf", desc := "(I)I" } : Jvm.MethodName)) ∈ TB := tb_4 (i := 16) rfl rfl
theorem tw_4_17 : (Jvm.Cond.selects "OneOfTwo$House" ({ cls := "OneOfTwo$House", name := "turnOf", desc := "(I)I" } : Jvm.MethodName) ({ cls := "OneOfTwo$House", name := "turnOf", desc := "(I)I" } : Jvm.MethodName)) ∈ TB := tb_4 (i := 17) rfl rfl
theorem tw_4_18 : (Jvm.Cond.code ({ cls := "OneOfTwo$House", name := "turnOf", desc := "(I)I" } : Jvm.MethodName) prog_4_method_27_code (5 : Nat) (Option.some Jvm.ClassFile.FieldType.int)) ∈ TB := tb_4 (i := 18) rfl rfl
theorem tw_4_19 : (Jvm.Cond.methodLink "OneOfTwo$House" (151 : Nat) ({ cls := "OneOfTwo$House", name := "isLocked", desc := "()Z" } : Jvm.MethodName)) ∈ TB := tb_4 (i := 19) rfl rfl
theorem tw_4_20 : (Jvm.Cond.methodLink "OneOfTwo$House" (155 : Nat) ({ cls := "OneOfTwo$Lodger", name := "strength", desc := "()I" } : Jvm.MethodName)) ∈ TB := tb_4 (i := 20) rfl rfl
theorem tw_4_21 : (Jvm.Cond.methodLink "OneOfTwo$House" (159 : Nat) ({ cls := "OneOfTwo$House", name := "pairToPull", desc := "(I)I" } : Jvm.MethodName)) ∈ TB := tb_4 (i := 21) rfl rfl
theorem tw_4_22 : (Jvm.Cond.instanceMethod ({ cls := "OneOfTwo$House", name := "pairToPull", desc := "(I)I" } : Jvm.MethodName)) ∈ TB := tb_4 (i := 22) rfl rfl
theorem tw_4_23 : (Jvm.Cond.selects "OneOfTwo$House" ({ cls := "OneOfTwo$House", name := "pairToPull", desc := "(I)I" } : Jvm.MethodName) ({ cls := "OneOfTwo$House", name := "pairToPull", desc := "(I)I" } : Jvm.MethodName)) ∈ TB := tb_4 (i := 23) rfl rfl
theorem tw_4_24 : (Jvm.Cond.code ({ cls := "OneOfTwo$House", name := "pairToPull", desc := "(I)I" } : Jvm.MethodName) prog_4_method_28_code (13 : Nat) (Option.some Jvm.ClassFile.FieldType.int)) ∈ TB := tb_4 (i := 24) rfl rfl
theorem tw_4_25 : (Jvm.Cond.methodLink "OneOfTwo$House" (166 : Nat) ({ cls := "OneOfTwo$House", name := "farFromWanted", desc := "(II)I" } : Jvm.MethodName)) ∈ TB := tb_4 (i := 25) rfl rfl
theorem tw_4_26 : (Jvm.Cond.instanceMethod ({ cls := "OneOfTwo$House", name := "farFromWanted", desc := "(II)I" } : Jvm.MethodName)) ∈ TB := tb_4 (i := 26) rfl rfl
theorem tw_4_27 : (Jvm.Cond.selects "OneOfTwo$House" ({ cls := "OneOfTwo$House", name := "farFromWanted", desc := "(II)I" } : Jvm.MethodName) ({ cls := "OneOfTwo$House", name := "farFromWanted", desc := "(II)I" } : Jvm.MethodName)) ∈ TB := tb_4 (i := 27) rfl rfl
theorem tw_4_28 : (Jvm.Cond.code ({ cls := "OneOfTwo$House", name := "farFromWanted", desc := "(II)I" } : Jvm.MethodName) prog_4_method_26_code (5 : Nat) (Option.some Jvm.ClassFile.FieldType.int)) ∈ TB := tb_4 (i := 28) rfl rfl
theorem tw_4_29 : (Jvm.Cond.methodLink "OneOfTwo$House" (169 : Nat) ({ cls := "java/lang/Math", name := "abs", desc := "(I)I" } : Jvm.MethodName)) ∈ TB := tb_4 (i := 29) rfl rfl
theorem tw_4_30 : (Jvm.Cond.static ({ cls := "java/lang/Math", name := "abs", desc := "(I)I" } : Jvm.MethodName)) ∈ TB := tb_4 (i := 30) rfl rfl
theorem tw_4_31 : (Jvm.Cond.code ({ cls := "java/lang/Math", name := "abs", desc := "(I)I" } : Jvm.MethodName) prog_17_method_59_code (1 : Nat) (Option.some Jvm.ClassFile.FieldType.int)) ∈ TB := tb_4 (i := 31) rfl rfl
theorem tw_4_32 : (Jvm.Cond.methodLink "OneOfTwo$House" (172 : Nat) ({ cls := "OneOfTwo$House", name := "canPull", desc := "(II)Z" } : Jvm.MethodName)) ∈ TB := tb_4 (i := 32) rfl rfl
theorem tw_4_33 : (Jvm.Cond.methodLink "OneOfTwo$House" (175 : Nat) ({ cls := "OneOfTwo$House", name := "ofOne", desc := "(Z)I" } : Jvm.MethodName)) ∈ TB := tb_4 (i := 33) rfl rfl
theorem tw_4_34 : (Jvm.Cond.static ({ cls := "OneOfTwo$House", name := "ofOne", desc := "(Z)I" } : Jvm.MethodName)) ∈ TB := tb_4 (i := 34) rfl rfl
theorem tw_4_35 : (Jvm.Cond.code ({ cls := "OneOfTwo$House", name := "ofOne", desc := "(Z)I" } : Jvm.MethodName) prog_4_method_29_code (1 : Nat) (Option.some Jvm.ClassFile.FieldType.int)) ∈ TB := tb_4 (i := 35) rfl rfl
theorem tw_4_36 : (Jvm.Cond.methodLink "OneOfTwo$House" (162 : Nat) ({ cls := "OneOfTwo$House", name := "pullBy", desc := "(II)V" } : Jvm.MethodName)) ∈ TB := tb_4 (i := 36) rfl rfl
theorem tw_4_37 : (Jvm.Cond.methodLink "OneOfTwoLaw" (100 : Nat) ({ cls := "OneOfTwo", name := "hours", desc := "(I)I" } : Jvm.MethodName)) ∈ TB := tb_4 (i := 37) rfl rfl
theorem tw_4_38 : (Jvm.Cond.instanceMethod ({ cls := "OneOfTwo", name := "hours", desc := "(I)I" } : Jvm.MethodName)) ∈ TB := tb_4 (i := 38) rfl rfl
theorem tw_4_39 : (Jvm.Cond.selects "OneOfTwo" ({ cls := "OneOfTwo", name := "hours", desc := "(I)I" } : Jvm.MethodName) ({ cls := "OneOfTwo", name := "hours", desc := "(I)I" } : Jvm.MethodName)) ∈ TB := tb_4 (i := 39) rfl rfl
theorem tw_4_40 : (Jvm.Cond.code ({ cls := "OneOfTwo", name := "hours", desc := "(I)I" } : Jvm.MethodName) prog_1_method_22_code (3 : Nat) (Option.some Jvm.ClassFile.FieldType.int)) ∈ TB := tb_4 (i := 40) rfl rfl
theorem tw_4_41 : (Jvm.Cond.methodLink "OneOfTwo" (235 : Nat) ({ cls := "OneOfTwo$House", name := "passHour", desc := "()V" } : Jvm.MethodName)) ∈ TB := tb_4 (i := 41) rfl rfl
theorem tw_4_42 : (Jvm.Cond.instanceMethod ({ cls := "OneOfTwo$House", name := "passHour", desc := "()V" } : Jvm.MethodName)) ∈ TB := tb_4 (i := 42) rfl rfl
theorem tw_4_43 : (Jvm.Cond.selects "OneOfTwo$House" ({ cls := "OneOfTwo$House", name := "passHour", desc := "()V" } : Jvm.MethodName) ({ cls := "OneOfTwo$House", name := "passHour", desc := "()V" } : Jvm.MethodName)) ∈ TB := tb_4 (i := 43) rfl rfl
theorem tw_4_44 : (Jvm.Cond.code ({ cls := "OneOfTwo$House", name := "passHour", desc := "()V" } : Jvm.MethodName) prog_4_method_31_code (3 : Nat) (Option.none : Option Jvm.ClassFile.FieldType)) ∈ TB := tb_4 (i := 44) rfl rfl
theorem tw_4_45 : (Jvm.Cond.methodLink "OneOfTwo$House" (182 : Nat) ({ cls := "OneOfTwo$House", name := "turnOfAll", desc := "()I" } : Jvm.MethodName)) ∈ TB := tb_4 (i := 45) rfl rfl
theorem tw_4_46 : (Jvm.Cond.instanceMethod ({ cls := "OneOfTwo$House", name := "turnOfAll", desc := "()I" } : Jvm.MethodName)) ∈ TB := tb_4 (i := 46) rfl rfl
theorem tw_4_47 : (Jvm.Cond.selects "OneOfTwo$House" ({ cls := "OneOfTwo$House", name := "turnOfAll", desc := "()I" } : Jvm.MethodName) ({ cls := "OneOfTwo$House", name := "turnOfAll", desc := "()I" } : Jvm.MethodName)) ∈ TB := tb_4 (i := 47) rfl rfl
theorem tw_4_48 : (Jvm.Cond.code ({ cls := "OneOfTwo$House", name := "turnOfAll", desc := "()I" } : Jvm.MethodName) prog_4_method_30_code (3 : Nat) (Option.some Jvm.ClassFile.FieldType.int)) ∈ TB := tb_4 (i := 48) rfl rfl
theorem tw_4_49 : (Jvm.Cond.methodLink "OneOfTwo$House" (179 : Nat) ({ cls := "OneOfTwo$House", name := "turnOf", desc := "(I)I" } : Jvm.MethodName)) ∈ TB := tb_4 (i := 49) rfl rfl
theorem tw_4_50 : (Jvm.Cond.methodLink "OneOfTwo$House" (185 : Nat) ({ cls := "OneOfTwo$House", name := "contentSet", desc := "()I" } : Jvm.MethodName)) ∈ TB := tb_4 (i := 50) rfl rfl
theorem tw_4_51 : (Jvm.Cond.methodLink "OneOfTwo$House" (188 : Nat) ({ cls := "java/lang/Integer", name := "bitCount", desc := "(I)I" } : Jvm.MethodName)) ∈ TB := tb_4 (i := 51) rfl rfl
theorem tw_4_52 : (Jvm.Cond.methodLink "OneOfTwo$House" (193 : Nat) ({ cls := "OneOfTwo$House", name := "lawBy", desc := "(IIII)I" } : Jvm.MethodName)) ∈ TB := tb_4 (i := 52) rfl rfl
theorem tw_4_53 : (Jvm.Cond.constant "OneOfTwo$House" (197 : Nat) (999999 : Int32)) ∈ TB := tb_4 (i := 53) rfl rfl
theorem tw_4_54 : (Jvm.Cond.methodLink "OneOfTwoLaw" (104 : Nat) ({ cls := "OneOfTwo", name := "loose", desc := "(I)I" } : Jvm.MethodName)) ∈ TB := tb_4 (i := 54) rfl rfl
theorem tw_4_55 : (Jvm.Cond.instanceMethod ({ cls := "OneOfTwo", name := "loose", desc := "(I)I" } : Jvm.MethodName)) ∈ TB := tb_4 (i := 55) rfl rfl
theorem tw_4_56 : (Jvm.Cond.selects "OneOfTwo" ({ cls := "OneOfTwo", name := "loose", desc := "(I)I" } : Jvm.MethodName) ({ cls := "OneOfTwo", name := "loose", desc := "(I)I" } : Jvm.MethodName)) ∈ TB := tb_4 (i := 56) rfl rfl
theorem tw_4_57 : (Jvm.Cond.code ({ cls := "OneOfTwo", name := "loose", desc := "(I)I" } : Jvm.MethodName) prog_1_method_23_code (3 : Nat) (Option.some Jvm.ClassFile.FieldType.int)) ∈ TB := tb_4 (i := 57) rfl rfl
theorem tw_4_58 : (Jvm.Cond.methodLink "OneOfTwo" (241 : Nat) ({ cls := "OneOfTwo$House", name := "pullByDraws", desc := "()V" } : Jvm.MethodName)) ∈ TB := tb_4 (i := 58) rfl rfl
theorem tw_4_59 : (Jvm.Cond.instanceMethod ({ cls := "OneOfTwo$House", name := "pullByDraws", desc := "()V" } : Jvm.MethodName)) ∈ TB := tb_4 (i := 59) rfl rfl
theorem tw_4_60 : (Jvm.Cond.selects "OneOfTwo$House" ({ cls := "OneOfTwo$House", name := "pullByDraws", desc := "()V" } : Jvm.MethodName) ({ cls := "OneOfTwo$House", name := "pullByDraws", desc := "()V" } : Jvm.MethodName)) ∈ TB := tb_4 (i := 60) rfl rfl
theorem tw_4_61 : (Jvm.Cond.code ({ cls := "OneOfTwo$House", name := "pullByDraws", desc := "()V" } : Jvm.MethodName) prog_4_method_33_code (3 : Nat) (Option.none : Option Jvm.ClassFile.FieldType)) ∈ TB := tb_4 (i := 61) rfl rfl
theorem tw_4_62 : (Jvm.Cond.methodLink "OneOfTwo$House" (199 : Nat) ({ cls := "OneOfTwo$House", name := "draw", desc := "()I" } : Jvm.MethodName)) ∈ TB := tb_4 (i := 62) rfl rfl
theorem tw_4_63 : (Jvm.Cond.instanceMethod ({ cls := "OneOfTwo$House", name := "draw", desc := "()I" } : Jvm.MethodName)) ∈ TB := tb_4 (i := 63) rfl rfl
theorem tw_4_64 : (Jvm.Cond.selects "OneOfTwo$House" ({ cls := "OneOfTwo$House", name := "draw", desc := "()I" } : Jvm.MethodName) ({ cls := "OneOfTwo$House", name := "draw", desc := "()I" } : Jvm.MethodName)) ∈ TB := tb_4 (i := 64) rfl rfl
theorem tw_4_65 : (Jvm.Cond.code ({ cls := "OneOfTwo$House", name := "draw", desc := "()I" } : Jvm.MethodName) prog_4_method_32_code (1 : Nat) (Option.some Jvm.ClassFile.FieldType.int)) ∈ TB := tb_4 (i := 65) rfl rfl
theorem tw_4_66 : (Jvm.Cond.constant "OneOfTwo$House" (198 : Nat) (1103515245 : Int32)) ∈ TB := tb_4 (i := 66) rfl rfl
theorem tw_4_67 : (Jvm.Cond.methodLink "OneOfTwoLaw" (108 : Nat) ({ cls := "OneOfTwo", name := "hour", desc := "(I)I" } : Jvm.MethodName)) ∈ TB := tb_4 (i := 67) rfl rfl
theorem tw_4_68 : (Jvm.Cond.instanceMethod ({ cls := "OneOfTwo", name := "hour", desc := "(I)I" } : Jvm.MethodName)) ∈ TB := tb_4 (i := 68) rfl rfl
theorem tw_4_69 : (Jvm.Cond.selects "OneOfTwo" ({ cls := "OneOfTwo", name := "hour", desc := "(I)I" } : Jvm.MethodName) ({ cls := "OneOfTwo", name := "hour", desc := "(I)I" } : Jvm.MethodName)) ∈ TB := tb_4 (i := 69) rfl rfl
theorem tw_4_70 : (Jvm.Cond.code ({ cls := "OneOfTwo", name := "hour", desc := "(I)I" } : Jvm.MethodName) prog_1_method_24_code (3 : Nat) (Option.some Jvm.ClassFile.FieldType.int)) ∈ TB := tb_4 (i := 70) rfl rfl
theorem tw_4_71 : (Jvm.Cond.methodLink "OneOfTwoLaw" (112 : Nat) ({ cls := "OneOfTwo", name := "lock", desc := "(II)I" } : Jvm.MethodName)) ∈ TB := tb_4 (i := 71) rfl rfl
theorem tw_4_72 : (Jvm.Cond.instanceMethod ({ cls := "OneOfTwo", name := "lock", desc := "(II)I" } : Jvm.MethodName)) ∈ TB := tb_4 (i := 72) rfl rfl
theorem tw_4_73 : (Jvm.Cond.selects "OneOfTwo" ({ cls := "OneOfTwo", name := "lock", desc := "(II)I" } : Jvm.MethodName) ({ cls := "OneOfTwo", name := "lock", desc := "(II)I" } : Jvm.MethodName)) ∈ TB := tb_4 (i := 73) rfl rfl
theorem tw_4_74 : (Jvm.Cond.code ({ cls := "OneOfTwo", name := "lock", desc := "(II)I" } : Jvm.MethodName) prog_1_method_25_code (3 : Nat) (Option.some Jvm.ClassFile.FieldType.int)) ∈ TB := tb_4 (i := 74) rfl rfl
theorem tw_4_75 : (Jvm.Cond.methodLink "OneOfTwoLaw" (116 : Nat) ({ cls := "OneOfTwo", name := "rests", desc := "()I" } : Jvm.MethodName)) ∈ TB := tb_4 (i := 75) rfl rfl
theorem tw_4_76 : (Jvm.Cond.instanceMethod ({ cls := "OneOfTwo", name := "rests", desc := "()I" } : Jvm.MethodName)) ∈ TB := tb_4 (i := 76) rfl rfl
theorem tw_4_77 : (Jvm.Cond.selects "OneOfTwo" ({ cls := "OneOfTwo", name := "rests", desc := "()I" } : Jvm.MethodName) ({ cls := "OneOfTwo", name := "rests", desc := "()I" } : Jvm.MethodName)) ∈ TB := tb_4 (i := 77) rfl rfl
theorem tw_4_78 : (Jvm.Cond.code ({ cls := "OneOfTwo", name := "rests", desc := "()I" } : Jvm.MethodName) prog_1_method_26_code (2 : Nat) (Option.some Jvm.ClassFile.FieldType.int)) ∈ TB := tb_4 (i := 78) rfl rfl
theorem tw_4_79 : (Jvm.Cond.methodLink "OneOfTwo" (253 : Nat) ({ cls := "OneOfTwo$House", name := "copyFrom", desc := "(LOneOfTwo$House;)V" } : Jvm.MethodName)) ∈ TB := tb_4 (i := 79) rfl rfl
theorem tw_4_80 : (Jvm.Cond.instanceMethod ({ cls := "OneOfTwo$House", name := "copyFrom", desc := "(LOneOfTwo$House;)V" } : Jvm.MethodName)) ∈ TB := tb_4 (i := 80) rfl rfl
theorem tw_4_81 : (Jvm.Cond.selects "OneOfTwo$House" ({ cls := "OneOfTwo$House", name := "copyFrom", desc := "(LOneOfTwo$House;)V" } : Jvm.MethodName) ({ cls := "OneOfTwo$House", name := "copyFrom", desc := "(LOneOfTwo$House;)V" } : Jvm.MethodName)) ∈ TB := tb_4 (i := 81) rfl rfl
theorem tw_4_82 : (Jvm.Cond.code ({ cls := "OneOfTwo$House", name := "copyFrom", desc := "(LOneOfTwo$House;)V" } : Jvm.MethodName) prog_4_method_2_code (3 : Nat) (Option.none : Option Jvm.ClassFile.FieldType)) ∈ TB := tb_4 (i := 82) rfl rfl
theorem tw_4_83 : (Jvm.Cond.methodLink "OneOfTwo$House" (82 : Nat) ({ cls := "java/lang/System", name := "arraycopy", desc := "(Ljava/lang/Object;ILjava/lang/Object;II)V" } : Jvm.MethodName)) ∈ TB := tb_4 (i := 83) rfl rfl
theorem tw_4_84 : (Jvm.Cond.static ({ cls := "java/lang/System", name := "arraycopy", desc := "(Ljava/lang/Object;ILjava/lang/Object;II)V" } : Jvm.MethodName)) ∈ TB := tb_4 (i := 84) rfl rfl
theorem tw_4_85 : (Jvm.Cond.native ({ cls := "java/lang/System", name := "arraycopy", desc := "(Ljava/lang/Object;ILjava/lang/Object;II)V" } : Jvm.MethodName)) ∈ TB := tb_4 (i := 85) rfl rfl
theorem tw_4_86 : (Jvm.Cond.methodLink "OneOfTwo$House" (88 : Nat) ({ cls := "OneOfTwo$Row", name := "copyFrom", desc := "(LOneOfTwo$Row;)V" } : Jvm.MethodName)) ∈ TB := tb_4 (i := 86) rfl rfl
theorem tw_4_87 : (Jvm.Cond.instanceMethod ({ cls := "OneOfTwo$Row", name := "copyFrom", desc := "(LOneOfTwo$Row;)V" } : Jvm.MethodName)) ∈ TB := tb_4 (i := 87) rfl rfl
theorem tw_4_88 : (Jvm.Cond.selects "OneOfTwo$Row" ({ cls := "OneOfTwo$Row", name := "copyFrom", desc := "(LOneOfTwo$Row;)V" } : Jvm.MethodName) ({ cls := "OneOfTwo$Row", name := "copyFrom", desc := "(LOneOfTwo$Row;)V" } : Jvm.MethodName)) ∈ TB := tb_4 (i := 88) rfl rfl
theorem tw_4_89 : (Jvm.Cond.code ({ cls := "OneOfTwo$Row", name := "copyFrom", desc := "(LOneOfTwo$Row;)V" } : Jvm.MethodName) prog_6_method_5_code (2 : Nat) (Option.none : Option Jvm.ClassFile.FieldType)) ∈ TB := tb_4 (i := 89) rfl rfl
theorem tw_4_90 : (Jvm.Cond.methodLink "OneOfTwo$Row" (26 : Nat) ({ cls := "java/lang/Math", name := "min", desc := "(II)I" } : Jvm.MethodName)) ∈ TB := tb_4 (i := 90) rfl rfl
theorem tw_4_91 : (Jvm.Cond.methodLink "OneOfTwo$Row" (32 : Nat) ({ cls := "java/lang/System", name := "arraycopy", desc := "(Ljava/lang/Object;ILjava/lang/Object;II)V" } : Jvm.MethodName)) ∈ TB := tb_4 (i := 91) rfl rfl
theorem tw_4_92 : (Jvm.Cond.methodLink "OneOfTwo" (256 : Nat) ({ cls := "OneOfTwo$House", name := "turnOfAll", desc := "()I" } : Jvm.MethodName)) ∈ TB := tb_4 (i := 92) rfl rfl
theorem tw_4_93 : (Jvm.Cond.methodLink "OneOfTwoLaw" (120 : Nat) ({ cls := "OneOfTwo", name := "then", desc := "(II)I" } : Jvm.MethodName)) ∈ TB := tb_4 (i := 93) rfl rfl
theorem tw_4_94 : (Jvm.Cond.instanceMethod ({ cls := "OneOfTwo", name := "then", desc := "(II)I" } : Jvm.MethodName)) ∈ TB := tb_4 (i := 94) rfl rfl
theorem tw_4_95 : (Jvm.Cond.selects "OneOfTwo" ({ cls := "OneOfTwo", name := "then", desc := "(II)I" } : Jvm.MethodName) ({ cls := "OneOfTwo", name := "then", desc := "(II)I" } : Jvm.MethodName)) ∈ TB := tb_4 (i := 95) rfl rfl
theorem tw_4_96 : (Jvm.Cond.code ({ cls := "OneOfTwo", name := "then", desc := "(II)I" } : Jvm.MethodName) prog_1_method_27_code (4 : Nat) (Option.some Jvm.ClassFile.FieldType.int)) ∈ TB := tb_4 (i := 96) rfl rfl
theorem tw_4_97 : (Jvm.Cond.methodLink "OneOfTwoLaw" (124 : Nat) ({ cls := "OneOfTwo", name := "standings", desc := "()I" } : Jvm.MethodName)) ∈ TB := tb_4 (i := 97) rfl rfl
theorem tw_4_98 : (Jvm.Cond.instanceMethod ({ cls := "OneOfTwo", name := "standings", desc := "()I" } : Jvm.MethodName)) ∈ TB := tb_4 (i := 98) rfl rfl
theorem tw_4_99 : (Jvm.Cond.selects "OneOfTwo" ({ cls := "OneOfTwo", name := "standings", desc := "()I" } : Jvm.MethodName) ({ cls := "OneOfTwo", name := "standings", desc := "()I" } : Jvm.MethodName)) ∈ TB := tb_4 (i := 99) rfl rfl
theorem tw_4_100 : (Jvm.Cond.code ({ cls := "OneOfTwo", name := "standings", desc := "()I" } : Jvm.MethodName) prog_1_method_28_code (4 : Nat) (Option.some Jvm.ClassFile.FieldType.int)) ∈ TB := tb_4 (i := 100) rfl rfl
theorem tw_4_101 : (Jvm.Cond.methodLink "OneOfTwo" (259 : Nat) ({ cls := "OneOfTwo$House", name := "swollenSet", desc := "()I" } : Jvm.MethodName)) ∈ TB := tb_4 (i := 101) rfl rfl
theorem tw_4_102 : (Jvm.Cond.instanceMethod ({ cls := "OneOfTwo$House", name := "swollenSet", desc := "()I" } : Jvm.MethodName)) ∈ TB := tb_4 (i := 102) rfl rfl
theorem tw_4_103 : (Jvm.Cond.selects "OneOfTwo$House" ({ cls := "OneOfTwo$House", name := "swollenSet", desc := "()I" } : Jvm.MethodName) ({ cls := "OneOfTwo$House", name := "swollenSet", desc := "()I" } : Jvm.MethodName)) ∈ TB := tb_4 (i := 103) rfl rfl
theorem tw_4_104 : (Jvm.Cond.code ({ cls := "OneOfTwo$House", name := "swollenSet", desc := "()I" } : Jvm.MethodName) prog_4_method_9_code (3 : Nat) (Option.some Jvm.ClassFile.FieldType.int)) ∈ TB := tb_4 (i := 104) rfl rfl
theorem tw_4_105 : (Jvm.Cond.methodLink "OneOfTwo" (262 : Nat) ({ cls := "OneOfTwo", name := "waysToOpen", desc := "(II)I" } : Jvm.MethodName)) ∈ TB := tb_4 (i := 105) rfl rfl
theorem tw_4_106 : (Jvm.Cond.static ({ cls := "OneOfTwo", name := "waysToOpen", desc := "(II)I" } : Jvm.MethodName)) ∈ TB := tb_4 (i := 106) rfl rfl
theorem tw_4_107 : (Jvm.Cond.code ({ cls := "OneOfTwo", name := "waysToOpen", desc := "(II)I" } : Jvm.MethodName) prog_1_method_55_code (4 : Nat) (Option.some Jvm.ClassFile.FieldType.int)) ∈ TB := tb_4 (i := 107) rfl rfl
theorem tw_4_108 : (Jvm.Cond.methodLink "OneOfTwo" (336 : Nat) ({ cls := "OneOfTwo", name := "waysOfTwo", desc := "(I)I" } : Jvm.MethodName)) ∈ TB := tb_4 (i := 108) rfl rfl
theorem tw_4_109 : (Jvm.Cond.static ({ cls := "OneOfTwo", name := "waysOfTwo", desc := "(I)I" } : Jvm.MethodName)) ∈ TB := tb_4 (i := 109) rfl rfl
theorem tw_4_110 : (Jvm.Cond.code ({ cls := "OneOfTwo", name := "waysOfTwo", desc := "(I)I" } : Jvm.MethodName) prog_1_method_56_code (1 : Nat) (Option.some Jvm.ClassFile.FieldType.int)) ∈ TB := tb_4 (i := 110) rfl rfl
theorem tw_4_111 : (Jvm.Cond.methodLink "OneOfTwoLaw" (128 : Nat) ({ cls := "OneOfTwo", name := "fewest", desc := "(I)I" } : Jvm.MethodName)) ∈ TB := tb_4 (i := 111) rfl rfl
theorem tw_4_112 : (Jvm.Cond.instanceMethod ({ cls := "OneOfTwo", name := "fewest", desc := "(I)I" } : Jvm.MethodName)) ∈ TB := tb_4 (i := 112) rfl rfl
theorem tw_4_113 : (Jvm.Cond.selects "OneOfTwo" ({ cls := "OneOfTwo", name := "fewest", desc := "(I)I" } : Jvm.MethodName) ({ cls := "OneOfTwo", name := "fewest", desc := "(I)I" } : Jvm.MethodName)) ∈ TB := tb_4 (i := 113) rfl rfl
theorem tw_4_114 : (Jvm.Cond.code ({ cls := "OneOfTwo", name := "fewest", desc := "(I)I" } : Jvm.MethodName) prog_1_method_29_code (2 : Nat) (Option.some Jvm.ClassFile.FieldType.int)) ∈ TB := tb_4 (i := 114) rfl rfl
theorem tw_4_115 : (Jvm.Cond.methodLink "OneOfTwo" (265 : Nat) ({ cls := "OneOfTwo$Search", name := "find", desc := "(I)V" } : Jvm.MethodName)) ∈ TB := tb_4 (i := 115) rfl rfl
theorem tw_4_116 : (Jvm.Cond.instanceMethod ({ cls := "OneOfTwo$Search", name := "find", desc := "(I)V" } : Jvm.MethodName)) ∈ TB := tb_4 (i := 116) rfl rfl
theorem tw_4_117 : (Jvm.Cond.selects "OneOfTwo$Search" ({ cls := "OneOfTwo$Search", name := "find", desc := "(I)V" } : Jvm.MethodName) ({ cls := "OneOfTwo$Search", name := "find", desc := "(I)V" } : Jvm.MethodName)) ∈ TB := tb_4 (i := 117) rfl rfl
theorem tw_4_118 : (Jvm.Cond.code ({ cls := "OneOfTwo$Search", name := "find", desc := "(I)V" } : Jvm.MethodName) prog_7_method_2_code (3 : Nat) (Option.none : Option Jvm.ClassFile.FieldType)) ∈ TB := tb_4 (i := 118) rfl rfl
theorem tw_4_119 : (Jvm.Cond.methodLink "OneOfTwo$Search" (44 : Nat) ({ cls := "OneOfTwo$Search", name := "prepareCords", desc := "()V" } : Jvm.MethodName)) ∈ TB := tb_4 (i := 119) rfl rfl
theorem tw_4_121 : (Jvm.Cond.instanceMethod ({ cls := "OneOfTwo$Search", name := "prepareCords", desc := "()V" } : Jvm.MethodName)) ∈ TB := tb_4 (i := 121) rfl rfl
theorem tw_4_122 : (Jvm.Cond.code ({ cls := "OneOfTwo$Search", name := "prepareCords", desc := "()V" } : Jvm.MethodName) prog_7_method_3_code (3 : Nat) (Option.none : Option Jvm.ClassFile.FieldType)) ∈ TB := tb_4 (i := 122) rfl rfl
theorem tw_4_123 : (Jvm.Cond.methodLink "OneOfTwo$Search" (85 : Nat) ({ cls := "java/util/Arrays", name := "fill", desc := "([II)V" } : Jvm.MethodName)) ∈ TB := tb_4 (i := 123) rfl rfl
theorem tw_4_124 : (Jvm.Cond.static ({ cls := "java/util/Arrays", name := "fill", desc := "([II)V" } : Jvm.MethodName)) ∈ TB := tb_4 (i := 124) rfl rfl
theorem tw_4_125 : (Jvm.Cond.code ({ cls := "java/util/Arrays", name := "fill", desc := "([II)V" } : Jvm.MethodName) prog_22_method_103_code (4 : Nat) (Option.none : Option Jvm.ClassFile.FieldType)) ∈ TB := tb_4 (i := 125) rfl rfl
theorem tw_4_126 : (Jvm.Cond.methodLink "OneOfTwo$Search" (94 : Nat) ({ cls := "OneOfTwo$Search", name := "looseOn", desc := "(I)I" } : Jvm.MethodName)) ∈ TB := tb_4 (i := 126) rfl rfl
theorem tw_4_128 : (Jvm.Cond.instanceMethod ({ cls := "OneOfTwo$Search", name := "looseOn", desc := "(I)I" } : Jvm.MethodName)) ∈ TB := tb_4 (i := 128) rfl rfl
theorem tw_4_129 : (Jvm.Cond.code ({ cls := "OneOfTwo$Search", name := "looseOn", desc := "(I)I" } : Jvm.MethodName) prog_7_method_6_code (2 : Nat) (Option.some Jvm.ClassFile.FieldType.int)) ∈ TB := tb_4 (i := 129) rfl rfl
theorem tw_4_130 : (Jvm.Cond.methodLink "OneOfTwo$Search" (47 : Nat) ({ cls := "OneOfTwo$Search", name := "prepareLodgers", desc := "()V" } : Jvm.MethodName)) ∈ TB := tb_4 (i := 130) rfl rfl
theorem tw_4_132 : (Jvm.Cond.instanceMethod ({ cls := "OneOfTwo$Search", name := "prepareLodgers", desc := "()V" } : Jvm.MethodName)) ∈ TB := tb_4 (i := 132) rfl rfl
theorem tw_4_133 : (Jvm.Cond.code ({ cls := "OneOfTwo$Search", name := "prepareLodgers", desc := "()V" } : Jvm.MethodName) prog_7_method_4_code (5 : Nat) (Option.none : Option Jvm.ClassFile.FieldType)) ∈ TB := tb_4 (i := 133) rfl rfl
theorem tw_4_134 : (Jvm.Cond.methodLink "OneOfTwo$Search" (103 : Nat) ({ cls := "OneOfTwo$Search", name := "placeFor", desc := "(II)I" } : Jvm.MethodName)) ∈ TB := tb_4 (i := 134) rfl rfl
theorem tw_4_136 : (Jvm.Cond.instanceMethod ({ cls := "OneOfTwo$Search", name := "placeFor", desc := "(II)I" } : Jvm.MethodName)) ∈ TB := tb_4 (i := 136) rfl rfl
theorem tw_4_137 : (Jvm.Cond.code ({ cls := "OneOfTwo$Search", name := "placeFor", desc := "(II)I" } : Jvm.MethodName) prog_7_method_5_code (3 : Nat) (Option.some Jvm.ClassFile.FieldType.int)) ∈ TB := tb_4 (i := 137) rfl rfl
theorem tw_4_138 : (Jvm.Cond.methodLink "OneOfTwo$Search" (109 : Nat) ({ cls := "java/lang/Math", name := "abs", desc := "(I)I" } : Jvm.MethodName)) ∈ TB := tb_4 (i := 138) rfl rfl
theorem tw_4_139 : (Jvm.Cond.methodLink "OneOfTwo$Search" (112 : Nat) ({ cls := "java/lang/Math", name := "min", desc := "(II)I" } : Jvm.MethodName)) ∈ TB := tb_4 (i := 139) rfl rfl
theorem tw_4_140 : (Jvm.Cond.methodLink "OneOfTwo$Search" (50 : Nat) ({ cls := "OneOfTwo$House", name := "contentSet", desc := "()I" } : Jvm.MethodName)) ∈ TB := tb_4 (i := 140) rfl rfl
theorem tw_4_141 : (Jvm.Cond.methodLink "OneOfTwo$Search" (56 : Nat) ({ cls := "java/lang/Integer", name := "bitCount", desc := "(I)I" } : Jvm.MethodName)) ∈ TB := tb_4 (i := 141) rfl rfl
theorem tw_4_142 : (Jvm.Cond.methodLink "OneOfTwo$Search" (62 : Nat) ({ cls := "java/lang/Math", name := "max", desc := "(II)I" } : Jvm.MethodName)) ∈ TB := tb_4 (i := 142) rfl rfl
theorem tw_4_143 : (Jvm.Cond.constant "OneOfTwo$Search" (68 : Nat) (1000000 : Int32)) ∈ TB := tb_4 (i := 143) rfl rfl
theorem tw_4_144 : (Jvm.Cond.methodLink "OneOfTwo$Search" (72 : Nat) ({ cls := "java/lang/System", name := "arraycopy", desc := "(Ljava/lang/Object;ILjava/lang/Object;II)V" } : Jvm.MethodName)) ∈ TB := tb_4 (i := 144) rfl rfl
theorem tw_4_145 : (Jvm.Cond.methodLink "OneOfTwo$Search" (81 : Nat) ({ cls := "OneOfTwo$Search", name := "place", desc := "(IIII)V" } : Jvm.MethodName)) ∈ TB := tb_4 (i := 145) rfl rfl
theorem tw_4_147 : (Jvm.Cond.instanceMethod ({ cls := "OneOfTwo$Search", name := "place", desc := "(IIII)V" } : Jvm.MethodName)) ∈ TB := tb_4 (i := 147) rfl rfl
theorem tw_4_148 : (Jvm.Cond.code ({ cls := "OneOfTwo$Search", name := "place", desc := "(IIII)V" } : Jvm.MethodName) prog_7_method_7_code (13 : Nat) (Option.none : Option Jvm.ClassFile.FieldType)) ∈ TB := tb_4 (i := 148) rfl rfl
theorem tw_4_149 : (Jvm.Cond.methodLink "OneOfTwo$Search" (121 : Nat) ({ cls := "OneOfTwo$Search", name := "contentOf", desc := "(I)I" } : Jvm.MethodName)) ∈ TB := tb_4 (i := 149) rfl rfl
theorem tw_4_151 : (Jvm.Cond.instanceMethod ({ cls := "OneOfTwo$Search", name := "contentOf", desc := "(I)I" } : Jvm.MethodName)) ∈ TB := tb_4 (i := 151) rfl rfl
theorem tw_4_152 : (Jvm.Cond.code ({ cls := "OneOfTwo$Search", name := "contentOf", desc := "(I)I" } : Jvm.MethodName) prog_7_method_9_code (6 : Nat) (Option.some Jvm.ClassFile.FieldType.int)) ∈ TB := tb_4 (i := 152) rfl rfl
theorem tw_4_153 : (Jvm.Cond.methodLink "OneOfTwo$Search" (126 : Nat) ({ cls := "OneOfTwo$House", name := "airBy", desc := "(II)I" } : Jvm.MethodName)) ∈ TB := tb_4 (i := 153) rfl rfl
theorem tw_4_154 : (Jvm.Cond.methodLink "OneOfTwo$Search" (129 : Nat) ({ cls := "OneOfTwo$House", name := "isContentBy", desc := "(II)Z" } : Jvm.MethodName)) ∈ TB := tb_4 (i := 154) rfl rfl
theorem tw_4_155 : (Jvm.Cond.methodLink "OneOfTwo$Search" (124 : Nat) ({ cls := "OneOfTwo$Search", name := "fill", desc := "(IIII)V" } : Jvm.MethodName)) ∈ TB := tb_4 (i := 155) rfl rfl
theorem tw_4_157 : (Jvm.Cond.instanceMethod ({ cls := "OneOfTwo$Search", name := "fill", desc := "(IIII)V" } : Jvm.MethodName)) ∈ TB := tb_4 (i := 157) rfl rfl
theorem tw_4_158 : (Jvm.Cond.code ({ cls := "OneOfTwo$Search", name := "fill", desc := "(IIII)V" } : Jvm.MethodName) prog_7_method_8_code (5 : Nat) (Option.none : Option Jvm.ClassFile.FieldType)) ∈ TB := tb_4 (i := 158) rfl rfl
theorem tw_4_159 : (Jvm.Cond.constant "OneOfTwo" (271 : Nat) (1000000 : Int32)) ∈ TB := tb_4 (i := 159) rfl rfl
theorem tw_4_160 : (Jvm.Cond.methodLink "OneOfTwoLaw" (132 : Nat) ({ cls := "OneOfTwo", name := "most", desc := "(I)I" } : Jvm.MethodName)) ∈ TB := tb_4 (i := 160) rfl rfl
theorem tw_4_161 : (Jvm.Cond.instanceMethod ({ cls := "OneOfTwo", name := "most", desc := "(I)I" } : Jvm.MethodName)) ∈ TB := tb_4 (i := 161) rfl rfl
theorem tw_4_162 : (Jvm.Cond.selects "OneOfTwo" ({ cls := "OneOfTwo", name := "most", desc := "(I)I" } : Jvm.MethodName) ({ cls := "OneOfTwo", name := "most", desc := "(I)I" } : Jvm.MethodName)) ∈ TB := tb_4 (i := 162) rfl rfl
theorem tw_4_163 : (Jvm.Cond.code ({ cls := "OneOfTwo", name := "most", desc := "(I)I" } : Jvm.MethodName) prog_1_method_30_code (2 : Nat) (Option.some Jvm.ClassFile.FieldType.int)) ∈ TB := tb_4 (i := 163) rfl rfl
theorem tw_4_164 : (Jvm.Cond.methodLink "OneOfTwoLaw" (136 : Nat) ({ cls := "OneOfTwo", name := "helps", desc := "(I)I" } : Jvm.MethodName)) ∈ TB := tb_4 (i := 164) rfl rfl
theorem tw_4_165 : (Jvm.Cond.instanceMethod ({ cls := "OneOfTwo", name := "helps", desc := "(I)I" } : Jvm.MethodName)) ∈ TB := tb_4 (i := 165) rfl rfl
theorem tw_4_166 : (Jvm.Cond.selects "OneOfTwo" ({ cls := "OneOfTwo", name := "helps", desc := "(I)I" } : Jvm.MethodName) ({ cls := "OneOfTwo", name := "helps", desc := "(I)I" } : Jvm.MethodName)) ∈ TB := tb_4 (i := 166) rfl rfl
theorem tw_4_167 : (Jvm.Cond.code ({ cls := "OneOfTwo", name := "helps", desc := "(I)I" } : Jvm.MethodName) prog_1_method_31_code (7 : Nat) (Option.some Jvm.ClassFile.FieldType.int)) ∈ TB := tb_4 (i := 167) rfl rfl
theorem tw_4_168 : (Jvm.Cond.methodLink "OneOfTwo" (278 : Nat) ({ cls := "OneOfTwo", name := "contentIfSwapped", desc := "(II)I" } : Jvm.MethodName)) ∈ TB := tb_4 (i := 168) rfl rfl
theorem tw_4_170 : (Jvm.Cond.instanceMethod ({ cls := "OneOfTwo", name := "contentIfSwapped", desc := "(II)I" } : Jvm.MethodName)) ∈ TB := tb_4 (i := 170) rfl rfl
theorem tw_4_171 : (Jvm.Cond.code ({ cls := "OneOfTwo", name := "contentIfSwapped", desc := "(II)I" } : Jvm.MethodName) prog_1_method_57_code (3 : Nat) (Option.some Jvm.ClassFile.FieldType.int)) ∈ TB := tb_4 (i := 171) rfl rfl
theorem tw_4_172 : (Jvm.Cond.methodLink "OneOfTwoLaw" (140 : Nat) ({ cls := "OneOfTwo", name := "who", desc := "(I)I" } : Jvm.MethodName)) ∈ TB := tb_4 (i := 172) rfl rfl
theorem tw_4_173 : (Jvm.Cond.instanceMethod ({ cls := "OneOfTwo", name := "who", desc := "(I)I" } : Jvm.MethodName)) ∈ TB := tb_4 (i := 173) rfl rfl
theorem tw_4_174 : (Jvm.Cond.selects "OneOfTwo" ({ cls := "OneOfTwo", name := "who", desc := "(I)I" } : Jvm.MethodName) ({ cls := "OneOfTwo", name := "who", desc := "(I)I" } : Jvm.MethodName)) ∈ TB := tb_4 (i := 174) rfl rfl
theorem tw_4_175 : (Jvm.Cond.code ({ cls := "OneOfTwo", name := "who", desc := "(I)I" } : Jvm.MethodName) prog_1_method_32_code (5 : Nat) (Option.some Jvm.ClassFile.FieldType.int)) ∈ TB := tb_4 (i := 175) rfl rfl
theorem tw_4_176 : (Jvm.Cond.methodLink "OneOfTwo" (281 : Nat) ({ cls := "OneOfTwo", name := "isSheet", desc := "(I)Z" } : Jvm.MethodName)) ∈ TB := tb_4 (i := 176) rfl rfl
theorem tw_4_177 : (Jvm.Cond.static ({ cls := "OneOfTwo", name := "isSheet", desc := "(I)Z" } : Jvm.MethodName)) ∈ TB := tb_4 (i := 177) rfl rfl
theorem tw_4_178 : (Jvm.Cond.code ({ cls := "OneOfTwo", name := "isSheet", desc := "(I)Z" } : Jvm.MethodName) prog_1_method_53_code (1 : Nat) (Option.some Jvm.ClassFile.FieldType.boolean)) ∈ TB := tb_4 (i := 178) rfl rfl
theorem tw_4_179 : (Jvm.Cond.methodLink "OneOfTwo" (287 : Nat) ({ cls := "OneOfTwo", name := "wouldStandSo", desc := "(ILOneOfTwo$Row;)Z" } : Jvm.MethodName)) ∈ TB := tb_4 (i := 179) rfl rfl
theorem tw_4_181 : (Jvm.Cond.instanceMethod ({ cls := "OneOfTwo", name := "wouldStandSo", desc := "(ILOneOfTwo$Row;)Z" } : Jvm.MethodName)) ∈ TB := tb_4 (i := 181) rfl rfl
theorem tw_4_182 : (Jvm.Cond.code ({ cls := "OneOfTwo", name := "wouldStandSo", desc := "(ILOneOfTwo$Row;)Z" } : Jvm.MethodName) prog_1_method_58_code (3 : Nat) (Option.some Jvm.ClassFile.FieldType.boolean)) ∈ TB := tb_4 (i := 182) rfl rfl
theorem tw_4_183 : (Jvm.Cond.methodLink "OneOfTwo" (322 : Nat) ({ cls := "OneOfTwo$House", name := "firstUnlike", desc := "(LOneOfTwo$Row;)I" } : Jvm.MethodName)) ∈ TB := tb_4 (i := 183) rfl rfl
theorem tw_4_184 : (Jvm.Cond.instanceMethod ({ cls := "OneOfTwo$House", name := "firstUnlike", desc := "(LOneOfTwo$Row;)I" } : Jvm.MethodName)) ∈ TB := tb_4 (i := 184) rfl rfl
theorem tw_4_185 : (Jvm.Cond.selects "OneOfTwo$House" ({ cls := "OneOfTwo$House", name := "firstUnlike", desc := "(LOneOfTwo$Row;)I" } : Jvm.MethodName) ({ cls := "OneOfTwo$House", name := "firstUnlike", desc := "(LOneOfTwo$Row;)I" } : Jvm.MethodName)) ∈ TB := tb_4 (i := 185) rfl rfl
theorem tw_4_186 : (Jvm.Cond.code ({ cls := "OneOfTwo$House", name := "firstUnlike", desc := "(LOneOfTwo$Row;)I" } : Jvm.MethodName) prog_4_method_11_code (4 : Nat) (Option.some Jvm.ClassFile.FieldType.int)) ∈ TB := tb_4 (i := 186) rfl rfl
theorem tw_4_187 : (Jvm.Cond.methodLink "OneOfTwoLaw" (144 : Nat) ({ cls := "OneOfTwo", name := "seed", desc := "(I)I" } : Jvm.MethodName)) ∈ TB := tb_4 (i := 187) rfl rfl
theorem tw_4_188 : (Jvm.Cond.instanceMethod ({ cls := "OneOfTwo", name := "seed", desc := "(I)I" } : Jvm.MethodName)) ∈ TB := tb_4 (i := 188) rfl rfl
theorem tw_4_189 : (Jvm.Cond.selects "OneOfTwo" ({ cls := "OneOfTwo", name := "seed", desc := "(I)I" } : Jvm.MethodName) ({ cls := "OneOfTwo", name := "seed", desc := "(I)I" } : Jvm.MethodName)) ∈ TB := tb_4 (i := 189) rfl rfl
theorem tw_4_190 : (Jvm.Cond.code ({ cls := "OneOfTwo", name := "seed", desc := "(I)I" } : Jvm.MethodName) prog_1_method_33_code (3 : Nat) (Option.some Jvm.ClassFile.FieldType.int)) ∈ TB := tb_4 (i := 190) rfl rfl
theorem tw_4_191 : (Jvm.Cond.methodLink "OneOfTwoLaw" (148 : Nat) ({ cls := "OneOfTwo", name := "voice", desc := "(III)I" } : Jvm.MethodName)) ∈ TB := tb_4 (i := 191) rfl rfl
theorem tw_4_192 : (Jvm.Cond.instanceMethod ({ cls := "OneOfTwo", name := "voice", desc := "(III)I" } : Jvm.MethodName)) ∈ TB := tb_4 (i := 192) rfl rfl
theorem tw_4_193 : (Jvm.Cond.selects "OneOfTwo" ({ cls := "OneOfTwo", name := "voice", desc := "(III)I" } : Jvm.MethodName) ({ cls := "OneOfTwo", name := "voice", desc := "(III)I" } : Jvm.MethodName)) ∈ TB := tb_4 (i := 193) rfl rfl
theorem tw_4_194 : (Jvm.Cond.code ({ cls := "OneOfTwo", name := "voice", desc := "(III)I" } : Jvm.MethodName) prog_1_method_34_code (6 : Nat) (Option.some Jvm.ClassFile.FieldType.int)) ∈ TB := tb_4 (i := 194) rfl rfl
theorem tw_4_195 : (Jvm.Cond.methodLink "OneOfTwo" (294 : Nat) ({ cls := "OneOfTwo$Lodger", name := "wakes", desc := "(IIILOneOfTwo$Row;)I" } : Jvm.MethodName)) ∈ TB := tb_4 (i := 195) rfl rfl
theorem tw_4_196 : (Jvm.Cond.instanceMethod ({ cls := "OneOfTwo$Lodger", name := "wakes", desc := "(IIILOneOfTwo$Row;)I" } : Jvm.MethodName)) ∈ TB := tb_4 (i := 196) rfl rfl
theorem tw_4_197 : (Jvm.Cond.selects "OneOfTwo$Lodger" ({ cls := "OneOfTwo$Lodger", name := "wakes", desc := "(IIILOneOfTwo$Row;)I" } : Jvm.MethodName) ({ cls := "OneOfTwo$Lodger", name := "wakes", desc := "(IIILOneOfTwo$Row;)I" } : Jvm.MethodName)) ∈ TB := tb_4 (i := 197) rfl rfl
theorem tw_4_198 : (Jvm.Cond.sameMethod "OneOfTwo$Lodger" "OneOfTwo$Lodger" "wakes" "(IIILOneOfTwo$Row;)I") ∈ TB := tb_4 (i := 198) rfl rfl
theorem tw_4_199 : (Jvm.Cond.selects "OneOfTwo$Cougher" ({ cls := "OneOfTwo$Lodger", name := "wakes", desc := "(IIILOneOfTwo$Row;)I" } : Jvm.MethodName) ({ cls := "OneOfTwo$Lodger", name := "wakes", desc := "(IIILOneOfTwo$Row;)I" } : Jvm.MethodName)) ∈ TB := tb_4 (i := 199) rfl rfl
theorem tw_4_200 : (Jvm.Cond.selects "OneOfTwo$Fevered" ({ cls := "OneOfTwo$Lodger", name := "wakes", desc := "(IIILOneOfTwo$Row;)I" } : Jvm.MethodName) ({ cls := "OneOfTwo$Lodger", name := "wakes", desc := "(IIILOneOfTwo$Row;)I" } : Jvm.MethodName)) ∈ TB := tb_4 (i := 200) rfl rfl
theorem tw_4_201 : (Jvm.Cond.selects "OneOfTwo$Sleeper" ({ cls := "OneOfTwo$Lodger", name := "wakes", desc := "(IIILOneOfTwo$Row;)I" } : Jvm.MethodName) ({ cls := "OneOfTwo$Lodger", name := "wakes", desc := "(IIILOneOfTwo$Row;)I" } : Jvm.MethodName)) ∈ TB := tb_4 (i := 201) rfl rfl
theorem tw_4_202 : (Jvm.Cond.selects "OneOfTwo$Smoker" ({ cls := "OneOfTwo$Lodger", name := "wakes", desc := "(IIILOneOfTwo$Row;)I" } : Jvm.MethodName) ({ cls := "OneOfTwo$Smoker", name := "wakes", desc := "(IIILOneOfTwo$Row;)I" } : Jvm.MethodName)) ∈ TB := tb_4 (i := 202) rfl rfl
theorem tw_4_203 : (Jvm.Cond.instanceMethod ({ cls := "OneOfTwo$Smoker", name := "wakes", desc := "(IIILOneOfTwo$Row;)I" } : Jvm.MethodName)) ∈ TB := tb_4 (i := 203) rfl rfl
theorem tw_4_204 : (Jvm.Cond.code ({ cls := "OneOfTwo$Smoker", name := "wakes", desc := "(IIILOneOfTwo$Row;)I" } : Jvm.MethodName) prog_9_method_4_code (5 : Nat) (Option.some Jvm.ClassFile.FieldType.int)) ∈ TB := tb_4 (i := 204) rfl rfl
theorem tw_4_205 : (Jvm.Cond.methodLink "OneOfTwo$Smoker" (7 : Nat) ({ cls := "OneOfTwo$Row", name := "add", desc := "(I)V" } : Jvm.MethodName)) ∈ TB := tb_4 (i := 205) rfl rfl
theorem tw_4_206 : (Jvm.Cond.methodLink "OneOfTwo$Smoker" (12 : Nat) ({ cls := "OneOfTwo$Lodger", name := "wakes", desc := "(IIILOneOfTwo$Row;)I" } : Jvm.MethodName)) ∈ TB := tb_4 (i := 206) rfl rfl
theorem tw_4_207 : (Jvm.Cond.selects "OneOfTwo$Spiteful" ({ cls := "OneOfTwo$Lodger", name := "wakes", desc := "(IIILOneOfTwo$Row;)I" } : Jvm.MethodName) ({ cls := "OneOfTwo$Lodger", name := "wakes", desc := "(IIILOneOfTwo$Row;)I" } : Jvm.MethodName)) ∈ TB := tb_4 (i := 207) rfl rfl
theorem tw_4_208 : (Jvm.Cond.selects "OneOfTwo$Strong" ({ cls := "OneOfTwo$Lodger", name := "wakes", desc := "(IIILOneOfTwo$Row;)I" } : Jvm.MethodName) ({ cls := "OneOfTwo$Smoker", name := "wakes", desc := "(IIILOneOfTwo$Row;)I" } : Jvm.MethodName)) ∈ TB := tb_4 (i := 208) rfl rfl
theorem tw_4_209 : (Jvm.Cond.code ({ cls := "OneOfTwo$Lodger", name := "wakes", desc := "(IIILOneOfTwo$Row;)I" } : Jvm.MethodName) prog_5_method_6_code (5 : Nat) (Option.some Jvm.ClassFile.FieldType.int)) ∈ TB := tb_4 (i := 209) rfl rfl
theorem tw_4_210 : (Jvm.Cond.methodLink "OneOfTwo$Lodger" (13 : Nat) ({ cls := "OneOfTwo$Row", name := "add", desc := "(I)V" } : Jvm.MethodName)) ∈ TB := tb_4 (i := 210) rfl rfl
theorem tw_4_211 : (Jvm.Cond.methodLink "OneOfTwo" (298 : Nat) ({ cls := "OneOfTwo$Lodger", name := "pulls", desc := "(IIILOneOfTwo$Row;)I" } : Jvm.MethodName)) ∈ TB := tb_4 (i := 211) rfl rfl
theorem tw_4_212 : (Jvm.Cond.instanceMethod ({ cls := "OneOfTwo$Lodger", name := "pulls", desc := "(IIILOneOfTwo$Row;)I" } : Jvm.MethodName)) ∈ TB := tb_4 (i := 212) rfl rfl
theorem tw_4_213 : (Jvm.Cond.selects "OneOfTwo$Lodger" ({ cls := "OneOfTwo$Lodger", name := "pulls", desc := "(IIILOneOfTwo$Row;)I" } : Jvm.MethodName) ({ cls := "OneOfTwo$Lodger", name := "pulls", desc := "(IIILOneOfTwo$Row;)I" } : Jvm.MethodName)) ∈ TB := tb_4 (i := 213) rfl rfl
theorem tw_4_214 : (Jvm.Cond.sameMethod "OneOfTwo$Lodger" "OneOfTwo$Lodger" "pulls" "(IIILOneOfTwo$Row;)I") ∈ TB := tb_4 (i := 214) rfl rfl
theorem tw_4_215 : (Jvm.Cond.selects "OneOfTwo$Cougher" ({ cls := "OneOfTwo$Lodger", name := "pulls", desc := "(IIILOneOfTwo$Row;)I" } : Jvm.MethodName) ({ cls := "OneOfTwo$Cougher", name := "pulls", desc := "(IIILOneOfTwo$Row;)I" } : Jvm.MethodName)) ∈ TB := tb_4 (i := 215) rfl rfl
theorem tw_4_216 : (Jvm.Cond.instanceMethod ({ cls := "OneOfTwo$Cougher", name := "pulls", desc := "(IIILOneOfTwo$Row;)I" } : Jvm.MethodName)) ∈ TB := tb_4 (i := 216) rfl rfl
theorem tw_4_217 : (Jvm.Cond.code ({ cls := "OneOfTwo$Cougher", name := "pulls", desc := "(IIILOneOfTwo$Row;)I" } : Jvm.MethodName) prog_2_method_4_code (5 : Nat) (Option.some Jvm.ClassFile.FieldType.int)) ∈ TB := tb_4 (i := 217) rfl rfl
theorem tw_4_218 : (Jvm.Cond.methodLink "OneOfTwo$Cougher" (7 : Nat) ({ cls := "OneOfTwo$Row", name := "add", desc := "(I)V" } : Jvm.MethodName)) ∈ TB := tb_4 (i := 218) rfl rfl
theorem tw_4_219 : (Jvm.Cond.methodLink "OneOfTwo$Cougher" (12 : Nat) ({ cls := "OneOfTwo$Lodger", name := "pulls", desc := "(IIILOneOfTwo$Row;)I" } : Jvm.MethodName)) ∈ TB := tb_4 (i := 219) rfl rfl
theorem tw_4_220 : (Jvm.Cond.methodLink "OneOfTwo$Cougher" (16 : Nat) ({ cls := "OneOfTwo$Cougher", name := "shuts", desc := "(IIILOneOfTwo$Row;)I" } : Jvm.MethodName)) ∈ TB := tb_4 (i := 220) rfl rfl
theorem tw_4_221 : (Jvm.Cond.sameMethod "OneOfTwo$Cougher" "OneOfTwo$Lodger" "shuts" "(IIILOneOfTwo$Row;)I") ∈ TB := tb_4 (i := 221) rfl rfl
theorem tw_4_223 : (Jvm.Cond.selects "OneOfTwo$Cougher" ({ cls := "OneOfTwo$Cougher", name := "shuts", desc := "(IIILOneOfTwo$Row;)I" } : Jvm.MethodName) ({ cls := "OneOfTwo$Lodger", name := "shuts", desc := "(IIILOneOfTwo$Row;)I" } : Jvm.MethodName)) ∈ TB := tb_4 (i := 223) rfl rfl
theorem tw_4_224 : (Jvm.Cond.selects "OneOfTwo$Fevered" ({ cls := "OneOfTwo$Cougher", name := "shuts", desc := "(IIILOneOfTwo$Row;)I" } : Jvm.MethodName) ({ cls := "OneOfTwo$Lodger", name := "shuts", desc := "(IIILOneOfTwo$Row;)I" } : Jvm.MethodName)) ∈ TB := tb_4 (i := 224) rfl rfl
theorem tw_4_225 : (Jvm.Cond.instanceMethod ({ cls := "OneOfTwo$Lodger", name := "shuts", desc := "(IIILOneOfTwo$Row;)I" } : Jvm.MethodName)) ∈ TB := tb_4 (i := 225) rfl rfl
theorem tw_4_226 : (Jvm.Cond.code ({ cls := "OneOfTwo$Lodger", name := "shuts", desc := "(IIILOneOfTwo$Row;)I" } : Jvm.MethodName) prog_5_method_8_code (5 : Nat) (Option.some Jvm.ClassFile.FieldType.int)) ∈ TB := tb_4 (i := 226) rfl rfl
theorem tw_4_227 : (Jvm.Cond.selects "OneOfTwo$Fevered" ({ cls := "OneOfTwo$Lodger", name := "pulls", desc := "(IIILOneOfTwo$Row;)I" } : Jvm.MethodName) ({ cls := "OneOfTwo$Fevered", name := "pulls", desc := "(IIILOneOfTwo$Row;)I" } : Jvm.MethodName)) ∈ TB := tb_4 (i := 227) rfl rfl
theorem tw_4_228 : (Jvm.Cond.instanceMethod ({ cls := "OneOfTwo$Fevered", name := "pulls", desc := "(IIILOneOfTwo$Row;)I" } : Jvm.MethodName)) ∈ TB := tb_4 (i := 228) rfl rfl
theorem tw_4_229 : (Jvm.Cond.code ({ cls := "OneOfTwo$Fevered", name := "pulls", desc := "(IIILOneOfTwo$Row;)I" } : Jvm.MethodName) prog_3_method_4_code (5 : Nat) (Option.some Jvm.ClassFile.FieldType.int)) ∈ TB := tb_4 (i := 229) rfl rfl
theorem tw_4_230 : (Jvm.Cond.methodLink "OneOfTwo$Fevered" (11 : Nat) ({ cls := "OneOfTwo$Row", name := "add", desc := "(I)V" } : Jvm.MethodName)) ∈ TB := tb_4 (i := 230) rfl rfl
theorem tw_4_231 : (Jvm.Cond.methodLink "OneOfTwo$Fevered" (16 : Nat) ({ cls := "OneOfTwo$Cougher", name := "pulls", desc := "(IIILOneOfTwo$Row;)I" } : Jvm.MethodName)) ∈ TB := tb_4 (i := 231) rfl rfl
theorem tw_4_232 : (Jvm.Cond.selects "OneOfTwo$Sleeper" ({ cls := "OneOfTwo$Lodger", name := "pulls", desc := "(IIILOneOfTwo$Row;)I" } : Jvm.MethodName) ({ cls := "OneOfTwo$Lodger", name := "pulls", desc := "(IIILOneOfTwo$Row;)I" } : Jvm.MethodName)) ∈ TB := tb_4 (i := 232) rfl rfl
theorem tw_4_233 : (Jvm.Cond.selects "OneOfTwo$Smoker" ({ cls := "OneOfTwo$Lodger", name := "pulls", desc := "(IIILOneOfTwo$Row;)I" } : Jvm.MethodName) ({ cls := "OneOfTwo$Lodger", name := "pulls", desc := "(IIILOneOfTwo$Row;)I" } : Jvm.MethodName)) ∈ TB := tb_4 (i := 233) rfl rfl
theorem tw_4_234 : (Jvm.Cond.selects "OneOfTwo$Spiteful" ({ cls := "OneOfTwo$Lodger", name := "pulls", desc := "(IIILOneOfTwo$Row;)I" } : Jvm.MethodName) ({ cls := "OneOfTwo$Lodger", name := "pulls", desc := "(IIILOneOfTwo$Row;)I" } : Jvm.MethodName)) ∈ TB := tb_4 (i := 234) rfl rfl
theorem tw_4_235 : (Jvm.Cond.selects "OneOfTwo$Strong" ({ cls := "OneOfTwo$Lodger", name := "pulls", desc := "(IIILOneOfTwo$Row;)I" } : Jvm.MethodName) ({ cls := "OneOfTwo$Lodger", name := "pulls", desc := "(IIILOneOfTwo$Row;)I" } : Jvm.MethodName)) ∈ TB := tb_4 (i := 235) rfl rfl
theorem tw_4_236 : (Jvm.Cond.code ({ cls := "OneOfTwo$Lodger", name := "pulls", desc := "(IIILOneOfTwo$Row;)I" } : Jvm.MethodName) prog_5_method_7_code (5 : Nat) (Option.some Jvm.ClassFile.FieldType.int)) ∈ TB := tb_4 (i := 236) rfl rfl
theorem tw_4_237 : (Jvm.Cond.methodLink "OneOfTwo$Lodger" (19 : Nat) ({ cls := "OneOfTwo$Lodger", name := "wakes", desc := "(IIILOneOfTwo$Row;)I" } : Jvm.MethodName)) ∈ TB := tb_4 (i := 237) rfl rfl
theorem tw_4_238 : (Jvm.Cond.methodLink "OneOfTwo" (301 : Nat) ({ cls := "OneOfTwo$Lodger", name := "shuts", desc := "(IIILOneOfTwo$Row;)I" } : Jvm.MethodName)) ∈ TB := tb_4 (i := 238) rfl rfl
theorem tw_4_239 : (Jvm.Cond.instanceMethod ({ cls := "OneOfTwo$Sleeper", name := "shuts", desc := "(IIILOneOfTwo$Row;)I" } : Jvm.MethodName)) ∈ TB := tb_4 (i := 239) rfl rfl
theorem tw_5_0 : (Jvm.Cond.code ({ cls := "OneOfTwo$Sleeper", name := "shuts", desc := "(IIILOneOfTwo$Row;)I" } : Jvm.MethodName) prog_8_method_3_code (5 : Nat) (Option.some Jvm.ClassFile.FieldType.int)) ∈ TB := tb_5 (i := 0) rfl rfl
theorem tw_5_1 : (Jvm.Cond.methodLink "OneOfTwo$Sleeper" (7 : Nat) ({ cls := "OneOfTwo$Row", name := "add", desc := "(I)V" } : Jvm.MethodName)) ∈ TB := tb_5 (i := 1) rfl rfl
theorem tw_5_2 : (Jvm.Cond.methodLink "OneOfTwo$Sleeper" (12 : Nat) ({ cls := "OneOfTwo$Lodger", name := "shuts", desc := "(IIILOneOfTwo$Row;)I" } : Jvm.MethodName)) ∈ TB := tb_5 (i := 2) rfl rfl
theorem tw_5_3 : (Jvm.Cond.instanceMethod ({ cls := "OneOfTwo$Spiteful", name := "shuts", desc := "(IIILOneOfTwo$Row;)I" } : Jvm.MethodName)) ∈ TB := tb_5 (i := 3) rfl rfl
theorem tw_5_4 : (Jvm.Cond.code ({ cls := "OneOfTwo$Spiteful", name := "shuts", desc := "(IIILOneOfTwo$Row;)I" } : Jvm.MethodName) prog_10_method_3_code (5 : Nat) (Option.some Jvm.ClassFile.FieldType.int)) ∈ TB := tb_5 (i := 4) rfl rfl
theorem tw_5_5 : (Jvm.Cond.methodLink "OneOfTwo$Spiteful" (11 : Nat) ({ cls := "OneOfTwo$Row", name := "add", desc := "(I)V" } : Jvm.MethodName)) ∈ TB := tb_5 (i := 5) rfl rfl
theorem tw_5_6 : (Jvm.Cond.methodLink "OneOfTwo$Spiteful" (16 : Nat) ({ cls := "OneOfTwo$Sleeper", name := "shuts", desc := "(IIILOneOfTwo$Row;)I" } : Jvm.MethodName)) ∈ TB := tb_5 (i := 6) rfl rfl
theorem tw_5_7 : (Jvm.Cond.methodLink "OneOfTwo" (304 : Nat) ({ cls := "OneOfTwo$Lodger", name := "tells", desc := "(IIILOneOfTwo$Row;)I" } : Jvm.MethodName)) ∈ TB := tb_5 (i := 7) rfl rfl
theorem tw_5_8 : (Jvm.Cond.instanceMethod ({ cls := "OneOfTwo$Lodger", name := "tells", desc := "(IIILOneOfTwo$Row;)I" } : Jvm.MethodName)) ∈ TB := tb_5 (i := 8) rfl rfl
theorem tw_5_9 : (Jvm.Cond.selects "OneOfTwo$Lodger" ({ cls := "OneOfTwo$Lodger", name := "tells", desc := "(IIILOneOfTwo$Row;)I" } : Jvm.MethodName) ({ cls := "OneOfTwo$Lodger", name := "tells", desc := "(IIILOneOfTwo$Row;)I" } : Jvm.MethodName)) ∈ TB := tb_5 (i := 9) rfl rfl
theorem tw_5_10 : (Jvm.Cond.sameMethod "OneOfTwo$Lodger" "OneOfTwo$Lodger" "tells" "(IIILOneOfTwo$Row;)I") ∈ TB := tb_5 (i := 10) rfl rfl
theorem tw_5_11 : (Jvm.Cond.selects "OneOfTwo$Cougher" ({ cls := "OneOfTwo$Lodger", name := "tells", desc := "(IIILOneOfTwo$Row;)I" } : Jvm.MethodName) ({ cls := "OneOfTwo$Lodger", name := "tells", desc := "(IIILOneOfTwo$Row;)I" } : Jvm.MethodName)) ∈ TB := tb_5 (i := 11) rfl rfl
theorem tw_5_12 : (Jvm.Cond.selects "OneOfTwo$Fevered" ({ cls := "OneOfTwo$Lodger", name := "tells", desc := "(IIILOneOfTwo$Row;)I" } : Jvm.MethodName) ({ cls := "OneOfTwo$Lodger", name := "tells", desc := "(IIILOneOfTwo$Row;)I" } : Jvm.MethodName)) ∈ TB := tb_5 (i := 12) rfl rfl
theorem tw_5_13 : (Jvm.Cond.selects "OneOfTwo$Sleeper" ({ cls := "OneOfTwo$Lodger", name := "tells", desc := "(IIILOneOfTwo$Row;)I" } : Jvm.MethodName) ({ cls := "OneOfTwo$Lodger", name := "tells", desc := "(IIILOneOfTwo$Row;)I" } : Jvm.MethodName)) ∈ TB := tb_5 (i := 13) rfl rfl
theorem tw_5_14 : (Jvm.Cond.selects "OneOfTwo$Smoker" ({ cls := "OneOfTwo$Lodger", name := "tells", desc := "(IIILOneOfTwo$Row;)I" } : Jvm.MethodName) ({ cls := "OneOfTwo$Lodger", name := "tells", desc := "(IIILOneOfTwo$Row;)I" } : Jvm.MethodName)) ∈ TB := tb_5 (i := 14) rfl rfl
theorem tw_5_15 : (Jvm.Cond.selects "OneOfTwo$Spiteful" ({ cls := "OneOfTwo$Lodger", name := "tells", desc := "(IIILOneOfTwo$Row;)I" } : Jvm.MethodName) ({ cls := "OneOfTwo$Spiteful", name := "tells", desc := "(IIILOneOfTwo$Row;)I" } : Jvm.MethodName)) ∈ TB := tb_5 (i := 15) rfl rfl
theorem tw_5_16 : (Jvm.Cond.instanceMethod ({ cls := "OneOfTwo$Spiteful", name := "tells", desc := "(IIILOneOfTwo$Row;)I" } : Jvm.MethodName)) ∈ TB := tb_5 (i := 16) rfl rfl
theorem tw_5_17 : (Jvm.Cond.code ({ cls := "OneOfTwo$Spiteful", name := "tells", desc := "(IIILOneOfTwo$Row;)I" } : Jvm.MethodName) prog_10_method_4_code (5 : Nat) (Option.some Jvm.ClassFile.FieldType.int)) ∈ TB := tb_5 (i := 17) rfl rfl
theorem tw_5_18 : (Jvm.Cond.methodLink "OneOfTwo$Spiteful" (20 : Nat) ({ cls := "OneOfTwo$Spiteful", name := "pulls", desc := "(IIILOneOfTwo$Row;)I" } : Jvm.MethodName)) ∈ TB := tb_5 (i := 18) rfl rfl
theorem tw_5_19 : (Jvm.Cond.sameMethod "OneOfTwo$Spiteful" "OneOfTwo$Lodger" "pulls" "(IIILOneOfTwo$Row;)I") ∈ TB := tb_5 (i := 19) rfl rfl
theorem tw_5_21 : (Jvm.Cond.selects "OneOfTwo$Spiteful" ({ cls := "OneOfTwo$Spiteful", name := "pulls", desc := "(IIILOneOfTwo$Row;)I" } : Jvm.MethodName) ({ cls := "OneOfTwo$Lodger", name := "pulls", desc := "(IIILOneOfTwo$Row;)I" } : Jvm.MethodName)) ∈ TB := tb_5 (i := 21) rfl rfl
theorem tw_5_22 : (Jvm.Cond.methodLink "OneOfTwo$Spiteful" (25 : Nat) ({ cls := "OneOfTwo$Sleeper", name := "tells", desc := "(IIILOneOfTwo$Row;)I" } : Jvm.MethodName)) ∈ TB := tb_5 (i := 22) rfl rfl
theorem tw_5_23 : (Jvm.Cond.sameMethod "OneOfTwo$Sleeper" "OneOfTwo$Lodger" "tells" "(IIILOneOfTwo$Row;)I") ∈ TB := tb_5 (i := 23) rfl rfl
theorem tw_5_25 : (Jvm.Cond.selects "OneOfTwo$Strong" ({ cls := "OneOfTwo$Lodger", name := "tells", desc := "(IIILOneOfTwo$Row;)I" } : Jvm.MethodName) ({ cls := "OneOfTwo$Strong", name := "tells", desc := "(IIILOneOfTwo$Row;)I" } : Jvm.MethodName)) ∈ TB := tb_5 (i := 25) rfl rfl
theorem tw_5_26 : (Jvm.Cond.instanceMethod ({ cls := "OneOfTwo$Strong", name := "tells", desc := "(IIILOneOfTwo$Row;)I" } : Jvm.MethodName)) ∈ TB := tb_5 (i := 26) rfl rfl
theorem tw_5_27 : (Jvm.Cond.code ({ cls := "OneOfTwo$Strong", name := "tells", desc := "(IIILOneOfTwo$Row;)I" } : Jvm.MethodName) prog_11_method_3_code (5 : Nat) (Option.some Jvm.ClassFile.FieldType.int)) ∈ TB := tb_5 (i := 27) rfl rfl
theorem tw_5_28 : (Jvm.Cond.methodLink "OneOfTwo$Strong" (7 : Nat) ({ cls := "OneOfTwo$Row", name := "add", desc := "(I)V" } : Jvm.MethodName)) ∈ TB := tb_5 (i := 28) rfl rfl
theorem tw_5_29 : (Jvm.Cond.methodLink "OneOfTwo$Strong" (12 : Nat) ({ cls := "OneOfTwo$Smoker", name := "tells", desc := "(IIILOneOfTwo$Row;)I" } : Jvm.MethodName)) ∈ TB := tb_5 (i := 29) rfl rfl
theorem tw_5_30 : (Jvm.Cond.sameMethod "OneOfTwo$Smoker" "OneOfTwo$Lodger" "tells" "(IIILOneOfTwo$Row;)I") ∈ TB := tb_5 (i := 30) rfl rfl
theorem tw_5_31 : (Jvm.Cond.methodLink "OneOfTwo$Strong" (16 : Nat) ({ cls := "OneOfTwo$Strong", name := "wakes", desc := "(IIILOneOfTwo$Row;)I" } : Jvm.MethodName)) ∈ TB := tb_5 (i := 31) rfl rfl
theorem tw_5_32 : (Jvm.Cond.sameMethod "OneOfTwo$Strong" "OneOfTwo$Smoker" "wakes" "(IIILOneOfTwo$Row;)I") ∈ TB := tb_5 (i := 32) rfl rfl
theorem tw_5_34 : (Jvm.Cond.selects "OneOfTwo$Strong" ({ cls := "OneOfTwo$Strong", name := "wakes", desc := "(IIILOneOfTwo$Row;)I" } : Jvm.MethodName) ({ cls := "OneOfTwo$Smoker", name := "wakes", desc := "(IIILOneOfTwo$Row;)I" } : Jvm.MethodName)) ∈ TB := tb_5 (i := 34) rfl rfl
theorem tw_5_35 : (Jvm.Cond.code ({ cls := "OneOfTwo$Lodger", name := "tells", desc := "(IIILOneOfTwo$Row;)I" } : Jvm.MethodName) prog_5_method_9_code (5 : Nat) (Option.some Jvm.ClassFile.FieldType.int)) ∈ TB := tb_5 (i := 35) rfl rfl
theorem tw_5_36 : (Jvm.Cond.methodLink "OneOfTwo$Lodger" (23 : Nat) ({ cls := "OneOfTwo$Lodger", name := "pulls", desc := "(IIILOneOfTwo$Row;)I" } : Jvm.MethodName)) ∈ TB := tb_5 (i := 36) rfl rfl
theorem tw_5_37 : (Jvm.Cond.methodLink "OneOfTwo$Lodger" (26 : Nat) ({ cls := "OneOfTwo$Lodger", name := "shuts", desc := "(IIILOneOfTwo$Row;)I" } : Jvm.MethodName)) ∈ TB := tb_5 (i := 37) rfl rfl
theorem tw_5_38 : (Jvm.Cond.methodLink "OneOfTwoLaw" (153 : Nat) ({ cls := "OneOfTwo", name := "trace", desc := "(I)I" } : Jvm.MethodName)) ∈ TB := tb_5 (i := 38) rfl rfl
theorem tw_5_39 : (Jvm.Cond.instanceMethod ({ cls := "OneOfTwo", name := "trace", desc := "(I)I" } : Jvm.MethodName)) ∈ TB := tb_5 (i := 39) rfl rfl
theorem tw_5_40 : (Jvm.Cond.selects "OneOfTwo" ({ cls := "OneOfTwo", name := "trace", desc := "(I)I" } : Jvm.MethodName) ({ cls := "OneOfTwo", name := "trace", desc := "(I)I" } : Jvm.MethodName)) ∈ TB := tb_5 (i := 40) rfl rfl
theorem tw_5_41 : (Jvm.Cond.code ({ cls := "OneOfTwo", name := "trace", desc := "(I)I" } : Jvm.MethodName) prog_1_method_35_code (2 : Nat) (Option.some Jvm.ClassFile.FieldType.int)) ∈ TB := tb_5 (i := 41) rfl rfl
theorem tw_5_42 : (Jvm.Cond.methodLink "OneOfTwoLaw" (157 : Nat) ({ cls := "OneOfTwo", name := "sheet", desc := "(III)I" } : Jvm.MethodName)) ∈ TB := tb_5 (i := 42) rfl rfl
theorem tw_5_43 : (Jvm.Cond.instanceMethod ({ cls := "OneOfTwo", name := "sheet", desc := "(III)I" } : Jvm.MethodName)) ∈ TB := tb_5 (i := 43) rfl rfl
theorem tw_5_44 : (Jvm.Cond.selects "OneOfTwo" ({ cls := "OneOfTwo", name := "sheet", desc := "(III)I" } : Jvm.MethodName) ({ cls := "OneOfTwo", name := "sheet", desc := "(III)I" } : Jvm.MethodName)) ∈ TB := tb_5 (i := 44) rfl rfl
theorem tw_5_45 : (Jvm.Cond.code ({ cls := "OneOfTwo", name := "sheet", desc := "(III)I" } : Jvm.MethodName) prog_1_method_36_code (4 : Nat) (Option.some Jvm.ClassFile.FieldType.int)) ∈ TB := tb_5 (i := 45) rfl rfl
theorem tw_5_46 : (Jvm.Cond.methodLink "OneOfTwo" (310 : Nat) ({ cls := "OneOfTwo$Row", name := "start", desc := "(II)V" } : Jvm.MethodName)) ∈ TB := tb_5 (i := 46) rfl rfl
theorem tw_5_47 : (Jvm.Cond.instanceMethod ({ cls := "OneOfTwo$Row", name := "start", desc := "(II)V" } : Jvm.MethodName)) ∈ TB := tb_5 (i := 47) rfl rfl
theorem tw_5_48 : (Jvm.Cond.selects "OneOfTwo$Row" ({ cls := "OneOfTwo$Row", name := "start", desc := "(II)V" } : Jvm.MethodName) ({ cls := "OneOfTwo$Row", name := "start", desc := "(II)V" } : Jvm.MethodName)) ∈ TB := tb_5 (i := 48) rfl rfl
theorem tw_5_49 : (Jvm.Cond.code ({ cls := "OneOfTwo$Row", name := "start", desc := "(II)V" } : Jvm.MethodName) prog_6_method_3_code (3 : Nat) (Option.none : Option Jvm.ClassFile.FieldType)) ∈ TB := tb_5 (i := 49) rfl rfl
theorem tw_5_50 : (Jvm.Cond.methodLink "OneOfTwo$Row" (20 : Nat) ({ cls := "java/util/Arrays", name := "fill", desc := "([II)V" } : Jvm.MethodName)) ∈ TB := tb_5 (i := 50) rfl rfl
theorem tw_5_51 : (Jvm.Cond.methodLink "OneOfTwoLaw" (161 : Nat) ({ cls := "OneOfTwo", name := "put", desc := "(III)I" } : Jvm.MethodName)) ∈ TB := tb_5 (i := 51) rfl rfl
theorem tw_5_52 : (Jvm.Cond.instanceMethod ({ cls := "OneOfTwo", name := "put", desc := "(III)I" } : Jvm.MethodName)) ∈ TB := tb_5 (i := 52) rfl rfl
theorem tw_5_53 : (Jvm.Cond.selects "OneOfTwo" ({ cls := "OneOfTwo", name := "put", desc := "(III)I" } : Jvm.MethodName) ({ cls := "OneOfTwo", name := "put", desc := "(III)I" } : Jvm.MethodName)) ∈ TB := tb_5 (i := 53) rfl rfl
theorem tw_5_54 : (Jvm.Cond.code ({ cls := "OneOfTwo", name := "put", desc := "(III)I" } : Jvm.MethodName) prog_1_method_37_code (5 : Nat) (Option.some Jvm.ClassFile.FieldType.int)) ∈ TB := tb_5 (i := 54) rfl rfl
theorem tw_5_55 : (Jvm.Cond.methodLink "OneOfTwoLaw" (165 : Nat) ({ cls := "OneOfTwo", name := "move", desc := "(IIIII)I" } : Jvm.MethodName)) ∈ TB := tb_5 (i := 55) rfl rfl
theorem tw_5_56 : (Jvm.Cond.instanceMethod ({ cls := "OneOfTwo", name := "move", desc := "(IIIII)I" } : Jvm.MethodName)) ∈ TB := tb_5 (i := 56) rfl rfl
theorem tw_5_57 : (Jvm.Cond.selects "OneOfTwo" ({ cls := "OneOfTwo", name := "move", desc := "(IIIII)I" } : Jvm.MethodName) ({ cls := "OneOfTwo", name := "move", desc := "(IIIII)I" } : Jvm.MethodName)) ∈ TB := tb_5 (i := 57) rfl rfl
theorem tw_5_58 : (Jvm.Cond.code ({ cls := "OneOfTwo", name := "move", desc := "(IIIII)I" } : Jvm.MethodName) prog_1_method_38_code (8 : Nat) (Option.some Jvm.ClassFile.FieldType.int)) ∈ TB := tb_5 (i := 58) rfl rfl
theorem tw_5_59 : (Jvm.Cond.methodLink "OneOfTwo" (313 : Nat) ({ cls := "OneOfTwo$Row", name := "holds", desc := "(II)Z" } : Jvm.MethodName)) ∈ TB := tb_5 (i := 59) rfl rfl
theorem tw_5_60 : (Jvm.Cond.instanceMethod ({ cls := "OneOfTwo$Row", name := "holds", desc := "(II)Z" } : Jvm.MethodName)) ∈ TB := tb_5 (i := 60) rfl rfl
theorem tw_5_61 : (Jvm.Cond.selects "OneOfTwo$Row" ({ cls := "OneOfTwo$Row", name := "holds", desc := "(II)Z" } : Jvm.MethodName) ({ cls := "OneOfTwo$Row", name := "holds", desc := "(II)Z" } : Jvm.MethodName)) ∈ TB := tb_5 (i := 61) rfl rfl
theorem tw_5_62 : (Jvm.Cond.code ({ cls := "OneOfTwo$Row", name := "holds", desc := "(II)Z" } : Jvm.MethodName) prog_6_method_4_code (3 : Nat) (Option.some Jvm.ClassFile.FieldType.boolean)) ∈ TB := tb_5 (i := 62) rfl rfl
theorem tw_5_63 : (Jvm.Cond.methodLink "OneOfTwo" (316 : Nat) ({ cls := "java/lang/System", name := "arraycopy", desc := "(Ljava/lang/Object;ILjava/lang/Object;II)V" } : Jvm.MethodName)) ∈ TB := tb_5 (i := 63) rfl rfl
theorem tw_5_64 : (Jvm.Cond.methodLink "OneOfTwoLaw" (170 : Nat) ({ cls := "OneOfTwo", name := "judge", desc := "(I)I" } : Jvm.MethodName)) ∈ TB := tb_5 (i := 64) rfl rfl
theorem tw_5_65 : (Jvm.Cond.instanceMethod ({ cls := "OneOfTwo", name := "judge", desc := "(I)I" } : Jvm.MethodName)) ∈ TB := tb_5 (i := 65) rfl rfl
theorem tw_5_66 : (Jvm.Cond.selects "OneOfTwo" ({ cls := "OneOfTwo", name := "judge", desc := "(I)I" } : Jvm.MethodName) ({ cls := "OneOfTwo", name := "judge", desc := "(I)I" } : Jvm.MethodName)) ∈ TB := tb_5 (i := 66) rfl rfl
theorem tw_5_67 : (Jvm.Cond.code ({ cls := "OneOfTwo", name := "judge", desc := "(I)I" } : Jvm.MethodName) prog_1_method_39_code (3 : Nat) (Option.some Jvm.ClassFile.FieldType.int)) ∈ TB := tb_5 (i := 67) rfl rfl
theorem tw_5_68 : (Jvm.Cond.methodLink "OneOfTwoLaw" (174 : Nat) ({ cls := "OneOfTwo", name := "image", desc := "()I" } : Jvm.MethodName)) ∈ TB := tb_5 (i := 68) rfl rfl
theorem tw_5_69 : (Jvm.Cond.instanceMethod ({ cls := "OneOfTwo", name := "image", desc := "()I" } : Jvm.MethodName)) ∈ TB := tb_5 (i := 69) rfl rfl
theorem tw_5_70 : (Jvm.Cond.selects "OneOfTwo" ({ cls := "OneOfTwo", name := "image", desc := "()I" } : Jvm.MethodName) ({ cls := "OneOfTwo", name := "image", desc := "()I" } : Jvm.MethodName)) ∈ TB := tb_5 (i := 70) rfl rfl
theorem tw_5_71 : (Jvm.Cond.code ({ cls := "OneOfTwo", name := "image", desc := "()I" } : Jvm.MethodName) prog_1_method_40_code (1 : Nat) (Option.some Jvm.ClassFile.FieldType.int)) ∈ TB := tb_5 (i := 71) rfl rfl
theorem tw_5_72 : (Jvm.Cond.methodLink "OneOfTwoLaw" (178 : Nat) ({ cls := "OneOfTwo", name := "restore", desc := "()I" } : Jvm.MethodName)) ∈ TB := tb_5 (i := 72) rfl rfl
theorem tw_5_73 : (Jvm.Cond.instanceMethod ({ cls := "OneOfTwo", name := "restore", desc := "()I" } : Jvm.MethodName)) ∈ TB := tb_5 (i := 73) rfl rfl
theorem tw_5_74 : (Jvm.Cond.selects "OneOfTwo" ({ cls := "OneOfTwo", name := "restore", desc := "()I" } : Jvm.MethodName) ({ cls := "OneOfTwo", name := "restore", desc := "()I" } : Jvm.MethodName)) ∈ TB := tb_5 (i := 74) rfl rfl
theorem tw_5_75 : (Jvm.Cond.code ({ cls := "OneOfTwo", name := "restore", desc := "()I" } : Jvm.MethodName) prog_1_method_41_code (1 : Nat) (Option.some Jvm.ClassFile.FieldType.int)) ∈ TB := tb_5 (i := 75) rfl rfl
theorem tw_5_76 : (Jvm.Cond.methodLink "OneOfTwoLaw" (182 : Nat) ({ cls := "OneOfTwo", name := "tell", desc := "(I)I" } : Jvm.MethodName)) ∈ TB := tb_5 (i := 76) rfl rfl
theorem tw_5_77 : (Jvm.Cond.instanceMethod ({ cls := "OneOfTwo", name := "tell", desc := "(I)I" } : Jvm.MethodName)) ∈ TB := tb_5 (i := 77) rfl rfl
theorem tw_5_78 : (Jvm.Cond.selects "OneOfTwo" ({ cls := "OneOfTwo", name := "tell", desc := "(I)I" } : Jvm.MethodName) ({ cls := "OneOfTwo", name := "tell", desc := "(I)I" } : Jvm.MethodName)) ∈ TB := tb_5 (i := 78) rfl rfl
theorem tw_5_79 : (Jvm.Cond.code ({ cls := "OneOfTwo", name := "tell", desc := "(I)I" } : Jvm.MethodName) prog_1_method_42_code (2 : Nat) (Option.some Jvm.ClassFile.FieldType.int)) ∈ TB := tb_5 (i := 79) rfl rfl
theorem tw_5_80 : (Jvm.Cond.methodLink "OneOfTwoLaw" (186 : Nat) ({ cls := "OneOfTwo", name := "check", desc := "()I" } : Jvm.MethodName)) ∈ TB := tb_5 (i := 80) rfl rfl
theorem tw_5_81 : (Jvm.Cond.instanceMethod ({ cls := "OneOfTwo", name := "check", desc := "()I" } : Jvm.MethodName)) ∈ TB := tb_5 (i := 81) rfl rfl
theorem tw_5_82 : (Jvm.Cond.selects "OneOfTwo" ({ cls := "OneOfTwo", name := "check", desc := "()I" } : Jvm.MethodName) ({ cls := "OneOfTwo", name := "check", desc := "()I" } : Jvm.MethodName)) ∈ TB := tb_5 (i := 82) rfl rfl
theorem tw_5_83 : (Jvm.Cond.code ({ cls := "OneOfTwo", name := "check", desc := "()I" } : Jvm.MethodName) prog_1_method_43_code (3 : Nat) (Option.some Jvm.ClassFile.FieldType.int)) ∈ TB := tb_5 (i := 83) rfl rfl
theorem tw_5_84 : (Jvm.Cond.methodLink "OneOfTwoLaw" (190 : Nat) ({ cls := "OneOfTwo", name := "count", desc := "(I)I" } : Jvm.MethodName)) ∈ TB := tb_5 (i := 84) rfl rfl
theorem tw_5_85 : (Jvm.Cond.instanceMethod ({ cls := "OneOfTwo", name := "count", desc := "(I)I" } : Jvm.MethodName)) ∈ TB := tb_5 (i := 85) rfl rfl
theorem tw_5_86 : (Jvm.Cond.selects "OneOfTwo" ({ cls := "OneOfTwo", name := "count", desc := "(I)I" } : Jvm.MethodName) ({ cls := "OneOfTwo", name := "count", desc := "(I)I" } : Jvm.MethodName)) ∈ TB := tb_5 (i := 86) rfl rfl
theorem tw_5_87 : (Jvm.Cond.code ({ cls := "OneOfTwo", name := "count", desc := "(I)I" } : Jvm.MethodName) prog_1_method_44_code (2 : Nat) (Option.some Jvm.ClassFile.FieldType.int)) ∈ TB := tb_5 (i := 87) rfl rfl
theorem tw_5_88 : (Jvm.Cond.methodLink "OneOfTwoLaw" (194 : Nat) ({ cls := "OneOfTwo", name := "told", desc := "(I)I" } : Jvm.MethodName)) ∈ TB := tb_5 (i := 88) rfl rfl
theorem tw_5_89 : (Jvm.Cond.instanceMethod ({ cls := "OneOfTwo", name := "told", desc := "(I)I" } : Jvm.MethodName)) ∈ TB := tb_5 (i := 89) rfl rfl
theorem tw_5_90 : (Jvm.Cond.selects "OneOfTwo" ({ cls := "OneOfTwo", name := "told", desc := "(I)I" } : Jvm.MethodName) ({ cls := "OneOfTwo", name := "told", desc := "(I)I" } : Jvm.MethodName)) ∈ TB := tb_5 (i := 90) rfl rfl
theorem tw_5_91 : (Jvm.Cond.code ({ cls := "OneOfTwo", name := "told", desc := "(I)I" } : Jvm.MethodName) prog_1_method_45_code (2 : Nat) (Option.some Jvm.ClassFile.FieldType.int)) ∈ TB := tb_5 (i := 91) rfl rfl
theorem tw_5_92 : (Jvm.Cond.classLink "OneOfTwoLaw" (10 : Nat) "OneOfTwoModel") ∈ TB := tb_5 (i := 92) rfl rfl
theorem tw_5_93 : (Jvm.Cond.instantiable "OneOfTwoModel" (29 : Nat)) ∈ TB := tb_5 (i := 93) rfl rfl
theorem tw_5_94 : (Jvm.Cond.methodLink "OneOfTwoLaw" (12 : Nat) ({ cls := "OneOfTwoModel", name := "<init>", desc := "()V" } : Jvm.MethodName)) ∈ TB := tb_5 (i := 94) rfl rfl
theorem tw_5_95 : (Jvm.Cond.instanceMethod ({ cls := "OneOfTwoModel", name := "<init>", desc := "()V" } : Jvm.MethodName)) ∈ TB := tb_5 (i := 95) rfl rfl
theorem tw_5_96 : (Jvm.Cond.code ({ cls := "OneOfTwoModel", name := "<init>", desc := "()V" } : Jvm.MethodName) prog_14_method_1_code (1 : Nat) (Option.none : Option Jvm.ClassFile.FieldType)) ∈ TB := tb_5 (i := 96) rfl rfl
theorem tw_5_97 : (Jvm.Cond.methodLink "OneOfTwoModel" (1 : Nat) ({ cls := "java/lang/Object", name := "<init>", desc := "()V" } : Jvm.MethodName)) ∈ TB := tb_5 (i := 97) rfl rfl
theorem tw_5_98 : (Jvm.Cond.fieldLink "OneOfTwoModel" (7 : Nat) "OneOfTwoModel" "d" "[I") ∈ TB := tb_5 (i := 98) rfl rfl
theorem tw_5_99 : (Jvm.Cond.fieldLink "OneOfTwoModel" (13 : Nat) "OneOfTwoModel" "kept" "[I") ∈ TB := tb_5 (i := 99) rfl rfl
theorem tw_5_100 : (Jvm.Cond.fieldLink "OneOfTwoModel" (16 : Nat) "OneOfTwoModel" "aside" "[I") ∈ TB := tb_5 (i := 100) rfl rfl
theorem tw_5_101 : (Jvm.Cond.fieldLink "OneOfTwoModel" (308 : Nat) "OneOfTwoModel" "images" "I") ∈ TB := tb_5 (i := 101) rfl rfl
theorem tw_5_102 : (Jvm.Cond.fieldLink "OneOfTwoModel" (19 : Nat) "OneOfTwoModel" "found" "[I") ∈ TB := tb_5 (i := 102) rfl rfl
theorem tw_5_103 : (Jvm.Cond.fieldLink "OneOfTwoModel" (70 : Nat) "OneOfTwoModel" "base" "I") ∈ TB := tb_5 (i := 103) rfl rfl
theorem tw_5_104 : (Jvm.Cond.fieldLink "OneOfTwoModel" (60 : Nat) "OneOfTwoModel" "at" "I") ∈ TB := tb_5 (i := 104) rfl rfl
theorem tw_5_105 : (Jvm.Cond.fieldLink "OneOfTwoModel" (64 : Nat) "OneOfTwoModel" "size" "I") ∈ TB := tb_5 (i := 105) rfl rfl
theorem tw_5_106 : (Jvm.Cond.fieldLink "OneOfTwoModel" (67 : Nat) "OneOfTwoModel" "fault" "I") ∈ TB := tb_5 (i := 106) rfl rfl
theorem tw_5_107 : (Jvm.Cond.fieldLink "OneOfTwoModel" (100 : Nat) "OneOfTwoModel" "opened" "I") ∈ TB := tb_5 (i := 107) rfl rfl
theorem tw_5_108 : (Jvm.Cond.fieldLink "OneOfTwoModel" (77 : Nat) "OneOfTwoModel" "isCalm" "Z") ∈ TB := tb_5 (i := 108) rfl rfl
theorem tw_5_109 : (Jvm.Cond.fieldLink "OneOfTwoModel" (22 : Nat) "OneOfTwoModel" "names" "[I") ∈ TB := tb_5 (i := 109) rfl rfl
theorem tw_5_110 : (Jvm.Cond.fieldLink "OneOfTwoModel" (25 : Nat) "OneOfTwoModel" "opens" "[I") ∈ TB := tb_5 (i := 110) rfl rfl
theorem tw_5_111 : (Jvm.Cond.fieldLink "OneOfTwoModel" (28 : Nat) "OneOfTwoModel" "wasOpen" "[I") ∈ TB := tb_5 (i := 111) rfl rfl
theorem tw_5_112 : (Jvm.Cond.fieldLink "OneOfTwoModel" (31 : Nat) "OneOfTwoModel" "left" "[I") ∈ TB := tb_5 (i := 112) rfl rfl
theorem tw_5_113 : (Jvm.Cond.fieldLink "OneOfTwoModel" (34 : Nat) "OneOfTwoModel" "lastOf" "[I") ∈ TB := tb_5 (i := 113) rfl rfl
theorem tw_5_114 : (Jvm.Cond.fieldLink "OneOfTwoModel" (257 : Nat) "OneOfTwoModel" "standingsMany" "I") ∈ TB := tb_5 (i := 114) rfl rfl
theorem tw_5_115 : (Jvm.Cond.fieldLink "OneOfTwoModel" (251 : Nat) "OneOfTwoModel" "bestContent" "I") ∈ TB := tb_5 (i := 115) rfl rfl
theorem tw_5_116 : (Jvm.Cond.fieldLink "OneOfTwoModel" (248 : Nat) "OneOfTwoModel" "bestPulls" "I") ∈ TB := tb_5 (i := 116) rfl rfl
theorem tw_5_117 : (Jvm.Cond.fieldLink "OneOfTwoModel" (37 : Nat) "OneOfTwoModel" "bestRow" "[I") ∈ TB := tb_5 (i := 117) rfl rfl
theorem tw_5_118 : (Jvm.Cond.fieldLink "OneOfTwoModel" (271 : Nat) "OneOfTwoModel" "helpsTwo" "I") ∈ TB := tb_5 (i := 118) rfl rfl
theorem tw_5_119 : (Jvm.Cond.fieldLink "OneOfTwoModel" (274 : Nat) "OneOfTwoModel" "helpsMany" "I") ∈ TB := tb_5 (i := 119) rfl rfl
theorem tw_5_120 : (Jvm.Cond.fieldLink "OneOfTwoModel" (40 : Nat) "OneOfTwoModel" "traced" "[I") ∈ TB := tb_5 (i := 120) rfl rfl
theorem tw_5_121 : (Jvm.Cond.fieldLink "OneOfTwoModel" (283 : Nat) "OneOfTwoModel" "traceMany" "I") ∈ TB := tb_5 (i := 121) rfl rfl
theorem tw_5_122 : (Jvm.Cond.fieldLink "OneOfTwoModel" (286 : Nat) "OneOfTwoModel" "who" "I") ∈ TB := tb_5 (i := 122) rfl rfl
theorem tw_5_123 : (Jvm.Cond.fieldLink "OneOfTwoModel" (43 : Nat) "OneOfTwoModel" "bitsOf" "[I") ∈ TB := tb_5 (i := 123) rfl rfl
theorem tw_5_124 : (Jvm.Cond.fieldLink "OneOfTwoModel" (46 : Nat) "OneOfTwoModel" "sizeOf" "[I") ∈ TB := tb_5 (i := 124) rfl rfl
theorem tw_5_125 : (Jvm.Cond.fieldLink "OneOfTwoModel" (49 : Nat) "OneOfTwoModel" "number" "[I") ∈ TB := tb_5 (i := 125) rfl rfl
theorem tw_5_126 : (Jvm.Cond.fieldLink "OneOfTwoModel" (52 : Nat) "OneOfTwoModel" "lifted" "[I") ∈ TB := tb_5 (i := 126) rfl rfl
theorem tw_5_127 : (Jvm.Cond.laysFinal "OneOfTwoModel" "OneOfTwoModel" "d" "[I") ∈ TB := tb_5 (i := 127) rfl rfl
theorem tw_5_128 : (Jvm.Cond.soleField "OneOfTwoModel" "d") ∈ TB := tb_5 (i := 128) rfl rfl
theorem tw_5_129 : (Jvm.Cond.laysFinal "OneOfTwoModel" "OneOfTwoModel" "kept" "[I") ∈ TB := tb_5 (i := 129) rfl rfl
theorem tw_5_130 : (Jvm.Cond.soleField "OneOfTwoModel" "kept") ∈ TB := tb_5 (i := 130) rfl rfl
theorem tw_5_131 : (Jvm.Cond.laysFinal "OneOfTwoModel" "OneOfTwoModel" "aside" "[I") ∈ TB := tb_5 (i := 131) rfl rfl
theorem tw_5_132 : (Jvm.Cond.soleField "OneOfTwoModel" "aside") ∈ TB := tb_5 (i := 132) rfl rfl
theorem tw_5_133 : (Jvm.Cond.lays "OneOfTwoModel" "OneOfTwoModel" "images" "I") ∈ TB := tb_5 (i := 133) rfl rfl
theorem tw_5_134 : (Jvm.Cond.soleField "OneOfTwoModel" "images") ∈ TB := tb_5 (i := 134) rfl rfl
theorem tw_5_135 : (Jvm.Cond.laysFinal "OneOfTwoModel" "OneOfTwoModel" "found" "[I") ∈ TB := tb_5 (i := 135) rfl rfl
theorem tw_5_136 : (Jvm.Cond.soleField "OneOfTwoModel" "found") ∈ TB := tb_5 (i := 136) rfl rfl
theorem tw_5_137 : (Jvm.Cond.lays "OneOfTwoModel" "OneOfTwoModel" "base" "I") ∈ TB := tb_5 (i := 137) rfl rfl
theorem tw_5_138 : (Jvm.Cond.soleField "OneOfTwoModel" "base") ∈ TB := tb_5 (i := 138) rfl rfl
theorem tw_5_139 : (Jvm.Cond.lays "OneOfTwoModel" "OneOfTwoModel" "at" "I") ∈ TB := tb_5 (i := 139) rfl rfl
theorem tw_5_140 : (Jvm.Cond.soleField "OneOfTwoModel" "at") ∈ TB := tb_5 (i := 140) rfl rfl
theorem tw_5_141 : (Jvm.Cond.lays "OneOfTwoModel" "OneOfTwoModel" "size" "I") ∈ TB := tb_5 (i := 141) rfl rfl
theorem tw_5_142 : (Jvm.Cond.soleField "OneOfTwoModel" "size") ∈ TB := tb_5 (i := 142) rfl rfl
theorem tw_5_143 : (Jvm.Cond.lays "OneOfTwoModel" "OneOfTwoModel" "fault" "I") ∈ TB := tb_5 (i := 143) rfl rfl
theorem tw_5_144 : (Jvm.Cond.soleField "OneOfTwoModel" "fault") ∈ TB := tb_5 (i := 144) rfl rfl
theorem tw_5_145 : (Jvm.Cond.lays "OneOfTwoModel" "OneOfTwoModel" "opened" "I") ∈ TB := tb_5 (i := 145) rfl rfl
theorem tw_5_146 : (Jvm.Cond.soleField "OneOfTwoModel" "opened") ∈ TB := tb_5 (i := 146) rfl rfl
theorem tw_5_147 : (Jvm.Cond.lays "OneOfTwoModel" "OneOfTwoModel" "isCalm" "Z") ∈ TB := tb_5 (i := 147) rfl rfl
theorem tw_5_148 : (Jvm.Cond.soleField "OneOfTwoModel" "isCalm") ∈ TB := tb_5 (i := 148) rfl rfl
theorem tw_5_149 : (Jvm.Cond.laysFinal "OneOfTwoModel" "OneOfTwoModel" "names" "[I") ∈ TB := tb_5 (i := 149) rfl rfl
theorem tw_5_150 : (Jvm.Cond.soleField "OneOfTwoModel" "names") ∈ TB := tb_5 (i := 150) rfl rfl
theorem tw_5_151 : (Jvm.Cond.laysFinal "OneOfTwoModel" "OneOfTwoModel" "opens" "[I") ∈ TB := tb_5 (i := 151) rfl rfl
theorem tw_5_152 : (Jvm.Cond.soleField "OneOfTwoModel" "opens") ∈ TB := tb_5 (i := 152) rfl rfl
theorem tw_5_153 : (Jvm.Cond.laysFinal "OneOfTwoModel" "OneOfTwoModel" "wasOpen" "[I") ∈ TB := tb_5 (i := 153) rfl rfl
theorem tw_5_154 : (Jvm.Cond.soleField "OneOfTwoModel" "wasOpen") ∈ TB := tb_5 (i := 154) rfl rfl
theorem tw_5_155 : (Jvm.Cond.laysFinal "OneOfTwoModel" "OneOfTwoModel" "left" "[I") ∈ TB := tb_5 (i := 155) rfl rfl
theorem tw_5_156 : (Jvm.Cond.soleField "OneOfTwoModel" "left") ∈ TB := tb_5 (i := 156) rfl rfl
theorem tw_5_157 : (Jvm.Cond.laysFinal "OneOfTwoModel" "OneOfTwoModel" "lastOf" "[I") ∈ TB := tb_5 (i := 157) rfl rfl
theorem tw_5_158 : (Jvm.Cond.soleField "OneOfTwoModel" "lastOf") ∈ TB := tb_5 (i := 158) rfl rfl
theorem tw_5_159 : (Jvm.Cond.lays "OneOfTwoModel" "OneOfTwoModel" "standingsMany" "I") ∈ TB := tb_5 (i := 159) rfl rfl
theorem tw_5_160 : (Jvm.Cond.soleField "OneOfTwoModel" "standingsMany") ∈ TB := tb_5 (i := 160) rfl rfl
theorem tw_5_161 : (Jvm.Cond.lays "OneOfTwoModel" "OneOfTwoModel" "bestContent" "I") ∈ TB := tb_5 (i := 161) rfl rfl
theorem tw_5_162 : (Jvm.Cond.soleField "OneOfTwoModel" "bestContent") ∈ TB := tb_5 (i := 162) rfl rfl
theorem tw_5_163 : (Jvm.Cond.lays "OneOfTwoModel" "OneOfTwoModel" "bestPulls" "I") ∈ TB := tb_5 (i := 163) rfl rfl
theorem tw_5_164 : (Jvm.Cond.soleField "OneOfTwoModel" "bestPulls") ∈ TB := tb_5 (i := 164) rfl rfl
theorem tw_5_165 : (Jvm.Cond.laysFinal "OneOfTwoModel" "OneOfTwoModel" "bestRow" "[I") ∈ TB := tb_5 (i := 165) rfl rfl
theorem tw_5_166 : (Jvm.Cond.soleField "OneOfTwoModel" "bestRow") ∈ TB := tb_5 (i := 166) rfl rfl
theorem tw_5_167 : (Jvm.Cond.lays "OneOfTwoModel" "OneOfTwoModel" "helpsTwo" "I") ∈ TB := tb_5 (i := 167) rfl rfl
theorem tw_5_168 : (Jvm.Cond.soleField "OneOfTwoModel" "helpsTwo") ∈ TB := tb_5 (i := 168) rfl rfl
theorem tw_5_169 : (Jvm.Cond.lays "OneOfTwoModel" "OneOfTwoModel" "helpsMany" "I") ∈ TB := tb_5 (i := 169) rfl rfl
theorem tw_5_170 : (Jvm.Cond.soleField "OneOfTwoModel" "helpsMany") ∈ TB := tb_5 (i := 170) rfl rfl
theorem tw_5_171 : (Jvm.Cond.laysFinal "OneOfTwoModel" "OneOfTwoModel" "traced" "[I") ∈ TB := tb_5 (i := 171) rfl rfl
theorem tw_5_172 : (Jvm.Cond.soleField "OneOfTwoModel" "traced") ∈ TB := tb_5 (i := 172) rfl rfl
theorem tw_5_173 : (Jvm.Cond.lays "OneOfTwoModel" "OneOfTwoModel" "traceMany" "I") ∈ TB := tb_5 (i := 173) rfl rfl
theorem tw_5_174 : (Jvm.Cond.soleField "OneOfTwoModel" "traceMany") ∈ TB := tb_5 (i := 174) rfl rfl
theorem tw_5_175 : (Jvm.Cond.lays "OneOfTwoModel" "OneOfTwoModel" "who" "I") ∈ TB := tb_5 (i := 175) rfl rfl
theorem tw_5_176 : (Jvm.Cond.soleField "OneOfTwoModel" "who") ∈ TB := tb_5 (i := 176) rfl rfl
theorem tw_5_177 : (Jvm.Cond.laysFinal "OneOfTwoModel" "OneOfTwoModel" "bitsOf" "[I") ∈ TB := tb_5 (i := 177) rfl rfl
theorem tw_5_178 : (Jvm.Cond.soleField "OneOfTwoModel" "bitsOf") ∈ TB := tb_5 (i := 178) rfl rfl
theorem tw_5_179 : (Jvm.Cond.laysFinal "OneOfTwoModel" "OneOfTwoModel" "sizeOf" "[I") ∈ TB := tb_5 (i := 179) rfl rfl
theorem tw_5_180 : (Jvm.Cond.soleField "OneOfTwoModel" "sizeOf") ∈ TB := tb_5 (i := 180) rfl rfl
theorem tw_5_181 : (Jvm.Cond.laysFinal "OneOfTwoModel" "OneOfTwoModel" "number" "[I") ∈ TB := tb_5 (i := 181) rfl rfl
theorem tw_5_182 : (Jvm.Cond.soleField "OneOfTwoModel" "number") ∈ TB := tb_5 (i := 182) rfl rfl
theorem tw_5_183 : (Jvm.Cond.laysFinal "OneOfTwoModel" "OneOfTwoModel" "lifted" "[I") ∈ TB := tb_5 (i := 183) rfl rfl
theorem tw_5_184 : (Jvm.Cond.soleField "OneOfTwoModel" "lifted") ∈ TB := tb_5 (i := 184) rfl rfl
theorem tw_5_185 : (Jvm.Cond.superclass "OneOfTwoModel" "java/lang/Object") ∈ TB := tb_5 (i := 185) rfl rfl
theorem tw_5_186 : (Jvm.Cond.methodLink "OneOfTwoLaw" (86 : Nat) ({ cls := "OneOfTwoModel", name := "feed", desc := "(JI)I" } : Jvm.MethodName)) ∈ TB := tb_5 (i := 186) rfl rfl
theorem tw_5_187 : (Jvm.Cond.instanceMethod ({ cls := "OneOfTwoModel", name := "feed", desc := "(JI)I" } : Jvm.MethodName)) ∈ TB := tb_5 (i := 187) rfl rfl
theorem tw_5_188 : (Jvm.Cond.selects "OneOfTwoModel" ({ cls := "OneOfTwoModel", name := "feed", desc := "(JI)I" } : Jvm.MethodName) ({ cls := "OneOfTwoModel", name := "feed", desc := "(JI)I" } : Jvm.MethodName)) ∈ TB := tb_5 (i := 188) rfl rfl
theorem tw_5_189 : (Jvm.Cond.code ({ cls := "OneOfTwoModel", name := "feed", desc := "(JI)I" } : Jvm.MethodName) prog_14_method_25_code (5 : Nat) (Option.some Jvm.ClassFile.FieldType.int)) ∈ TB := tb_5 (i := 189) rfl rfl
theorem tw_5_190 : (Jvm.Cond.constantLong "OneOfTwoModel" (117 : Nat) (8 : Int64)) ∈ TB := tb_5 (i := 190) rfl rfl
theorem tw_5_191 : (Jvm.Cond.methodLink "OneOfTwoModel" (56 : Nat) ({ cls := "OneOfTwoModel", name := "in", desc := "(JJJ)Z" } : Jvm.MethodName)) ∈ TB := tb_5 (i := 191) rfl rfl
theorem tw_5_192 : (Jvm.Cond.static ({ cls := "OneOfTwoModel", name := "in", desc := "(JJJ)Z" } : Jvm.MethodName)) ∈ TB := tb_5 (i := 192) rfl rfl
theorem tw_5_193 : (Jvm.Cond.code ({ cls := "OneOfTwoModel", name := "in", desc := "(JJJ)Z" } : Jvm.MethodName) prog_14_method_4_code (6 : Nat) (Option.some Jvm.ClassFile.FieldType.boolean)) ∈ TB := tb_5 (i := 193) rfl rfl
theorem tw_5_194 : (Jvm.Cond.methodLink "OneOfTwoModel" (119 : Nat) ({ cls := "OneOfTwoModel", name := "finds", desc := "(I)I" } : Jvm.MethodName)) ∈ TB := tb_5 (i := 194) rfl rfl
theorem tw_5_196 : (Jvm.Cond.instanceMethod ({ cls := "OneOfTwoModel", name := "finds", desc := "(I)I" } : Jvm.MethodName)) ∈ TB := tb_5 (i := 196) rfl rfl
theorem tw_5_197 : (Jvm.Cond.code ({ cls := "OneOfTwoModel", name := "finds", desc := "(I)I" } : Jvm.MethodName) prog_14_method_3_code (2 : Nat) (Option.some Jvm.ClassFile.FieldType.int)) ∈ TB := tb_5 (i := 197) rfl rfl
theorem tw_5_198 : (Jvm.Cond.constant "OneOfTwoModel" (55 : Nat) (-1000000000 : Int32)) ∈ TB := tb_5 (i := 198) rfl rfl
theorem tw_5_199 : (Jvm.Cond.constantLong "OneOfTwoModel" (122 : Nat) (255 : Int64)) ∈ TB := tb_5 (i := 199) rfl rfl
theorem tw_5_200 : (Jvm.Cond.methodLink "OneOfTwoLaw" (90 : Nat) ({ cls := "OneOfTwoModel", name := "text", desc := "(I)I" } : Jvm.MethodName)) ∈ TB := tb_5 (i := 200) rfl rfl
theorem tw_5_201 : (Jvm.Cond.instanceMethod ({ cls := "OneOfTwoModel", name := "text", desc := "(I)I" } : Jvm.MethodName)) ∈ TB := tb_5 (i := 201) rfl rfl
theorem tw_5_202 : (Jvm.Cond.selects "OneOfTwoModel" ({ cls := "OneOfTwoModel", name := "text", desc := "(I)I" } : Jvm.MethodName) ({ cls := "OneOfTwoModel", name := "text", desc := "(I)I" } : Jvm.MethodName)) ∈ TB := tb_5 (i := 202) rfl rfl
theorem tw_5_203 : (Jvm.Cond.code ({ cls := "OneOfTwoModel", name := "text", desc := "(I)I" } : Jvm.MethodName) prog_14_method_26_code (5 : Nat) (Option.some Jvm.ClassFile.FieldType.int)) ∈ TB := tb_5 (i := 203) rfl rfl
theorem tw_5_204 : (Jvm.Cond.methodLink "OneOfTwoModel" (124 : Nat) ({ cls := "OneOfTwoModel", name := "worked", desc := "(III)I" } : Jvm.MethodName)) ∈ TB := tb_5 (i := 204) rfl rfl
theorem tw_5_206 : (Jvm.Cond.instanceMethod ({ cls := "OneOfTwoModel", name := "worked", desc := "(III)I" } : Jvm.MethodName)) ∈ TB := tb_5 (i := 206) rfl rfl
theorem tw_5_207 : (Jvm.Cond.code ({ cls := "OneOfTwoModel", name := "worked", desc := "(III)I" } : Jvm.MethodName) prog_14_method_24_code (5 : Nat) (Option.some Jvm.ClassFile.FieldType.int)) ∈ TB := tb_5 (i := 207) rfl rfl
theorem tw_5_208 : (Jvm.Cond.methodLink "OneOfTwoModel" (106 : Nat) ({ cls := "OneOfTwoModel", name := "either", desc := "()I" } : Jvm.MethodName)) ∈ TB := tb_5 (i := 208) rfl rfl
theorem tw_5_210 : (Jvm.Cond.instanceMethod ({ cls := "OneOfTwoModel", name := "either", desc := "()I" } : Jvm.MethodName)) ∈ TB := tb_5 (i := 210) rfl rfl
theorem tw_5_211 : (Jvm.Cond.code ({ cls := "OneOfTwoModel", name := "either", desc := "()I" } : Jvm.MethodName) prog_14_method_18_code (3 : Nat) (Option.some Jvm.ClassFile.FieldType.int)) ∈ TB := tb_5 (i := 211) rfl rfl
theorem tw_5_212 : (Jvm.Cond.methodLink "OneOfTwoModel" (81 : Nat) ({ cls := "OneOfTwoModel", name := "both", desc := "()I" } : Jvm.MethodName)) ∈ TB := tb_5 (i := 212) rfl rfl
theorem tw_5_214 : (Jvm.Cond.instanceMethod ({ cls := "OneOfTwoModel", name := "both", desc := "()I" } : Jvm.MethodName)) ∈ TB := tb_5 (i := 214) rfl rfl
theorem tw_5_215 : (Jvm.Cond.code ({ cls := "OneOfTwoModel", name := "both", desc := "()I" } : Jvm.MethodName) prog_14_method_19_code (3 : Nat) (Option.some Jvm.ClassFile.FieldType.int)) ∈ TB := tb_5 (i := 215) rfl rfl
theorem tw_5_216 : (Jvm.Cond.methodLink "OneOfTwoModel" (88 : Nat) ({ cls := "OneOfTwoModel", name := "compared", desc := "()I" } : Jvm.MethodName)) ∈ TB := tb_5 (i := 216) rfl rfl
theorem tw_5_218 : (Jvm.Cond.instanceMethod ({ cls := "OneOfTwoModel", name := "compared", desc := "()I" } : Jvm.MethodName)) ∈ TB := tb_5 (i := 218) rfl rfl
theorem tw_5_219 : (Jvm.Cond.code ({ cls := "OneOfTwoModel", name := "compared", desc := "()I" } : Jvm.MethodName) prog_14_method_20_code (4 : Nat) (Option.some Jvm.ClassFile.FieldType.int)) ∈ TB := tb_5 (i := 219) rfl rfl
theorem tw_5_220 : (Jvm.Cond.methodLink "OneOfTwoModel" (91 : Nat) ({ cls := "OneOfTwoModel", name := "sum", desc := "()I" } : Jvm.MethodName)) ∈ TB := tb_5 (i := 220) rfl rfl
theorem tw_5_222 : (Jvm.Cond.instanceMethod ({ cls := "OneOfTwoModel", name := "sum", desc := "()I" } : Jvm.MethodName)) ∈ TB := tb_5 (i := 222) rfl rfl
theorem tw_5_223 : (Jvm.Cond.code ({ cls := "OneOfTwoModel", name := "sum", desc := "()I" } : Jvm.MethodName) prog_14_method_21_code (4 : Nat) (Option.some Jvm.ClassFile.FieldType.int)) ∈ TB := tb_5 (i := 223) rfl rfl
theorem tw_5_224 : (Jvm.Cond.methodLink "OneOfTwoModel" (94 : Nat) ({ cls := "OneOfTwoModel", name := "product", desc := "()I" } : Jvm.MethodName)) ∈ TB := tb_5 (i := 224) rfl rfl
theorem tw_5_226 : (Jvm.Cond.instanceMethod ({ cls := "OneOfTwoModel", name := "product", desc := "()I" } : Jvm.MethodName)) ∈ TB := tb_5 (i := 226) rfl rfl
theorem tw_5_227 : (Jvm.Cond.code ({ cls := "OneOfTwoModel", name := "product", desc := "()I" } : Jvm.MethodName) prog_14_method_22_code (4 : Nat) (Option.some Jvm.ClassFile.FieldType.int)) ∈ TB := tb_5 (i := 227) rfl rfl
theorem tw_5_228 : (Jvm.Cond.methodLink "OneOfTwoModel" (97 : Nat) ({ cls := "OneOfTwoModel", name := "unit", desc := "()I" } : Jvm.MethodName)) ∈ TB := tb_5 (i := 228) rfl rfl
theorem tw_5_230 : (Jvm.Cond.instanceMethod ({ cls := "OneOfTwoModel", name := "unit", desc := "()I" } : Jvm.MethodName)) ∈ TB := tb_5 (i := 230) rfl rfl
theorem tw_5_231 : (Jvm.Cond.code ({ cls := "OneOfTwoModel", name := "unit", desc := "()I" } : Jvm.MethodName) prog_14_method_23_code (5 : Nat) (Option.some Jvm.ClassFile.FieldType.int)) ∈ TB := tb_5 (i := 231) rfl rfl
theorem tw_5_232 : (Jvm.Cond.methodLink "OneOfTwoModel" (73 : Nat) ({ cls := "OneOfTwoModel", name := "here", desc := "()I" } : Jvm.MethodName)) ∈ TB := tb_5 (i := 232) rfl rfl
theorem tw_5_234 : (Jvm.Cond.instanceMethod ({ cls := "OneOfTwoModel", name := "here", desc := "()I" } : Jvm.MethodName)) ∈ TB := tb_5 (i := 234) rfl rfl
theorem tw_5_235 : (Jvm.Cond.code ({ cls := "OneOfTwoModel", name := "here", desc := "()I" } : Jvm.MethodName) prog_14_method_14_code (1 : Nat) (Option.some Jvm.ClassFile.FieldType.int)) ∈ TB := tb_5 (i := 235) rfl rfl
theorem tw_5_236 : (Jvm.Cond.methodLink "OneOfTwoModel" (103 : Nat) ({ cls := "OneOfTwoModel", name := "wrong", desc := "()I" } : Jvm.MethodName)) ∈ TB := tb_5 (i := 236) rfl rfl
theorem tw_5_238 : (Jvm.Cond.instanceMethod ({ cls := "OneOfTwoModel", name := "wrong", desc := "()I" } : Jvm.MethodName)) ∈ TB := tb_5 (i := 238) rfl rfl
theorem tw_5_239 : (Jvm.Cond.code ({ cls := "OneOfTwoModel", name := "wrong", desc := "()I" } : Jvm.MethodName) prog_14_method_15_code (1 : Nat) (Option.some Jvm.ClassFile.FieldType.int)) ∈ TB := tb_5 (i := 239) rfl rfl
theorem tw_6_0 : (Jvm.Cond.methodLink "OneOfTwoModel" (84 : Nat) ({ cls := "OneOfTwoModel", name := "takes", desc := "(I)Z" } : Jvm.MethodName)) ∈ TB := tb_6 (i := 0) rfl rfl
theorem tw_6_2 : (Jvm.Cond.instanceMethod ({ cls := "OneOfTwoModel", name := "takes", desc := "(I)Z" } : Jvm.MethodName)) ∈ TB := tb_6 (i := 2) rfl rfl
theorem tw_6_3 : (Jvm.Cond.code ({ cls := "OneOfTwoModel", name := "takes", desc := "(I)Z" } : Jvm.MethodName) prog_14_method_16_code (2 : Nat) (Option.some Jvm.ClassFile.FieldType.boolean)) ∈ TB := tb_6 (i := 3) rfl rfl
theorem tw_6_4 : (Jvm.Cond.methodLink "OneOfTwoModel" (109 : Nat) ({ cls := "OneOfTwoModel", name := "nameOf", desc := "(I)I" } : Jvm.MethodName)) ∈ TB := tb_6 (i := 4) rfl rfl
theorem tw_6_6 : (Jvm.Cond.instanceMethod ({ cls := "OneOfTwoModel", name := "nameOf", desc := "(I)I" } : Jvm.MethodName)) ∈ TB := tb_6 (i := 6) rfl rfl
theorem tw_6_7 : (Jvm.Cond.code ({ cls := "OneOfTwoModel", name := "nameOf", desc := "(I)I" } : Jvm.MethodName) prog_14_method_17_code (2 : Nat) (Option.some Jvm.ClassFile.FieldType.int)) ∈ TB := tb_6 (i := 7) rfl rfl
theorem tw_6_8 : (Jvm.Cond.constantLong "OneOfTwoModel" (113 : Nat) (48 : Int64)) ∈ TB := tb_6 (i := 8) rfl rfl
theorem tw_6_9 : (Jvm.Cond.constantLong "OneOfTwoModel" (115 : Nat) (57 : Int64)) ∈ TB := tb_6 (i := 9) rfl rfl
theorem tw_6_10 : (Jvm.Cond.methodLink "OneOfTwoLaw" (95 : Nat) ({ cls := "OneOfTwoModel", name := "law", desc := "(IIII)I" } : Jvm.MethodName)) ∈ TB := tb_6 (i := 10) rfl rfl
theorem tw_6_11 : (Jvm.Cond.instanceMethod ({ cls := "OneOfTwoModel", name := "law", desc := "(IIII)I" } : Jvm.MethodName)) ∈ TB := tb_6 (i := 11) rfl rfl
theorem tw_6_12 : (Jvm.Cond.selects "OneOfTwoModel" ({ cls := "OneOfTwoModel", name := "law", desc := "(IIII)I" } : Jvm.MethodName) ({ cls := "OneOfTwoModel", name := "law", desc := "(IIII)I" } : Jvm.MethodName)) ∈ TB := tb_6 (i := 12) rfl rfl
theorem tw_6_13 : (Jvm.Cond.code ({ cls := "OneOfTwoModel", name := "law", desc := "(IIII)I" } : Jvm.MethodName) prog_14_method_28_code (5 : Nat) (Option.some Jvm.ClassFile.FieldType.int)) ∈ TB := tb_6 (i := 13) rfl rfl
theorem tw_6_14 : (Jvm.Cond.methodLink "OneOfTwoModel" (131 : Nat) ({ cls := "OneOfTwoModel", name := "textGives", desc := "(IIII)I" } : Jvm.MethodName)) ∈ TB := tb_6 (i := 14) rfl rfl
theorem tw_6_16 : (Jvm.Cond.instanceMethod ({ cls := "OneOfTwoModel", name := "textGives", desc := "(IIII)I" } : Jvm.MethodName)) ∈ TB := tb_6 (i := 16) rfl rfl
theorem tw_6_17 : (Jvm.Cond.code ({ cls := "OneOfTwoModel", name := "textGives", desc := "(IIII)I" } : Jvm.MethodName) prog_14_method_27_code (6 : Nat) (Option.some Jvm.ClassFile.FieldType.int)) ∈ TB := tb_6 (i := 17) rfl rfl
theorem tw_6_18 : (Jvm.Cond.methodLink "OneOfTwoModel" (128 : Nat) ({ cls := "OneOfTwoModel", name := "held", desc := "(III)I" } : Jvm.MethodName)) ∈ TB := tb_6 (i := 18) rfl rfl
theorem tw_6_19 : (Jvm.Cond.static ({ cls := "OneOfTwoModel", name := "held", desc := "(III)I" } : Jvm.MethodName)) ∈ TB := tb_6 (i := 19) rfl rfl
theorem tw_6_20 : (Jvm.Cond.code ({ cls := "OneOfTwoModel", name := "held", desc := "(III)I" } : Jvm.MethodName) prog_14_method_5_code (3 : Nat) (Option.some Jvm.ClassFile.FieldType.int)) ∈ TB := tb_6 (i := 20) rfl rfl
theorem tw_6_21 : (Jvm.Cond.methodLink "OneOfTwoLaw" (17 : Nat) ({ cls := "OneOfTwoModel", name := "window", desc := "(II)I" } : Jvm.MethodName)) ∈ TB := tb_6 (i := 21) rfl rfl
theorem tw_6_22 : (Jvm.Cond.instanceMethod ({ cls := "OneOfTwoModel", name := "window", desc := "(II)I" } : Jvm.MethodName)) ∈ TB := tb_6 (i := 22) rfl rfl
theorem tw_6_23 : (Jvm.Cond.selects "OneOfTwoModel" ({ cls := "OneOfTwoModel", name := "window", desc := "(II)I" } : Jvm.MethodName) ({ cls := "OneOfTwoModel", name := "window", desc := "(II)I" } : Jvm.MethodName)) ∈ TB := tb_6 (i := 23) rfl rfl
theorem tw_6_24 : (Jvm.Cond.code ({ cls := "OneOfTwoModel", name := "window", desc := "(II)I" } : Jvm.MethodName) prog_14_method_29_code (4 : Nat) (Option.some Jvm.ClassFile.FieldType.int)) ∈ TB := tb_6 (i := 24) rfl rfl
theorem tw_6_25 : (Jvm.Cond.constantLong "OneOfTwoModel" (135 : Nat) (9 : Int64)) ∈ TB := tb_6 (i := 25) rfl rfl
theorem tw_6_26 : (Jvm.Cond.methodLink "OneOfTwoModel" (137 : Nat) ({ cls := "OneOfTwoModel", name := "puts", desc := "(III)V" } : Jvm.MethodName)) ∈ TB := tb_6 (i := 26) rfl rfl
theorem tw_6_28 : (Jvm.Cond.instanceMethod ({ cls := "OneOfTwoModel", name := "puts", desc := "(III)V" } : Jvm.MethodName)) ∈ TB := tb_6 (i := 28) rfl rfl
theorem tw_6_29 : (Jvm.Cond.code ({ cls := "OneOfTwoModel", name := "puts", desc := "(III)V" } : Jvm.MethodName) prog_14_method_9_code (4 : Nat) (Option.none : Option Jvm.ClassFile.FieldType)) ∈ TB := tb_6 (i := 29) rfl rfl
theorem tw_6_30 : (Jvm.Cond.methodLink "OneOfTwoLaw" (22 : Nat) ({ cls := "OneOfTwoModel", name := "cord", desc := "(I)I" } : Jvm.MethodName)) ∈ TB := tb_6 (i := 30) rfl rfl
theorem tw_6_31 : (Jvm.Cond.instanceMethod ({ cls := "OneOfTwoModel", name := "cord", desc := "(I)I" } : Jvm.MethodName)) ∈ TB := tb_6 (i := 31) rfl rfl
theorem tw_6_32 : (Jvm.Cond.selects "OneOfTwoModel" ({ cls := "OneOfTwoModel", name := "cord", desc := "(I)I" } : Jvm.MethodName) ({ cls := "OneOfTwoModel", name := "cord", desc := "(I)I" } : Jvm.MethodName)) ∈ TB := tb_6 (i := 32) rfl rfl
theorem tw_6_33 : (Jvm.Cond.code ({ cls := "OneOfTwoModel", name := "cord", desc := "(I)I" } : Jvm.MethodName) prog_14_method_31_code (3 : Nat) (Option.some Jvm.ClassFile.FieldType.int)) ∈ TB := tb_6 (i := 33) rfl rfl
theorem tw_6_34 : (Jvm.Cond.methodLink "OneOfTwoModel" (141 : Nat) ({ cls := "OneOfTwoModel", name := "ones", desc := "(I)I" } : Jvm.MethodName)) ∈ TB := tb_6 (i := 34) rfl rfl
theorem tw_6_35 : (Jvm.Cond.static ({ cls := "OneOfTwoModel", name := "ones", desc := "(I)I" } : Jvm.MethodName)) ∈ TB := tb_6 (i := 35) rfl rfl
theorem tw_6_36 : (Jvm.Cond.code ({ cls := "OneOfTwoModel", name := "ones", desc := "(I)I" } : Jvm.MethodName) prog_14_method_30_code (3 : Nat) (Option.some Jvm.ClassFile.FieldType.int)) ∈ TB := tb_6 (i := 36) rfl rfl
theorem tw_6_37 : (Jvm.Cond.constantLong "OneOfTwoModel" (144 : Nat) (2 : Int64)) ∈ TB := tb_6 (i := 37) rfl rfl
theorem tw_6_38 : (Jvm.Cond.constantLong "OneOfTwoModel" (146 : Nat) (3 : Int64)) ∈ TB := tb_6 (i := 38) rfl rfl
theorem tw_6_39 : (Jvm.Cond.methodLink "OneOfTwoModel" (148 : Nat) ({ cls := "OneOfTwoModel", name := "its", desc := "(II)I" } : Jvm.MethodName)) ∈ TB := tb_6 (i := 39) rfl rfl
theorem tw_6_41 : (Jvm.Cond.instanceMethod ({ cls := "OneOfTwoModel", name := "its", desc := "(II)I" } : Jvm.MethodName)) ∈ TB := tb_6 (i := 41) rfl rfl
theorem tw_6_42 : (Jvm.Cond.code ({ cls := "OneOfTwoModel", name := "its", desc := "(II)I" } : Jvm.MethodName) prog_14_method_8_code (3 : Nat) (Option.some Jvm.ClassFile.FieldType.int)) ∈ TB := tb_6 (i := 42) rfl rfl
theorem tw_6_43 : (Jvm.Cond.methodLink "OneOfTwoLaw" (27 : Nat) ({ cls := "OneOfTwoModel", name := "drop", desc := "()I" } : Jvm.MethodName)) ∈ TB := tb_6 (i := 43) rfl rfl
theorem tw_6_44 : (Jvm.Cond.instanceMethod ({ cls := "OneOfTwoModel", name := "drop", desc := "()I" } : Jvm.MethodName)) ∈ TB := tb_6 (i := 44) rfl rfl
theorem tw_6_45 : (Jvm.Cond.selects "OneOfTwoModel" ({ cls := "OneOfTwoModel", name := "drop", desc := "()I" } : Jvm.MethodName) ({ cls := "OneOfTwoModel", name := "drop", desc := "()I" } : Jvm.MethodName)) ∈ TB := tb_6 (i := 45) rfl rfl
theorem tw_6_46 : (Jvm.Cond.code ({ cls := "OneOfTwoModel", name := "drop", desc := "()I" } : Jvm.MethodName) prog_14_method_32_code (2 : Nat) (Option.some Jvm.ClassFile.FieldType.int)) ∈ TB := tb_6 (i := 46) rfl rfl
theorem tw_6_47 : (Jvm.Cond.methodLink "OneOfTwoLaw" (31 : Nat) ({ cls := "OneOfTwoModel", name := "ofWindow", desc := "(II)I" } : Jvm.MethodName)) ∈ TB := tb_6 (i := 47) rfl rfl
theorem tw_6_48 : (Jvm.Cond.instanceMethod ({ cls := "OneOfTwoModel", name := "ofWindow", desc := "(II)I" } : Jvm.MethodName)) ∈ TB := tb_6 (i := 48) rfl rfl
theorem tw_6_49 : (Jvm.Cond.selects "OneOfTwoModel" ({ cls := "OneOfTwoModel", name := "ofWindow", desc := "(II)I" } : Jvm.MethodName) ({ cls := "OneOfTwoModel", name := "ofWindow", desc := "(II)I" } : Jvm.MethodName)) ∈ TB := tb_6 (i := 49) rfl rfl
theorem tw_6_50 : (Jvm.Cond.code ({ cls := "OneOfTwoModel", name := "ofWindow", desc := "(II)I" } : Jvm.MethodName) prog_14_method_33_code (3 : Nat) (Option.some Jvm.ClassFile.FieldType.int)) ∈ TB := tb_6 (i := 50) rfl rfl
theorem tw_6_51 : (Jvm.Cond.methodLink "OneOfTwoModel" (152 : Nat) ({ cls := "OneOfTwoModel", name := "isWindow", desc := "(I)Z" } : Jvm.MethodName)) ∈ TB := tb_6 (i := 51) rfl rfl
theorem tw_6_53 : (Jvm.Cond.instanceMethod ({ cls := "OneOfTwoModel", name := "isWindow", desc := "(I)Z" } : Jvm.MethodName)) ∈ TB := tb_6 (i := 53) rfl rfl
theorem tw_6_54 : (Jvm.Cond.code ({ cls := "OneOfTwoModel", name := "isWindow", desc := "(I)Z" } : Jvm.MethodName) prog_14_method_6_code (2 : Nat) (Option.some Jvm.ClassFile.FieldType.boolean)) ∈ TB := tb_6 (i := 54) rfl rfl
theorem tw_6_55 : (Jvm.Cond.methodLink "OneOfTwoLaw" (35 : Nat) ({ cls := "OneOfTwoModel", name := "ofCord", desc := "(II)I" } : Jvm.MethodName)) ∈ TB := tb_6 (i := 55) rfl rfl
theorem tw_6_56 : (Jvm.Cond.instanceMethod ({ cls := "OneOfTwoModel", name := "ofCord", desc := "(II)I" } : Jvm.MethodName)) ∈ TB := tb_6 (i := 56) rfl rfl
theorem tw_6_57 : (Jvm.Cond.selects "OneOfTwoModel" ({ cls := "OneOfTwoModel", name := "ofCord", desc := "(II)I" } : Jvm.MethodName) ({ cls := "OneOfTwoModel", name := "ofCord", desc := "(II)I" } : Jvm.MethodName)) ∈ TB := tb_6 (i := 57) rfl rfl
theorem tw_6_58 : (Jvm.Cond.code ({ cls := "OneOfTwoModel", name := "ofCord", desc := "(II)I" } : Jvm.MethodName) prog_14_method_36_code (3 : Nat) (Option.some Jvm.ClassFile.FieldType.int)) ∈ TB := tb_6 (i := 58) rfl rfl
theorem tw_6_59 : (Jvm.Cond.methodLink "OneOfTwoModel" (155 : Nat) ({ cls := "OneOfTwoModel", name := "windowsOf", desc := "(I)I" } : Jvm.MethodName)) ∈ TB := tb_6 (i := 59) rfl rfl
theorem tw_6_61 : (Jvm.Cond.instanceMethod ({ cls := "OneOfTwoModel", name := "windowsOf", desc := "(I)I" } : Jvm.MethodName)) ∈ TB := tb_6 (i := 61) rfl rfl
theorem tw_6_62 : (Jvm.Cond.code ({ cls := "OneOfTwoModel", name := "windowsOf", desc := "(I)I" } : Jvm.MethodName) prog_14_method_34_code (4 : Nat) (Option.some Jvm.ClassFile.FieldType.int)) ∈ TB := tb_6 (i := 62) rfl rfl
theorem tw_6_63 : (Jvm.Cond.methodLink "OneOfTwoModel" (158 : Nat) ({ cls := "OneOfTwoModel", name := "lengthOf", desc := "(I)I" } : Jvm.MethodName)) ∈ TB := tb_6 (i := 63) rfl rfl
theorem tw_6_65 : (Jvm.Cond.instanceMethod ({ cls := "OneOfTwoModel", name := "lengthOf", desc := "(I)I" } : Jvm.MethodName)) ∈ TB := tb_6 (i := 65) rfl rfl
theorem tw_6_66 : (Jvm.Cond.code ({ cls := "OneOfTwoModel", name := "lengthOf", desc := "(I)I" } : Jvm.MethodName) prog_14_method_35_code (4 : Nat) (Option.some Jvm.ClassFile.FieldType.int)) ∈ TB := tb_6 (i := 66) rfl rfl
theorem tw_6_67 : (Jvm.Cond.methodLink "OneOfTwoLaw" (39 : Nat) ({ cls := "OneOfTwoModel", name := "open", desc := "(II)I" } : Jvm.MethodName)) ∈ TB := tb_6 (i := 67) rfl rfl
theorem tw_6_68 : (Jvm.Cond.instanceMethod ({ cls := "OneOfTwoModel", name := "open", desc := "(II)I" } : Jvm.MethodName)) ∈ TB := tb_6 (i := 68) rfl rfl
theorem tw_6_69 : (Jvm.Cond.selects "OneOfTwoModel" ({ cls := "OneOfTwoModel", name := "open", desc := "(II)I" } : Jvm.MethodName) ({ cls := "OneOfTwoModel", name := "open", desc := "(II)I" } : Jvm.MethodName)) ∈ TB := tb_6 (i := 69) rfl rfl
theorem tw_6_70 : (Jvm.Cond.code ({ cls := "OneOfTwoModel", name := "open", desc := "(II)I" } : Jvm.MethodName) prog_14_method_37_code (4 : Nat) (Option.some Jvm.ClassFile.FieldType.int)) ∈ TB := tb_6 (i := 70) rfl rfl
theorem tw_6_71 : (Jvm.Cond.methodLink "OneOfTwoLaw" (43 : Nat) ({ cls := "OneOfTwoModel", name := "swell", desc := "(II)I" } : Jvm.MethodName)) ∈ TB := tb_6 (i := 71) rfl rfl
theorem tw_6_72 : (Jvm.Cond.instanceMethod ({ cls := "OneOfTwoModel", name := "swell", desc := "(II)I" } : Jvm.MethodName)) ∈ TB := tb_6 (i := 72) rfl rfl
theorem tw_6_73 : (Jvm.Cond.selects "OneOfTwoModel" ({ cls := "OneOfTwoModel", name := "swell", desc := "(II)I" } : Jvm.MethodName) ({ cls := "OneOfTwoModel", name := "swell", desc := "(II)I" } : Jvm.MethodName)) ∈ TB := tb_6 (i := 73) rfl rfl
theorem tw_6_74 : (Jvm.Cond.code ({ cls := "OneOfTwoModel", name := "swell", desc := "(II)I" } : Jvm.MethodName) prog_14_method_38_code (4 : Nat) (Option.some Jvm.ClassFile.FieldType.int)) ∈ TB := tb_6 (i := 74) rfl rfl
theorem tw_6_75 : (Jvm.Cond.methodLink "OneOfTwoLaw" (47 : Nat) ({ cls := "OneOfTwoModel", name := "pull", desc := "(II)I" } : Jvm.MethodName)) ∈ TB := tb_6 (i := 75) rfl rfl
theorem tw_6_76 : (Jvm.Cond.instanceMethod ({ cls := "OneOfTwoModel", name := "pull", desc := "(II)I" } : Jvm.MethodName)) ∈ TB := tb_6 (i := 76) rfl rfl
theorem tw_6_77 : (Jvm.Cond.selects "OneOfTwoModel" ({ cls := "OneOfTwoModel", name := "pull", desc := "(II)I" } : Jvm.MethodName) ({ cls := "OneOfTwoModel", name := "pull", desc := "(II)I" } : Jvm.MethodName)) ∈ TB := tb_6 (i := 77) rfl rfl
theorem tw_6_78 : (Jvm.Cond.code ({ cls := "OneOfTwoModel", name := "pull", desc := "(II)I" } : Jvm.MethodName) prog_14_method_42_code (3 : Nat) (Option.some Jvm.ClassFile.FieldType.int)) ∈ TB := tb_6 (i := 78) rfl rfl
theorem tw_6_79 : (Jvm.Cond.methodLink "OneOfTwoModel" (161 : Nat) ({ cls := "OneOfTwoModel", name := "isLocked", desc := "()Z" } : Jvm.MethodName)) ∈ TB := tb_6 (i := 79) rfl rfl
theorem tw_6_81 : (Jvm.Cond.instanceMethod ({ cls := "OneOfTwoModel", name := "isLocked", desc := "()Z" } : Jvm.MethodName)) ∈ TB := tb_6 (i := 81) rfl rfl
theorem tw_6_82 : (Jvm.Cond.code ({ cls := "OneOfTwoModel", name := "isLocked", desc := "()Z" } : Jvm.MethodName) prog_14_method_39_code (1 : Nat) (Option.some Jvm.ClassFile.FieldType.boolean)) ∈ TB := tb_6 (i := 82) rfl rfl
theorem tw_6_83 : (Jvm.Cond.methodLink "OneOfTwoModel" (165 : Nat) ({ cls := "OneOfTwoModel", name := "canPull", desc := "(II)Z" } : Jvm.MethodName)) ∈ TB := tb_6 (i := 83) rfl rfl
theorem tw_6_85 : (Jvm.Cond.instanceMethod ({ cls := "OneOfTwoModel", name := "canPull", desc := "(II)Z" } : Jvm.MethodName)) ∈ TB := tb_6 (i := 85) rfl rfl
theorem tw_6_86 : (Jvm.Cond.code ({ cls := "OneOfTwoModel", name := "canPull", desc := "(II)Z" } : Jvm.MethodName) prog_14_method_40_code (4 : Nat) (Option.some Jvm.ClassFile.FieldType.boolean)) ∈ TB := tb_6 (i := 86) rfl rfl
theorem tw_6_87 : (Jvm.Cond.methodLink "OneOfTwoModel" (169 : Nat) ({ cls := "OneOfTwoModel", name := "pulls", desc := "(II)V" } : Jvm.MethodName)) ∈ TB := tb_6 (i := 87) rfl rfl
theorem tw_6_89 : (Jvm.Cond.instanceMethod ({ cls := "OneOfTwoModel", name := "pulls", desc := "(II)V" } : Jvm.MethodName)) ∈ TB := tb_6 (i := 89) rfl rfl
theorem tw_6_90 : (Jvm.Cond.code ({ cls := "OneOfTwoModel", name := "pulls", desc := "(II)V" } : Jvm.MethodName) prog_14_method_41_code (3 : Nat) (Option.none : Option Jvm.ClassFile.FieldType)) ∈ TB := tb_6 (i := 90) rfl rfl
theorem tw_6_91 : (Jvm.Cond.methodLink "OneOfTwoLaw" (51 : Nat) ({ cls := "OneOfTwoModel", name := "swap", desc := "(II)I" } : Jvm.MethodName)) ∈ TB := tb_6 (i := 91) rfl rfl
theorem tw_6_92 : (Jvm.Cond.instanceMethod ({ cls := "OneOfTwoModel", name := "swap", desc := "(II)I" } : Jvm.MethodName)) ∈ TB := tb_6 (i := 92) rfl rfl
theorem tw_6_93 : (Jvm.Cond.selects "OneOfTwoModel" ({ cls := "OneOfTwoModel", name := "swap", desc := "(II)I" } : Jvm.MethodName) ({ cls := "OneOfTwoModel", name := "swap", desc := "(II)I" } : Jvm.MethodName)) ∈ TB := tb_6 (i := 93) rfl rfl
theorem tw_6_94 : (Jvm.Cond.code ({ cls := "OneOfTwoModel", name := "swap", desc := "(II)I" } : Jvm.MethodName) prog_14_method_44_code (3 : Nat) (Option.some Jvm.ClassFile.FieldType.int)) ∈ TB := tb_6 (i := 94) rfl rfl
theorem tw_6_95 : (Jvm.Cond.methodLink "OneOfTwoModel" (173 : Nat) ({ cls := "OneOfTwoModel", name := "swaps", desc := "(II)V" } : Jvm.MethodName)) ∈ TB := tb_6 (i := 95) rfl rfl
theorem tw_6_97 : (Jvm.Cond.instanceMethod ({ cls := "OneOfTwoModel", name := "swaps", desc := "(II)V" } : Jvm.MethodName)) ∈ TB := tb_6 (i := 97) rfl rfl
theorem tw_6_98 : (Jvm.Cond.code ({ cls := "OneOfTwoModel", name := "swaps", desc := "(II)V" } : Jvm.MethodName) prog_14_method_43_code (4 : Nat) (Option.none : Option Jvm.ClassFile.FieldType)) ∈ TB := tb_6 (i := 98) rfl rfl
theorem tw_6_99 : (Jvm.Cond.methodLink "OneOfTwoLaw" (55 : Nat) ({ cls := "OneOfTwoModel", name := "air", desc := "(I)I" } : Jvm.MethodName)) ∈ TB := tb_6 (i := 99) rfl rfl
theorem tw_6_100 : (Jvm.Cond.instanceMethod ({ cls := "OneOfTwoModel", name := "air", desc := "(I)I" } : Jvm.MethodName)) ∈ TB := tb_6 (i := 100) rfl rfl
theorem tw_6_101 : (Jvm.Cond.selects "OneOfTwoModel" ({ cls := "OneOfTwoModel", name := "air", desc := "(I)I" } : Jvm.MethodName) ({ cls := "OneOfTwoModel", name := "air", desc := "(I)I" } : Jvm.MethodName)) ∈ TB := tb_6 (i := 101) rfl rfl
theorem tw_6_102 : (Jvm.Cond.code ({ cls := "OneOfTwoModel", name := "air", desc := "(I)I" } : Jvm.MethodName) prog_14_method_47_code (2 : Nat) (Option.some Jvm.ClassFile.FieldType.int)) ∈ TB := tb_6 (i := 102) rfl rfl
theorem tw_6_103 : (Jvm.Cond.methodLink "OneOfTwoModel" (179 : Nat) ({ cls := "OneOfTwoModel", name := "airOf", desc := "(I)I" } : Jvm.MethodName)) ∈ TB := tb_6 (i := 103) rfl rfl
theorem tw_6_105 : (Jvm.Cond.instanceMethod ({ cls := "OneOfTwoModel", name := "airOf", desc := "(I)I" } : Jvm.MethodName)) ∈ TB := tb_6 (i := 105) rfl rfl
theorem tw_6_106 : (Jvm.Cond.code ({ cls := "OneOfTwoModel", name := "airOf", desc := "(I)I" } : Jvm.MethodName) prog_14_method_46_code (2 : Nat) (Option.some Jvm.ClassFile.FieldType.int)) ∈ TB := tb_6 (i := 106) rfl rfl
theorem tw_6_107 : (Jvm.Cond.methodLink "OneOfTwoModel" (176 : Nat) ({ cls := "OneOfTwoModel", name := "openIn", desc := "(I)I" } : Jvm.MethodName)) ∈ TB := tb_6 (i := 107) rfl rfl
theorem tw_6_109 : (Jvm.Cond.instanceMethod ({ cls := "OneOfTwoModel", name := "openIn", desc := "(I)I" } : Jvm.MethodName)) ∈ TB := tb_6 (i := 109) rfl rfl
theorem tw_6_110 : (Jvm.Cond.code ({ cls := "OneOfTwoModel", name := "openIn", desc := "(I)I" } : Jvm.MethodName) prog_14_method_45_code (4 : Nat) (Option.some Jvm.ClassFile.FieldType.int)) ∈ TB := tb_6 (i := 110) rfl rfl
theorem tw_6_111 : (Jvm.Cond.methodLink "OneOfTwoLaw" (59 : Nat) ({ cls := "OneOfTwoModel", name := "lodger", desc := "(II)I" } : Jvm.MethodName)) ∈ TB := tb_6 (i := 111) rfl rfl
theorem tw_6_112 : (Jvm.Cond.instanceMethod ({ cls := "OneOfTwoModel", name := "lodger", desc := "(II)I" } : Jvm.MethodName)) ∈ TB := tb_6 (i := 112) rfl rfl
theorem tw_6_113 : (Jvm.Cond.selects "OneOfTwoModel" ({ cls := "OneOfTwoModel", name := "lodger", desc := "(II)I" } : Jvm.MethodName) ({ cls := "OneOfTwoModel", name := "lodger", desc := "(II)I" } : Jvm.MethodName)) ∈ TB := tb_6 (i := 113) rfl rfl
theorem tw_6_114 : (Jvm.Cond.code ({ cls := "OneOfTwoModel", name := "lodger", desc := "(II)I" } : Jvm.MethodName) prog_14_method_53_code (4 : Nat) (Option.some Jvm.ClassFile.FieldType.int)) ∈ TB := tb_6 (i := 114) rfl rfl
theorem tw_6_115 : (Jvm.Cond.constantLong "OneOfTwoModel" (194 : Nat) (69 : Int64)) ∈ TB := tb_6 (i := 115) rfl rfl
theorem tw_6_116 : (Jvm.Cond.methodLink "OneOfTwoModel" (196 : Nat) ({ cls := "OneOfTwoModel", name := "sets", desc := "(III)V" } : Jvm.MethodName)) ∈ TB := tb_6 (i := 116) rfl rfl
theorem tw_6_118 : (Jvm.Cond.instanceMethod ({ cls := "OneOfTwoModel", name := "sets", desc := "(III)V" } : Jvm.MethodName)) ∈ TB := tb_6 (i := 118) rfl rfl
theorem tw_6_119 : (Jvm.Cond.code ({ cls := "OneOfTwoModel", name := "sets", desc := "(III)V" } : Jvm.MethodName) prog_14_method_11_code (4 : Nat) (Option.none : Option Jvm.ClassFile.FieldType)) ∈ TB := tb_6 (i := 119) rfl rfl
theorem tw_6_120 : (Jvm.Cond.methodLink "OneOfTwoLaw" (63 : Nat) ({ cls := "OneOfTwoModel", name := "ofLodger", desc := "(II)I" } : Jvm.MethodName)) ∈ TB := tb_6 (i := 120) rfl rfl
theorem tw_6_121 : (Jvm.Cond.instanceMethod ({ cls := "OneOfTwoModel", name := "ofLodger", desc := "(II)I" } : Jvm.MethodName)) ∈ TB := tb_6 (i := 121) rfl rfl
theorem tw_6_122 : (Jvm.Cond.selects "OneOfTwoModel" ({ cls := "OneOfTwoModel", name := "ofLodger", desc := "(II)I" } : Jvm.MethodName) ({ cls := "OneOfTwoModel", name := "ofLodger", desc := "(II)I" } : Jvm.MethodName)) ∈ TB := tb_6 (i := 122) rfl rfl
theorem tw_6_123 : (Jvm.Cond.code ({ cls := "OneOfTwoModel", name := "ofLodger", desc := "(II)I" } : Jvm.MethodName) prog_14_method_54_code (3 : Nat) (Option.some Jvm.ClassFile.FieldType.int)) ∈ TB := tb_6 (i := 123) rfl rfl
theorem tw_6_124 : (Jvm.Cond.methodLink "OneOfTwoModel" (199 : Nat) ({ cls := "OneOfTwoModel", name := "isLodger", desc := "(I)Z" } : Jvm.MethodName)) ∈ TB := tb_6 (i := 124) rfl rfl
theorem tw_6_126 : (Jvm.Cond.instanceMethod ({ cls := "OneOfTwoModel", name := "isLodger", desc := "(I)Z" } : Jvm.MethodName)) ∈ TB := tb_6 (i := 126) rfl rfl
theorem tw_6_127 : (Jvm.Cond.code ({ cls := "OneOfTwoModel", name := "isLodger", desc := "(I)Z" } : Jvm.MethodName) prog_14_method_7_code (2 : Nat) (Option.some Jvm.ClassFile.FieldType.boolean)) ∈ TB := tb_6 (i := 127) rfl rfl
theorem tw_6_128 : (Jvm.Cond.constantLong "OneOfTwoModel" (202 : Nat) (6 : Int64)) ∈ TB := tb_6 (i := 128) rfl rfl
theorem tw_6_129 : (Jvm.Cond.methodLink "OneOfTwoModel" (185 : Nat) ({ cls := "OneOfTwoModel", name := "leastOf", desc := "(I)I" } : Jvm.MethodName)) ∈ TB := tb_6 (i := 129) rfl rfl
theorem tw_6_131 : (Jvm.Cond.instanceMethod ({ cls := "OneOfTwoModel", name := "leastOf", desc := "(I)I" } : Jvm.MethodName)) ∈ TB := tb_6 (i := 131) rfl rfl
theorem tw_6_132 : (Jvm.Cond.code ({ cls := "OneOfTwoModel", name := "leastOf", desc := "(I)I" } : Jvm.MethodName) prog_14_method_48_code (2 : Nat) (Option.some Jvm.ClassFile.FieldType.int)) ∈ TB := tb_6 (i := 132) rfl rfl
theorem tw_6_133 : (Jvm.Cond.methodLink "OneOfTwoModel" (182 : Nat) ({ cls := "OneOfTwoModel", name := "of", desc := "(II)I" } : Jvm.MethodName)) ∈ TB := tb_6 (i := 133) rfl rfl
theorem tw_6_135 : (Jvm.Cond.instanceMethod ({ cls := "OneOfTwoModel", name := "of", desc := "(II)I" } : Jvm.MethodName)) ∈ TB := tb_6 (i := 135) rfl rfl
theorem tw_6_136 : (Jvm.Cond.code ({ cls := "OneOfTwoModel", name := "of", desc := "(II)I" } : Jvm.MethodName) prog_14_method_10_code (3 : Nat) (Option.some Jvm.ClassFile.FieldType.int)) ∈ TB := tb_6 (i := 136) rfl rfl
theorem tw_6_137 : (Jvm.Cond.methodLink "OneOfTwoModel" (188 : Nat) ({ cls := "OneOfTwoModel", name := "mostOf", desc := "(I)I" } : Jvm.MethodName)) ∈ TB := tb_6 (i := 137) rfl rfl
theorem tw_6_139 : (Jvm.Cond.instanceMethod ({ cls := "OneOfTwoModel", name := "mostOf", desc := "(I)I" } : Jvm.MethodName)) ∈ TB := tb_6 (i := 139) rfl rfl
theorem tw_6_140 : (Jvm.Cond.code ({ cls := "OneOfTwoModel", name := "mostOf", desc := "(I)I" } : Jvm.MethodName) prog_14_method_49_code (2 : Nat) (Option.some Jvm.ClassFile.FieldType.int)) ∈ TB := tb_6 (i := 140) rfl rfl
theorem tw_6_141 : (Jvm.Cond.methodLink "OneOfTwoModel" (204 : Nat) ({ cls := "OneOfTwoModel", name := "pullsOf", desc := "(I)I" } : Jvm.MethodName)) ∈ TB := tb_6 (i := 141) rfl rfl
theorem tw_6_143 : (Jvm.Cond.instanceMethod ({ cls := "OneOfTwoModel", name := "pullsOf", desc := "(I)I" } : Jvm.MethodName)) ∈ TB := tb_6 (i := 143) rfl rfl
theorem tw_6_144 : (Jvm.Cond.code ({ cls := "OneOfTwoModel", name := "pullsOf", desc := "(I)I" } : Jvm.MethodName) prog_14_method_50_code (2 : Nat) (Option.some Jvm.ClassFile.FieldType.int)) ∈ TB := tb_6 (i := 144) rfl rfl
theorem tw_6_145 : (Jvm.Cond.methodLink "OneOfTwoModel" (191 : Nat) ({ cls := "OneOfTwoModel", name := "isContent", desc := "(I)Z" } : Jvm.MethodName)) ∈ TB := tb_6 (i := 145) rfl rfl
theorem tw_6_147 : (Jvm.Cond.instanceMethod ({ cls := "OneOfTwoModel", name := "isContent", desc := "(I)Z" } : Jvm.MethodName)) ∈ TB := tb_6 (i := 147) rfl rfl
theorem tw_6_148 : (Jvm.Cond.code ({ cls := "OneOfTwoModel", name := "isContent", desc := "(I)Z" } : Jvm.MethodName) prog_14_method_51_code (6 : Nat) (Option.some Jvm.ClassFile.FieldType.boolean)) ∈ TB := tb_6 (i := 148) rfl rfl
theorem tw_6_149 : (Jvm.Cond.methodLink "OneOfTwoLaw" (67 : Nat) ({ cls := "OneOfTwoModel", name := "become", desc := "(II)I" } : Jvm.MethodName)) ∈ TB := tb_6 (i := 149) rfl rfl
theorem tw_6_150 : (Jvm.Cond.instanceMethod ({ cls := "OneOfTwoModel", name := "become", desc := "(II)I" } : Jvm.MethodName)) ∈ TB := tb_6 (i := 150) rfl rfl
theorem tw_6_151 : (Jvm.Cond.selects "OneOfTwoModel" ({ cls := "OneOfTwoModel", name := "become", desc := "(II)I" } : Jvm.MethodName) ({ cls := "OneOfTwoModel", name := "become", desc := "(II)I" } : Jvm.MethodName)) ∈ TB := tb_6 (i := 151) rfl rfl
theorem tw_6_152 : (Jvm.Cond.code ({ cls := "OneOfTwoModel", name := "become", desc := "(II)I" } : Jvm.MethodName) prog_14_method_55_code (4 : Nat) (Option.some Jvm.ClassFile.FieldType.int)) ∈ TB := tb_6 (i := 152) rfl rfl
theorem tw_6_153 : (Jvm.Cond.methodLink "OneOfTwoLaw" (71 : Nat) ({ cls := "OneOfTwoModel", name := "as", desc := "(II)I" } : Jvm.MethodName)) ∈ TB := tb_6 (i := 153) rfl rfl
theorem tw_6_154 : (Jvm.Cond.instanceMethod ({ cls := "OneOfTwoModel", name := "as", desc := "(II)I" } : Jvm.MethodName)) ∈ TB := tb_6 (i := 154) rfl rfl
theorem tw_6_155 : (Jvm.Cond.selects "OneOfTwoModel" ({ cls := "OneOfTwoModel", name := "as", desc := "(II)I" } : Jvm.MethodName) ({ cls := "OneOfTwoModel", name := "as", desc := "(II)I" } : Jvm.MethodName)) ∈ TB := tb_6 (i := 155) rfl rfl
theorem tw_6_156 : (Jvm.Cond.code ({ cls := "OneOfTwoModel", name := "as", desc := "(II)I" } : Jvm.MethodName) prog_14_method_57_code (4 : Nat) (Option.some Jvm.ClassFile.FieldType.int)) ∈ TB := tb_6 (i := 156) rfl rfl
theorem tw_6_157 : (Jvm.Cond.methodLink "OneOfTwoModel" (207 : Nat) ({ cls := "OneOfTwoModel", name := "above", desc := "(I)I" } : Jvm.MethodName)) ∈ TB := tb_6 (i := 157) rfl rfl
theorem tw_6_158 : (Jvm.Cond.static ({ cls := "OneOfTwoModel", name := "above", desc := "(I)I" } : Jvm.MethodName)) ∈ TB := tb_6 (i := 158) rfl rfl
theorem tw_6_159 : (Jvm.Cond.code ({ cls := "OneOfTwoModel", name := "above", desc := "(I)I" } : Jvm.MethodName) prog_14_method_56_code (1 : Nat) (Option.some Jvm.ClassFile.FieldType.int)) ∈ TB := tb_6 (i := 159) rfl rfl
theorem tw_6_160 : (Jvm.Cond.methodLink "OneOfTwoLaw" (75 : Nat) ({ cls := "OneOfTwoModel", name := "goes", desc := "(II)I" } : Jvm.MethodName)) ∈ TB := tb_6 (i := 160) rfl rfl
theorem tw_6_161 : (Jvm.Cond.instanceMethod ({ cls := "OneOfTwoModel", name := "goes", desc := "(II)I" } : Jvm.MethodName)) ∈ TB := tb_6 (i := 161) rfl rfl
theorem tw_6_162 : (Jvm.Cond.selects "OneOfTwoModel" ({ cls := "OneOfTwoModel", name := "goes", desc := "(II)I" } : Jvm.MethodName) ({ cls := "OneOfTwoModel", name := "goes", desc := "(II)I" } : Jvm.MethodName)) ∈ TB := tb_6 (i := 162) rfl rfl
theorem tw_6_163 : (Jvm.Cond.code ({ cls := "OneOfTwoModel", name := "goes", desc := "(II)I" } : Jvm.MethodName) prog_14_method_58_code (4 : Nat) (Option.some Jvm.ClassFile.FieldType.int)) ∈ TB := tb_6 (i := 163) rfl rfl
theorem tw_6_164 : (Jvm.Cond.methodLink "OneOfTwoLaw" (79 : Nat) ({ cls := "OneOfTwoModel", name := "content", desc := "()I" } : Jvm.MethodName)) ∈ TB := tb_6 (i := 164) rfl rfl
theorem tw_6_165 : (Jvm.Cond.instanceMethod ({ cls := "OneOfTwoModel", name := "content", desc := "()I" } : Jvm.MethodName)) ∈ TB := tb_6 (i := 165) rfl rfl
theorem tw_6_166 : (Jvm.Cond.selects "OneOfTwoModel" ({ cls := "OneOfTwoModel", name := "content", desc := "()I" } : Jvm.MethodName) ({ cls := "OneOfTwoModel", name := "content", desc := "()I" } : Jvm.MethodName)) ∈ TB := tb_6 (i := 166) rfl rfl
theorem tw_6_167 : (Jvm.Cond.code ({ cls := "OneOfTwoModel", name := "content", desc := "()I" } : Jvm.MethodName) prog_14_method_59_code (1 : Nat) (Option.some Jvm.ClassFile.FieldType.int)) ∈ TB := tb_6 (i := 167) rfl rfl
theorem tw_6_168 : (Jvm.Cond.methodLink "OneOfTwoModel" (210 : Nat) ({ cls := "OneOfTwoModel", name := "allContent", desc := "()I" } : Jvm.MethodName)) ∈ TB := tb_6 (i := 168) rfl rfl
theorem tw_6_170 : (Jvm.Cond.instanceMethod ({ cls := "OneOfTwoModel", name := "allContent", desc := "()I" } : Jvm.MethodName)) ∈ TB := tb_6 (i := 170) rfl rfl
theorem tw_6_171 : (Jvm.Cond.code ({ cls := "OneOfTwoModel", name := "allContent", desc := "()I" } : Jvm.MethodName) prog_14_method_52_code (3 : Nat) (Option.some Jvm.ClassFile.FieldType.int)) ∈ TB := tb_6 (i := 171) rfl rfl
theorem tw_6_172 : (Jvm.Cond.methodLink "OneOfTwoLaw" (99 : Nat) ({ cls := "OneOfTwoModel", name := "turn", desc := "(I)I" } : Jvm.MethodName)) ∈ TB := tb_6 (i := 172) rfl rfl
theorem tw_6_173 : (Jvm.Cond.instanceMethod ({ cls := "OneOfTwoModel", name := "turn", desc := "(I)I" } : Jvm.MethodName)) ∈ TB := tb_6 (i := 173) rfl rfl
theorem tw_6_174 : (Jvm.Cond.selects "OneOfTwoModel" ({ cls := "OneOfTwoModel", name := "turn", desc := "(I)I" } : Jvm.MethodName) ({ cls := "OneOfTwoModel", name := "turn", desc := "(I)I" } : Jvm.MethodName)) ∈ TB := tb_6 (i := 174) rfl rfl
theorem tw_6_175 : (Jvm.Cond.code ({ cls := "OneOfTwoModel", name := "turn", desc := "(I)I" } : Jvm.MethodName) prog_14_method_66_code (2 : Nat) (Option.some Jvm.ClassFile.FieldType.int)) ∈ TB := tb_6 (i := 175) rfl rfl
theorem tw_6_176 : (Jvm.Cond.methodLink "OneOfTwoModel" (219 : Nat) ({ cls := "OneOfTwoModel", name := "turnOf", desc := "(I)I" } : Jvm.MethodName)) ∈ TB := tb_6 (i := 176) rfl rfl
theorem tw_6_178 : (Jvm.Cond.instanceMethod ({ cls := "OneOfTwoModel", name := "turnOf", desc := "(I)I" } : Jvm.MethodName)) ∈ TB := tb_6 (i := 178) rfl rfl
theorem tw_6_179 : (Jvm.Cond.code ({ cls := "OneOfTwoModel", name := "turnOf", desc := "(I)I" } : Jvm.MethodName) prog_14_method_62_code (4 : Nat) (Option.some Jvm.ClassFile.FieldType.int)) ∈ TB := tb_6 (i := 179) rfl rfl
theorem tw_6_180 : (Jvm.Cond.methodLink "OneOfTwoModel" (216 : Nat) ({ cls := "OneOfTwoModel", name := "choice", desc := "(I)I" } : Jvm.MethodName)) ∈ TB := tb_6 (i := 180) rfl rfl
theorem tw_6_182 : (Jvm.Cond.instanceMethod ({ cls := "OneOfTwoModel", name := "choice", desc := "(I)I" } : Jvm.MethodName)) ∈ TB := tb_6 (i := 182) rfl rfl
theorem tw_6_183 : (Jvm.Cond.code ({ cls := "OneOfTwoModel", name := "choice", desc := "(I)I" } : Jvm.MethodName) prog_14_method_61_code (11 : Nat) (Option.some Jvm.ClassFile.FieldType.int)) ∈ TB := tb_6 (i := 183) rfl rfl
theorem tw_6_184 : (Jvm.Cond.methodLink "OneOfTwoModel" (213 : Nat) ({ cls := "OneOfTwoModel", name := "farOf", desc := "(I)I" } : Jvm.MethodName)) ∈ TB := tb_6 (i := 184) rfl rfl
theorem tw_6_186 : (Jvm.Cond.instanceMethod ({ cls := "OneOfTwoModel", name := "farOf", desc := "(I)I" } : Jvm.MethodName)) ∈ TB := tb_6 (i := 186) rfl rfl
theorem tw_6_187 : (Jvm.Cond.code ({ cls := "OneOfTwoModel", name := "farOf", desc := "(I)I" } : Jvm.MethodName) prog_14_method_60_code (3 : Nat) (Option.some Jvm.ClassFile.FieldType.int)) ∈ TB := tb_6 (i := 187) rfl rfl
theorem tw_6_188 : (Jvm.Cond.methodLink "OneOfTwoLaw" (103 : Nat) ({ cls := "OneOfTwoModel", name := "hours", desc := "(I)I" } : Jvm.MethodName)) ∈ TB := tb_6 (i := 188) rfl rfl
theorem tw_6_189 : (Jvm.Cond.instanceMethod ({ cls := "OneOfTwoModel", name := "hours", desc := "(I)I" } : Jvm.MethodName)) ∈ TB := tb_6 (i := 189) rfl rfl
theorem tw_6_190 : (Jvm.Cond.selects "OneOfTwoModel" ({ cls := "OneOfTwoModel", name := "hours", desc := "(I)I" } : Jvm.MethodName) ({ cls := "OneOfTwoModel", name := "hours", desc := "(I)I" } : Jvm.MethodName)) ∈ TB := tb_6 (i := 190) rfl rfl
theorem tw_6_191 : (Jvm.Cond.code ({ cls := "OneOfTwoModel", name := "hours", desc := "(I)I" } : Jvm.MethodName) prog_14_method_67_code (3 : Nat) (Option.some Jvm.ClassFile.FieldType.int)) ∈ TB := tb_6 (i := 191) rfl rfl
theorem tw_6_192 : (Jvm.Cond.constantLong "OneOfTwoModel" (229 : Nat) (100 : Int64)) ∈ TB := tb_6 (i := 192) rfl rfl
theorem tw_6_193 : (Jvm.Cond.methodLink "OneOfTwoModel" (231 : Nat) ({ cls := "OneOfTwoModel", name := "anHour", desc := "()V" } : Jvm.MethodName)) ∈ TB := tb_6 (i := 193) rfl rfl
theorem tw_6_195 : (Jvm.Cond.instanceMethod ({ cls := "OneOfTwoModel", name := "anHour", desc := "()V" } : Jvm.MethodName)) ∈ TB := tb_6 (i := 195) rfl rfl
theorem tw_6_196 : (Jvm.Cond.code ({ cls := "OneOfTwoModel", name := "anHour", desc := "()V" } : Jvm.MethodName) prog_14_method_64_code (2 : Nat) (Option.none : Option Jvm.ClassFile.FieldType)) ∈ TB := tb_6 (i := 196) rfl rfl
theorem tw_6_197 : (Jvm.Cond.methodLink "OneOfTwoModel" (222 : Nat) ({ cls := "OneOfTwoModel", name := "turnOfAll", desc := "()I" } : Jvm.MethodName)) ∈ TB := tb_6 (i := 197) rfl rfl
theorem tw_6_199 : (Jvm.Cond.instanceMethod ({ cls := "OneOfTwoModel", name := "turnOfAll", desc := "()I" } : Jvm.MethodName)) ∈ TB := tb_6 (i := 199) rfl rfl
theorem tw_6_200 : (Jvm.Cond.code ({ cls := "OneOfTwoModel", name := "turnOfAll", desc := "()I" } : Jvm.MethodName) prog_14_method_63_code (3 : Nat) (Option.some Jvm.ClassFile.FieldType.int)) ∈ TB := tb_6 (i := 200) rfl rfl
theorem tw_6_201 : (Jvm.Cond.methodLink "OneOfTwoModel" (225 : Nat) ({ cls := "OneOfTwoModel", name := "onesOf", desc := "(I)I" } : Jvm.MethodName)) ∈ TB := tb_6 (i := 201) rfl rfl
theorem tw_6_202 : (Jvm.Cond.static ({ cls := "OneOfTwoModel", name := "onesOf", desc := "(I)I" } : Jvm.MethodName)) ∈ TB := tb_6 (i := 202) rfl rfl
theorem tw_6_203 : (Jvm.Cond.code ({ cls := "OneOfTwoModel", name := "onesOf", desc := "(I)I" } : Jvm.MethodName) prog_14_method_65_code (1 : Nat) (Option.some Jvm.ClassFile.FieldType.int)) ∈ TB := tb_6 (i := 203) rfl rfl
theorem tw_6_204 : (Jvm.Cond.constant "OneOfTwoModel" (228 : Nat) (999999 : Int32)) ∈ TB := tb_6 (i := 204) rfl rfl
theorem tw_6_205 : (Jvm.Cond.methodLink "OneOfTwoLaw" (107 : Nat) ({ cls := "OneOfTwoModel", name := "loose", desc := "(I)I" } : Jvm.MethodName)) ∈ TB := tb_6 (i := 205) rfl rfl
theorem tw_6_206 : (Jvm.Cond.instanceMethod ({ cls := "OneOfTwoModel", name := "loose", desc := "(I)I" } : Jvm.MethodName)) ∈ TB := tb_6 (i := 206) rfl rfl
theorem tw_6_207 : (Jvm.Cond.selects "OneOfTwoModel" ({ cls := "OneOfTwoModel", name := "loose", desc := "(I)I" } : Jvm.MethodName) ({ cls := "OneOfTwoModel", name := "loose", desc := "(I)I" } : Jvm.MethodName)) ∈ TB := tb_6 (i := 207) rfl rfl
theorem tw_6_208 : (Jvm.Cond.code ({ cls := "OneOfTwoModel", name := "loose", desc := "(I)I" } : Jvm.MethodName) prog_14_method_69_code (5 : Nat) (Option.some Jvm.ClassFile.FieldType.int)) ∈ TB := tb_6 (i := 208) rfl rfl
theorem tw_6_209 : (Jvm.Cond.methodLink "OneOfTwoModel" (235 : Nat) ({ cls := "OneOfTwoModel", name := "drawn", desc := "()I" } : Jvm.MethodName)) ∈ TB := tb_6 (i := 209) rfl rfl
theorem tw_6_211 : (Jvm.Cond.instanceMethod ({ cls := "OneOfTwoModel", name := "drawn", desc := "()I" } : Jvm.MethodName)) ∈ TB := tb_6 (i := 211) rfl rfl
theorem tw_6_212 : (Jvm.Cond.code ({ cls := "OneOfTwoModel", name := "drawn", desc := "()I" } : Jvm.MethodName) prog_14_method_68_code (1 : Nat) (Option.some Jvm.ClassFile.FieldType.int)) ∈ TB := tb_6 (i := 212) rfl rfl
theorem tw_6_213 : (Jvm.Cond.constant "OneOfTwoModel" (234 : Nat) (1103515245 : Int32)) ∈ TB := tb_6 (i := 213) rfl rfl
theorem tw_6_214 : (Jvm.Cond.methodLink "OneOfTwoLaw" (111 : Nat) ({ cls := "OneOfTwoModel", name := "hour", desc := "(I)I" } : Jvm.MethodName)) ∈ TB := tb_6 (i := 214) rfl rfl
theorem tw_6_215 : (Jvm.Cond.instanceMethod ({ cls := "OneOfTwoModel", name := "hour", desc := "(I)I" } : Jvm.MethodName)) ∈ TB := tb_6 (i := 215) rfl rfl
theorem tw_6_216 : (Jvm.Cond.selects "OneOfTwoModel" ({ cls := "OneOfTwoModel", name := "hour", desc := "(I)I" } : Jvm.MethodName) ({ cls := "OneOfTwoModel", name := "hour", desc := "(I)I" } : Jvm.MethodName)) ∈ TB := tb_6 (i := 216) rfl rfl
theorem tw_6_217 : (Jvm.Cond.code ({ cls := "OneOfTwoModel", name := "hour", desc := "(I)I" } : Jvm.MethodName) prog_14_method_70_code (3 : Nat) (Option.some Jvm.ClassFile.FieldType.int)) ∈ TB := tb_6 (i := 217) rfl rfl
theorem tw_6_218 : (Jvm.Cond.constantLong "OneOfTwoModel" (238 : Nat) (23 : Int64)) ∈ TB := tb_6 (i := 218) rfl rfl
theorem tw_6_219 : (Jvm.Cond.methodLink "OneOfTwoLaw" (115 : Nat) ({ cls := "OneOfTwoModel", name := "lock", desc := "(II)I" } : Jvm.MethodName)) ∈ TB := tb_6 (i := 219) rfl rfl
theorem tw_6_220 : (Jvm.Cond.instanceMethod ({ cls := "OneOfTwoModel", name := "lock", desc := "(II)I" } : Jvm.MethodName)) ∈ TB := tb_6 (i := 220) rfl rfl
theorem tw_6_221 : (Jvm.Cond.selects "OneOfTwoModel" ({ cls := "OneOfTwoModel", name := "lock", desc := "(II)I" } : Jvm.MethodName) ({ cls := "OneOfTwoModel", name := "lock", desc := "(II)I" } : Jvm.MethodName)) ∈ TB := tb_6 (i := 221) rfl rfl
theorem tw_6_222 : (Jvm.Cond.code ({ cls := "OneOfTwoModel", name := "lock", desc := "(II)I" } : Jvm.MethodName) prog_14_method_71_code (3 : Nat) (Option.some Jvm.ClassFile.FieldType.int)) ∈ TB := tb_6 (i := 222) rfl rfl
theorem tw_6_223 : (Jvm.Cond.constantLong "OneOfTwoModel" (240 : Nat) (24 : Int64)) ∈ TB := tb_6 (i := 223) rfl rfl
theorem tw_6_224 : (Jvm.Cond.methodLink "OneOfTwoLaw" (119 : Nat) ({ cls := "OneOfTwoModel", name := "rests", desc := "()I" } : Jvm.MethodName)) ∈ TB := tb_6 (i := 224) rfl rfl
theorem tw_6_225 : (Jvm.Cond.instanceMethod ({ cls := "OneOfTwoModel", name := "rests", desc := "()I" } : Jvm.MethodName)) ∈ TB := tb_6 (i := 225) rfl rfl
theorem tw_6_226 : (Jvm.Cond.selects "OneOfTwoModel" ({ cls := "OneOfTwoModel", name := "rests", desc := "()I" } : Jvm.MethodName) ({ cls := "OneOfTwoModel", name := "rests", desc := "()I" } : Jvm.MethodName)) ∈ TB := tb_6 (i := 226) rfl rfl
theorem tw_6_227 : (Jvm.Cond.code ({ cls := "OneOfTwoModel", name := "rests", desc := "()I" } : Jvm.MethodName) prog_14_method_72_code (2 : Nat) (Option.some Jvm.ClassFile.FieldType.int)) ∈ TB := tb_6 (i := 227) rfl rfl
theorem tw_6_228 : (Jvm.Cond.methodLink "OneOfTwoModel" (242 : Nat) ({ cls := "OneOfTwoModel", name := "keepAside", desc := "()V" } : Jvm.MethodName)) ∈ TB := tb_6 (i := 228) rfl rfl
theorem tw_6_230 : (Jvm.Cond.instanceMethod ({ cls := "OneOfTwoModel", name := "keepAside", desc := "()V" } : Jvm.MethodName)) ∈ TB := tb_6 (i := 230) rfl rfl
theorem tw_6_231 : (Jvm.Cond.code ({ cls := "OneOfTwoModel", name := "keepAside", desc := "()V" } : Jvm.MethodName) prog_14_method_12_code (2 : Nat) (Option.none : Option Jvm.ClassFile.FieldType)) ∈ TB := tb_6 (i := 231) rfl rfl
theorem tw_6_232 : (Jvm.Cond.methodLink "OneOfTwoModel" (245 : Nat) ({ cls := "OneOfTwoModel", name := "putBack", desc := "()V" } : Jvm.MethodName)) ∈ TB := tb_6 (i := 232) rfl rfl
theorem tw_6_234 : (Jvm.Cond.instanceMethod ({ cls := "OneOfTwoModel", name := "putBack", desc := "()V" } : Jvm.MethodName)) ∈ TB := tb_6 (i := 234) rfl rfl
theorem tw_6_235 : (Jvm.Cond.code ({ cls := "OneOfTwoModel", name := "putBack", desc := "()V" } : Jvm.MethodName) prog_14_method_13_code (2 : Nat) (Option.none : Option Jvm.ClassFile.FieldType)) ∈ TB := tb_6 (i := 235) rfl rfl
theorem tw_6_236 : (Jvm.Cond.methodLink "OneOfTwoLaw" (123 : Nat) ({ cls := "OneOfTwoModel", name := "then", desc := "(II)I" } : Jvm.MethodName)) ∈ TB := tb_6 (i := 236) rfl rfl
theorem tw_6_237 : (Jvm.Cond.instanceMethod ({ cls := "OneOfTwoModel", name := "then", desc := "(II)I" } : Jvm.MethodName)) ∈ TB := tb_6 (i := 237) rfl rfl
theorem tw_6_238 : (Jvm.Cond.selects "OneOfTwoModel" ({ cls := "OneOfTwoModel", name := "then", desc := "(II)I" } : Jvm.MethodName) ({ cls := "OneOfTwoModel", name := "then", desc := "(II)I" } : Jvm.MethodName)) ∈ TB := tb_6 (i := 238) rfl rfl
theorem tw_6_239 : (Jvm.Cond.code ({ cls := "OneOfTwoModel", name := "then", desc := "(II)I" } : Jvm.MethodName) prog_14_method_73_code (4 : Nat) (Option.some Jvm.ClassFile.FieldType.int)) ∈ TB := tb_6 (i := 239) rfl rfl
theorem tw_7_0 : (Jvm.Cond.methodLink "OneOfTwoLaw" (127 : Nat) ({ cls := "OneOfTwoModel", name := "standings", desc := "()I" } : Jvm.MethodName)) ∈ TB := tb_7 (i := 0) rfl rfl
theorem tw_7_1 : (Jvm.Cond.instanceMethod ({ cls := "OneOfTwoModel", name := "standings", desc := "()I" } : Jvm.MethodName)) ∈ TB := tb_7 (i := 1) rfl rfl
theorem tw_7_2 : (Jvm.Cond.selects "OneOfTwoModel" ({ cls := "OneOfTwoModel", name := "standings", desc := "()I" } : Jvm.MethodName) ({ cls := "OneOfTwoModel", name := "standings", desc := "()I" } : Jvm.MethodName)) ∈ TB := tb_7 (i := 2) rfl rfl
theorem tw_7_3 : (Jvm.Cond.code ({ cls := "OneOfTwoModel", name := "standings", desc := "()I" } : Jvm.MethodName) prog_14_method_78_code (1 : Nat) (Option.some Jvm.ClassFile.FieldType.int)) ∈ TB := tb_7 (i := 3) rfl rfl
theorem tw_7_4 : (Jvm.Cond.methodLink "OneOfTwoModel" (267 : Nat) ({ cls := "OneOfTwoModel", name := "goThrough", desc := "(ZZ)V" } : Jvm.MethodName)) ∈ TB := tb_7 (i := 4) rfl rfl
theorem tw_7_6 : (Jvm.Cond.instanceMethod ({ cls := "OneOfTwoModel", name := "goThrough", desc := "(ZZ)V" } : Jvm.MethodName)) ∈ TB := tb_7 (i := 6) rfl rfl
theorem tw_7_7 : (Jvm.Cond.code ({ cls := "OneOfTwoModel", name := "goThrough", desc := "(ZZ)V" } : Jvm.MethodName) prog_14_method_77_code (4 : Nat) (Option.none : Option Jvm.ClassFile.FieldType)) ∈ TB := tb_7 (i := 7) rfl rfl
theorem tw_7_8 : (Jvm.Cond.methodLink "OneOfTwoModel" (254 : Nat) ({ cls := "OneOfTwoModel", name := "isLoose", desc := "(I)Z" } : Jvm.MethodName)) ∈ TB := tb_7 (i := 8) rfl rfl
theorem tw_7_10 : (Jvm.Cond.instanceMethod ({ cls := "OneOfTwoModel", name := "isLoose", desc := "(I)Z" } : Jvm.MethodName)) ∈ TB := tb_7 (i := 10) rfl rfl
theorem tw_7_11 : (Jvm.Cond.code ({ cls := "OneOfTwoModel", name := "isLoose", desc := "(I)Z" } : Jvm.MethodName) prog_14_method_74_code (2 : Nat) (Option.some Jvm.ClassFile.FieldType.boolean)) ∈ TB := tb_7 (i := 11) rfl rfl
theorem tw_7_12 : (Jvm.Cond.methodLink "OneOfTwoModel" (260 : Nat) ({ cls := "OneOfTwoModel", name := "looksAt", desc := "(Z)V" } : Jvm.MethodName)) ∈ TB := tb_7 (i := 12) rfl rfl
theorem tw_7_14 : (Jvm.Cond.instanceMethod ({ cls := "OneOfTwoModel", name := "looksAt", desc := "(Z)V" } : Jvm.MethodName)) ∈ TB := tb_7 (i := 14) rfl rfl
theorem tw_7_15 : (Jvm.Cond.code ({ cls := "OneOfTwoModel", name := "looksAt", desc := "(Z)V" } : Jvm.MethodName) prog_14_method_75_code (7 : Nat) (Option.none : Option Jvm.ClassFile.FieldType)) ∈ TB := tb_7 (i := 15) rfl rfl
theorem tw_7_16 : (Jvm.Cond.methodLink "OneOfTwoModel" (264 : Nat) ({ cls := "OneOfTwoModel", name := "nextOf", desc := "(I)Z" } : Jvm.MethodName)) ∈ TB := tb_7 (i := 16) rfl rfl
theorem tw_7_18 : (Jvm.Cond.instanceMethod ({ cls := "OneOfTwoModel", name := "nextOf", desc := "(I)Z" } : Jvm.MethodName)) ∈ TB := tb_7 (i := 18) rfl rfl
theorem tw_7_19 : (Jvm.Cond.code ({ cls := "OneOfTwoModel", name := "nextOf", desc := "(I)Z" } : Jvm.MethodName) prog_14_method_76_code (6 : Nat) (Option.some Jvm.ClassFile.FieldType.boolean)) ∈ TB := tb_7 (i := 19) rfl rfl
theorem tw_7_20 : (Jvm.Cond.methodLink "OneOfTwoLaw" (131 : Nat) ({ cls := "OneOfTwoModel", name := "fewest", desc := "(I)I" } : Jvm.MethodName)) ∈ TB := tb_7 (i := 20) rfl rfl
theorem tw_7_21 : (Jvm.Cond.instanceMethod ({ cls := "OneOfTwoModel", name := "fewest", desc := "(I)I" } : Jvm.MethodName)) ∈ TB := tb_7 (i := 21) rfl rfl
theorem tw_7_22 : (Jvm.Cond.selects "OneOfTwoModel" ({ cls := "OneOfTwoModel", name := "fewest", desc := "(I)I" } : Jvm.MethodName) ({ cls := "OneOfTwoModel", name := "fewest", desc := "(I)I" } : Jvm.MethodName)) ∈ TB := tb_7 (i := 22) rfl rfl
theorem tw_7_23 : (Jvm.Cond.code ({ cls := "OneOfTwoModel", name := "fewest", desc := "(I)I" } : Jvm.MethodName) prog_14_method_79_code (2 : Nat) (Option.some Jvm.ClassFile.FieldType.int)) ∈ TB := tb_7 (i := 23) rfl rfl
theorem tw_7_24 : (Jvm.Cond.methodLink "OneOfTwoLaw" (135 : Nat) ({ cls := "OneOfTwoModel", name := "most", desc := "(I)I" } : Jvm.MethodName)) ∈ TB := tb_7 (i := 24) rfl rfl
theorem tw_7_25 : (Jvm.Cond.instanceMethod ({ cls := "OneOfTwoModel", name := "most", desc := "(I)I" } : Jvm.MethodName)) ∈ TB := tb_7 (i := 25) rfl rfl
theorem tw_7_26 : (Jvm.Cond.selects "OneOfTwoModel" ({ cls := "OneOfTwoModel", name := "most", desc := "(I)I" } : Jvm.MethodName) ({ cls := "OneOfTwoModel", name := "most", desc := "(I)I" } : Jvm.MethodName)) ∈ TB := tb_7 (i := 26) rfl rfl
theorem tw_7_27 : (Jvm.Cond.code ({ cls := "OneOfTwoModel", name := "most", desc := "(I)I" } : Jvm.MethodName) prog_14_method_80_code (2 : Nat) (Option.some Jvm.ClassFile.FieldType.int)) ∈ TB := tb_7 (i := 27) rfl rfl
theorem tw_7_28 : (Jvm.Cond.methodLink "OneOfTwoLaw" (139 : Nat) ({ cls := "OneOfTwoModel", name := "helps", desc := "(I)I" } : Jvm.MethodName)) ∈ TB := tb_7 (i := 28) rfl rfl
theorem tw_7_29 : (Jvm.Cond.instanceMethod ({ cls := "OneOfTwoModel", name := "helps", desc := "(I)I" } : Jvm.MethodName)) ∈ TB := tb_7 (i := 29) rfl rfl
theorem tw_7_30 : (Jvm.Cond.selects "OneOfTwoModel" ({ cls := "OneOfTwoModel", name := "helps", desc := "(I)I" } : Jvm.MethodName) ({ cls := "OneOfTwoModel", name := "helps", desc := "(I)I" } : Jvm.MethodName)) ∈ TB := tb_7 (i := 30) rfl rfl
theorem tw_7_31 : (Jvm.Cond.code ({ cls := "OneOfTwoModel", name := "helps", desc := "(I)I" } : Jvm.MethodName) prog_14_method_82_code (2 : Nat) (Option.some Jvm.ClassFile.FieldType.int)) ∈ TB := tb_7 (i := 31) rfl rfl
theorem tw_7_32 : (Jvm.Cond.methodLink "OneOfTwoModel" (277 : Nat) ({ cls := "OneOfTwoModel", name := "findHelps", desc := "()V" } : Jvm.MethodName)) ∈ TB := tb_7 (i := 32) rfl rfl
theorem tw_7_34 : (Jvm.Cond.instanceMethod ({ cls := "OneOfTwoModel", name := "findHelps", desc := "()V" } : Jvm.MethodName)) ∈ TB := tb_7 (i := 34) rfl rfl
theorem tw_7_35 : (Jvm.Cond.code ({ cls := "OneOfTwoModel", name := "findHelps", desc := "()V" } : Jvm.MethodName) prog_14_method_81_code (5 : Nat) (Option.none : Option Jvm.ClassFile.FieldType)) ∈ TB := tb_7 (i := 35) rfl rfl
theorem tw_7_36 : (Jvm.Cond.methodLink "OneOfTwoLaw" (143 : Nat) ({ cls := "OneOfTwoModel", name := "who", desc := "(I)I" } : Jvm.MethodName)) ∈ TB := tb_7 (i := 36) rfl rfl
theorem tw_7_37 : (Jvm.Cond.instanceMethod ({ cls := "OneOfTwoModel", name := "who", desc := "(I)I" } : Jvm.MethodName)) ∈ TB := tb_7 (i := 37) rfl rfl
theorem tw_7_38 : (Jvm.Cond.selects "OneOfTwoModel" ({ cls := "OneOfTwoModel", name := "who", desc := "(I)I" } : Jvm.MethodName) ({ cls := "OneOfTwoModel", name := "who", desc := "(I)I" } : Jvm.MethodName)) ∈ TB := tb_7 (i := 38) rfl rfl
theorem tw_7_39 : (Jvm.Cond.code ({ cls := "OneOfTwoModel", name := "who", desc := "(I)I" } : Jvm.MethodName) prog_14_method_83_code (6 : Nat) (Option.some Jvm.ClassFile.FieldType.int)) ∈ TB := tb_7 (i := 39) rfl rfl
theorem tw_7_40 : (Jvm.Cond.methodLink "OneOfTwoModel" (280 : Nat) ({ cls := "OneOfTwoModel", name := "isSheet", desc := "(I)Z" } : Jvm.MethodName)) ∈ TB := tb_7 (i := 40) rfl rfl
theorem tw_7_41 : (Jvm.Cond.static ({ cls := "OneOfTwoModel", name := "isSheet", desc := "(I)Z" } : Jvm.MethodName)) ∈ TB := tb_7 (i := 41) rfl rfl
theorem tw_7_42 : (Jvm.Cond.code ({ cls := "OneOfTwoModel", name := "isSheet", desc := "(I)Z" } : Jvm.MethodName) prog_14_method_93_code (1 : Nat) (Option.some Jvm.ClassFile.FieldType.boolean)) ∈ TB := tb_7 (i := 42) rfl rfl
theorem tw_7_43 : (Jvm.Cond.methodLink "OneOfTwoLaw" (147 : Nat) ({ cls := "OneOfTwoModel", name := "seed", desc := "(I)I" } : Jvm.MethodName)) ∈ TB := tb_7 (i := 43) rfl rfl
theorem tw_7_44 : (Jvm.Cond.instanceMethod ({ cls := "OneOfTwoModel", name := "seed", desc := "(I)I" } : Jvm.MethodName)) ∈ TB := tb_7 (i := 44) rfl rfl
theorem tw_7_45 : (Jvm.Cond.selects "OneOfTwoModel" ({ cls := "OneOfTwoModel", name := "seed", desc := "(I)I" } : Jvm.MethodName) ({ cls := "OneOfTwoModel", name := "seed", desc := "(I)I" } : Jvm.MethodName)) ∈ TB := tb_7 (i := 45) rfl rfl
theorem tw_7_46 : (Jvm.Cond.code ({ cls := "OneOfTwoModel", name := "seed", desc := "(I)I" } : Jvm.MethodName) prog_14_method_84_code (3 : Nat) (Option.some Jvm.ClassFile.FieldType.int)) ∈ TB := tb_7 (i := 46) rfl rfl
theorem tw_7_47 : (Jvm.Cond.methodLink "OneOfTwoLaw" (152 : Nat) ({ cls := "OneOfTwoModel", name := "voice", desc := "(III)I" } : Jvm.MethodName)) ∈ TB := tb_7 (i := 47) rfl rfl
theorem tw_7_48 : (Jvm.Cond.instanceMethod ({ cls := "OneOfTwoModel", name := "voice", desc := "(III)I" } : Jvm.MethodName)) ∈ TB := tb_7 (i := 48) rfl rfl
theorem tw_7_49 : (Jvm.Cond.selects "OneOfTwoModel" ({ cls := "OneOfTwoModel", name := "voice", desc := "(III)I" } : Jvm.MethodName) ({ cls := "OneOfTwoModel", name := "voice", desc := "(III)I" } : Jvm.MethodName)) ∈ TB := tb_7 (i := 49) rfl rfl
theorem tw_7_50 : (Jvm.Cond.code ({ cls := "OneOfTwoModel", name := "voice", desc := "(III)I" } : Jvm.MethodName) prog_14_method_91_code (5 : Nat) (Option.some Jvm.ClassFile.FieldType.int)) ∈ TB := tb_7 (i := 50) rfl rfl
theorem tw_7_51 : (Jvm.Cond.methodLink "OneOfTwoModel" (296 : Nat) ({ cls := "OneOfTwoModel", name := "own", desc := "()I" } : Jvm.MethodName)) ∈ TB := tb_7 (i := 51) rfl rfl
theorem tw_7_53 : (Jvm.Cond.instanceMethod ({ cls := "OneOfTwoModel", name := "own", desc := "()I" } : Jvm.MethodName)) ∈ TB := tb_7 (i := 53) rfl rfl
theorem tw_7_54 : (Jvm.Cond.code ({ cls := "OneOfTwoModel", name := "own", desc := "()I" } : Jvm.MethodName) prog_14_method_86_code (1 : Nat) (Option.some Jvm.ClassFile.FieldType.int)) ∈ TB := tb_7 (i := 54) rfl rfl
theorem tw_7_55 : (Jvm.Cond.methodLink "OneOfTwoModel" (293 : Nat) ({ cls := "OneOfTwoModel", name := "wakesBy", desc := "(II)I" } : Jvm.MethodName)) ∈ TB := tb_7 (i := 55) rfl rfl
theorem tw_7_57 : (Jvm.Cond.instanceMethod ({ cls := "OneOfTwoModel", name := "wakesBy", desc := "(II)I" } : Jvm.MethodName)) ∈ TB := tb_7 (i := 57) rfl rfl
theorem tw_7_58 : (Jvm.Cond.code ({ cls := "OneOfTwoModel", name := "wakesBy", desc := "(II)I" } : Jvm.MethodName) prog_14_method_87_code (3 : Nat) (Option.some Jvm.ClassFile.FieldType.int)) ∈ TB := tb_7 (i := 58) rfl rfl
theorem tw_7_59 : (Jvm.Cond.methodLink "OneOfTwoModel" (289 : Nat) ({ cls := "OneOfTwoModel", name := "ran", desc := "(I)V" } : Jvm.MethodName)) ∈ TB := tb_7 (i := 59) rfl rfl
theorem tw_7_61 : (Jvm.Cond.instanceMethod ({ cls := "OneOfTwoModel", name := "ran", desc := "(I)V" } : Jvm.MethodName)) ∈ TB := tb_7 (i := 61) rfl rfl
theorem tw_7_62 : (Jvm.Cond.code ({ cls := "OneOfTwoModel", name := "ran", desc := "(I)V" } : Jvm.MethodName) prog_14_method_85_code (2 : Nat) (Option.none : Option Jvm.ClassFile.FieldType)) ∈ TB := tb_7 (i := 62) rfl rfl
theorem tw_7_63 : (Jvm.Cond.methodLink "OneOfTwoModel" (299 : Nat) ({ cls := "OneOfTwoModel", name := "pullsBy", desc := "(II)I" } : Jvm.MethodName)) ∈ TB := tb_7 (i := 63) rfl rfl
theorem tw_7_65 : (Jvm.Cond.instanceMethod ({ cls := "OneOfTwoModel", name := "pullsBy", desc := "(II)I" } : Jvm.MethodName)) ∈ TB := tb_7 (i := 65) rfl rfl
theorem tw_7_66 : (Jvm.Cond.code ({ cls := "OneOfTwoModel", name := "pullsBy", desc := "(II)I" } : Jvm.MethodName) prog_14_method_88_code (4 : Nat) (Option.some Jvm.ClassFile.FieldType.int)) ∈ TB := tb_7 (i := 66) rfl rfl
theorem tw_7_67 : (Jvm.Cond.methodLink "OneOfTwoModel" (302 : Nat) ({ cls := "OneOfTwoModel", name := "shutsBy", desc := "(II)I" } : Jvm.MethodName)) ∈ TB := tb_7 (i := 67) rfl rfl
theorem tw_7_69 : (Jvm.Cond.instanceMethod ({ cls := "OneOfTwoModel", name := "shutsBy", desc := "(II)I" } : Jvm.MethodName)) ∈ TB := tb_7 (i := 69) rfl rfl
theorem tw_7_70 : (Jvm.Cond.code ({ cls := "OneOfTwoModel", name := "shutsBy", desc := "(II)I" } : Jvm.MethodName) prog_14_method_89_code (3 : Nat) (Option.some Jvm.ClassFile.FieldType.int)) ∈ TB := tb_7 (i := 70) rfl rfl
theorem tw_7_71 : (Jvm.Cond.methodLink "OneOfTwoModel" (305 : Nat) ({ cls := "OneOfTwoModel", name := "tellsBy", desc := "(II)I" } : Jvm.MethodName)) ∈ TB := tb_7 (i := 71) rfl rfl
theorem tw_7_73 : (Jvm.Cond.instanceMethod ({ cls := "OneOfTwoModel", name := "tellsBy", desc := "(II)I" } : Jvm.MethodName)) ∈ TB := tb_7 (i := 73) rfl rfl
theorem tw_7_74 : (Jvm.Cond.code ({ cls := "OneOfTwoModel", name := "tellsBy", desc := "(II)I" } : Jvm.MethodName) prog_14_method_90_code (4 : Nat) (Option.some Jvm.ClassFile.FieldType.int)) ∈ TB := tb_7 (i := 74) rfl rfl
theorem tw_7_75 : (Jvm.Cond.methodLink "OneOfTwoLaw" (156 : Nat) ({ cls := "OneOfTwoModel", name := "trace", desc := "(I)I" } : Jvm.MethodName)) ∈ TB := tb_7 (i := 75) rfl rfl
theorem tw_7_76 : (Jvm.Cond.instanceMethod ({ cls := "OneOfTwoModel", name := "trace", desc := "(I)I" } : Jvm.MethodName)) ∈ TB := tb_7 (i := 76) rfl rfl
theorem tw_7_77 : (Jvm.Cond.selects "OneOfTwoModel" ({ cls := "OneOfTwoModel", name := "trace", desc := "(I)I" } : Jvm.MethodName) ({ cls := "OneOfTwoModel", name := "trace", desc := "(I)I" } : Jvm.MethodName)) ∈ TB := tb_7 (i := 77) rfl rfl
theorem tw_7_78 : (Jvm.Cond.code ({ cls := "OneOfTwoModel", name := "trace", desc := "(I)I" } : Jvm.MethodName) prog_14_method_92_code (2 : Nat) (Option.some Jvm.ClassFile.FieldType.int)) ∈ TB := tb_7 (i := 78) rfl rfl
theorem tw_7_79 : (Jvm.Cond.methodLink "OneOfTwoLaw" (160 : Nat) ({ cls := "OneOfTwoModel", name := "sheet", desc := "(III)I" } : Jvm.MethodName)) ∈ TB := tb_7 (i := 79) rfl rfl
theorem tw_7_80 : (Jvm.Cond.instanceMethod ({ cls := "OneOfTwoModel", name := "sheet", desc := "(III)I" } : Jvm.MethodName)) ∈ TB := tb_7 (i := 80) rfl rfl
theorem tw_7_81 : (Jvm.Cond.selects "OneOfTwoModel" ({ cls := "OneOfTwoModel", name := "sheet", desc := "(III)I" } : Jvm.MethodName) ({ cls := "OneOfTwoModel", name := "sheet", desc := "(III)I" } : Jvm.MethodName)) ∈ TB := tb_7 (i := 81) rfl rfl
theorem tw_7_82 : (Jvm.Cond.code ({ cls := "OneOfTwoModel", name := "sheet", desc := "(III)I" } : Jvm.MethodName) prog_14_method_94_code (5 : Nat) (Option.some Jvm.ClassFile.FieldType.int)) ∈ TB := tb_7 (i := 82) rfl rfl
theorem tw_7_83 : (Jvm.Cond.methodLink "OneOfTwoLaw" (164 : Nat) ({ cls := "OneOfTwoModel", name := "put", desc := "(III)I" } : Jvm.MethodName)) ∈ TB := tb_7 (i := 83) rfl rfl
theorem tw_7_84 : (Jvm.Cond.instanceMethod ({ cls := "OneOfTwoModel", name := "put", desc := "(III)I" } : Jvm.MethodName)) ∈ TB := tb_7 (i := 84) rfl rfl
theorem tw_7_85 : (Jvm.Cond.selects "OneOfTwoModel" ({ cls := "OneOfTwoModel", name := "put", desc := "(III)I" } : Jvm.MethodName) ({ cls := "OneOfTwoModel", name := "put", desc := "(III)I" } : Jvm.MethodName)) ∈ TB := tb_7 (i := 85) rfl rfl
theorem tw_7_86 : (Jvm.Cond.code ({ cls := "OneOfTwoModel", name := "put", desc := "(III)I" } : Jvm.MethodName) prog_14_method_95_code (4 : Nat) (Option.some Jvm.ClassFile.FieldType.int)) ∈ TB := tb_7 (i := 86) rfl rfl
theorem tw_7_87 : (Jvm.Cond.methodLink "OneOfTwoLaw" (169 : Nat) ({ cls := "OneOfTwoModel", name := "move", desc := "(IIIII)I" } : Jvm.MethodName)) ∈ TB := tb_7 (i := 87) rfl rfl
theorem tw_7_88 : (Jvm.Cond.instanceMethod ({ cls := "OneOfTwoModel", name := "move", desc := "(IIIII)I" } : Jvm.MethodName)) ∈ TB := tb_7 (i := 88) rfl rfl
theorem tw_7_89 : (Jvm.Cond.selects "OneOfTwoModel" ({ cls := "OneOfTwoModel", name := "move", desc := "(IIIII)I" } : Jvm.MethodName) ({ cls := "OneOfTwoModel", name := "move", desc := "(IIIII)I" } : Jvm.MethodName)) ∈ TB := tb_7 (i := 89) rfl rfl
theorem tw_7_90 : (Jvm.Cond.code ({ cls := "OneOfTwoModel", name := "move", desc := "(IIIII)I" } : Jvm.MethodName) prog_14_method_96_code (7 : Nat) (Option.some Jvm.ClassFile.FieldType.int)) ∈ TB := tb_7 (i := 90) rfl rfl
theorem tw_7_91 : (Jvm.Cond.methodLink "OneOfTwoLaw" (173 : Nat) ({ cls := "OneOfTwoModel", name := "judge", desc := "(I)I" } : Jvm.MethodName)) ∈ TB := tb_7 (i := 91) rfl rfl
theorem tw_7_92 : (Jvm.Cond.instanceMethod ({ cls := "OneOfTwoModel", name := "judge", desc := "(I)I" } : Jvm.MethodName)) ∈ TB := tb_7 (i := 92) rfl rfl
theorem tw_7_93 : (Jvm.Cond.selects "OneOfTwoModel" ({ cls := "OneOfTwoModel", name := "judge", desc := "(I)I" } : Jvm.MethodName) ({ cls := "OneOfTwoModel", name := "judge", desc := "(I)I" } : Jvm.MethodName)) ∈ TB := tb_7 (i := 93) rfl rfl
theorem tw_7_94 : (Jvm.Cond.code ({ cls := "OneOfTwoModel", name := "judge", desc := "(I)I" } : Jvm.MethodName) prog_14_method_97_code (3 : Nat) (Option.some Jvm.ClassFile.FieldType.int)) ∈ TB := tb_7 (i := 94) rfl rfl
theorem tw_7_95 : (Jvm.Cond.methodLink "OneOfTwoLaw" (177 : Nat) ({ cls := "OneOfTwoModel", name := "image", desc := "()I" } : Jvm.MethodName)) ∈ TB := tb_7 (i := 95) rfl rfl
theorem tw_7_96 : (Jvm.Cond.instanceMethod ({ cls := "OneOfTwoModel", name := "image", desc := "()I" } : Jvm.MethodName)) ∈ TB := tb_7 (i := 96) rfl rfl
theorem tw_7_97 : (Jvm.Cond.selects "OneOfTwoModel" ({ cls := "OneOfTwoModel", name := "image", desc := "()I" } : Jvm.MethodName) ({ cls := "OneOfTwoModel", name := "image", desc := "()I" } : Jvm.MethodName)) ∈ TB := tb_7 (i := 97) rfl rfl
theorem tw_7_98 : (Jvm.Cond.code ({ cls := "OneOfTwoModel", name := "image", desc := "()I" } : Jvm.MethodName) prog_14_method_98_code (2 : Nat) (Option.some Jvm.ClassFile.FieldType.int)) ∈ TB := tb_7 (i := 98) rfl rfl
theorem tw_7_99 : (Jvm.Cond.methodLink "OneOfTwoLaw" (181 : Nat) ({ cls := "OneOfTwoModel", name := "restore", desc := "()I" } : Jvm.MethodName)) ∈ TB := tb_7 (i := 99) rfl rfl
theorem tw_7_100 : (Jvm.Cond.instanceMethod ({ cls := "OneOfTwoModel", name := "restore", desc := "()I" } : Jvm.MethodName)) ∈ TB := tb_7 (i := 100) rfl rfl
theorem tw_7_101 : (Jvm.Cond.selects "OneOfTwoModel" ({ cls := "OneOfTwoModel", name := "restore", desc := "()I" } : Jvm.MethodName) ({ cls := "OneOfTwoModel", name := "restore", desc := "()I" } : Jvm.MethodName)) ∈ TB := tb_7 (i := 101) rfl rfl
theorem tw_7_102 : (Jvm.Cond.code ({ cls := "OneOfTwoModel", name := "restore", desc := "()I" } : Jvm.MethodName) prog_14_method_99_code (2 : Nat) (Option.some Jvm.ClassFile.FieldType.int)) ∈ TB := tb_7 (i := 102) rfl rfl
theorem tw_7_103 : (Jvm.Cond.methodLink "OneOfTwoLaw" (185 : Nat) ({ cls := "OneOfTwoModel", name := "tell", desc := "(I)I" } : Jvm.MethodName)) ∈ TB := tb_7 (i := 103) rfl rfl
theorem tw_7_104 : (Jvm.Cond.instanceMethod ({ cls := "OneOfTwoModel", name := "tell", desc := "(I)I" } : Jvm.MethodName)) ∈ TB := tb_7 (i := 104) rfl rfl
theorem tw_7_105 : (Jvm.Cond.selects "OneOfTwoModel" ({ cls := "OneOfTwoModel", name := "tell", desc := "(I)I" } : Jvm.MethodName) ({ cls := "OneOfTwoModel", name := "tell", desc := "(I)I" } : Jvm.MethodName)) ∈ TB := tb_7 (i := 105) rfl rfl
theorem tw_7_106 : (Jvm.Cond.code ({ cls := "OneOfTwoModel", name := "tell", desc := "(I)I" } : Jvm.MethodName) prog_14_method_100_code (2 : Nat) (Option.some Jvm.ClassFile.FieldType.int)) ∈ TB := tb_7 (i := 106) rfl rfl
theorem tw_7_107 : (Jvm.Cond.methodLink "OneOfTwoLaw" (189 : Nat) ({ cls := "OneOfTwoModel", name := "check", desc := "()I" } : Jvm.MethodName)) ∈ TB := tb_7 (i := 107) rfl rfl
theorem tw_7_108 : (Jvm.Cond.instanceMethod ({ cls := "OneOfTwoModel", name := "check", desc := "()I" } : Jvm.MethodName)) ∈ TB := tb_7 (i := 108) rfl rfl
theorem tw_7_109 : (Jvm.Cond.selects "OneOfTwoModel" ({ cls := "OneOfTwoModel", name := "check", desc := "()I" } : Jvm.MethodName) ({ cls := "OneOfTwoModel", name := "check", desc := "()I" } : Jvm.MethodName)) ∈ TB := tb_7 (i := 109) rfl rfl
theorem tw_7_110 : (Jvm.Cond.code ({ cls := "OneOfTwoModel", name := "check", desc := "()I" } : Jvm.MethodName) prog_14_method_101_code (3 : Nat) (Option.some Jvm.ClassFile.FieldType.int)) ∈ TB := tb_7 (i := 110) rfl rfl
theorem tw_7_111 : (Jvm.Cond.methodLink "OneOfTwoLaw" (193 : Nat) ({ cls := "OneOfTwoModel", name := "count", desc := "(I)I" } : Jvm.MethodName)) ∈ TB := tb_7 (i := 111) rfl rfl
theorem tw_7_112 : (Jvm.Cond.instanceMethod ({ cls := "OneOfTwoModel", name := "count", desc := "(I)I" } : Jvm.MethodName)) ∈ TB := tb_7 (i := 112) rfl rfl
theorem tw_7_113 : (Jvm.Cond.selects "OneOfTwoModel" ({ cls := "OneOfTwoModel", name := "count", desc := "(I)I" } : Jvm.MethodName) ({ cls := "OneOfTwoModel", name := "count", desc := "(I)I" } : Jvm.MethodName)) ∈ TB := tb_7 (i := 113) rfl rfl
theorem tw_7_114 : (Jvm.Cond.code ({ cls := "OneOfTwoModel", name := "count", desc := "(I)I" } : Jvm.MethodName) prog_14_method_103_code (2 : Nat) (Option.some Jvm.ClassFile.FieldType.int)) ∈ TB := tb_7 (i := 114) rfl rfl
theorem tw_7_115 : (Jvm.Cond.methodLink "OneOfTwoModel" (311 : Nat) ({ cls := "OneOfTwoModel", name := "openOfAll", desc := "()I" } : Jvm.MethodName)) ∈ TB := tb_7 (i := 115) rfl rfl
theorem tw_7_117 : (Jvm.Cond.instanceMethod ({ cls := "OneOfTwoModel", name := "openOfAll", desc := "()I" } : Jvm.MethodName)) ∈ TB := tb_7 (i := 117) rfl rfl
theorem tw_7_118 : (Jvm.Cond.code ({ cls := "OneOfTwoModel", name := "openOfAll", desc := "()I" } : Jvm.MethodName) prog_14_method_102_code (3 : Nat) (Option.some Jvm.ClassFile.FieldType.int)) ∈ TB := tb_7 (i := 118) rfl rfl
theorem tw_7_119 : (Jvm.Cond.methodLink "OneOfTwoLaw" (197 : Nat) ({ cls := "OneOfTwoModel", name := "told", desc := "(I)I" } : Jvm.MethodName)) ∈ TB := tb_7 (i := 119) rfl rfl
theorem tw_7_120 : (Jvm.Cond.instanceMethod ({ cls := "OneOfTwoModel", name := "told", desc := "(I)I" } : Jvm.MethodName)) ∈ TB := tb_7 (i := 120) rfl rfl
theorem tw_7_121 : (Jvm.Cond.selects "OneOfTwoModel" ({ cls := "OneOfTwoModel", name := "told", desc := "(I)I" } : Jvm.MethodName) ({ cls := "OneOfTwoModel", name := "told", desc := "(I)I" } : Jvm.MethodName)) ∈ TB := tb_7 (i := 121) rfl rfl
theorem tw_7_122 : (Jvm.Cond.code ({ cls := "OneOfTwoModel", name := "told", desc := "(I)I" } : Jvm.MethodName) prog_14_method_104_code (2 : Nat) (Option.some Jvm.ClassFile.FieldType.int)) ∈ TB := tb_7 (i := 122) rfl rfl
theorem tw_7_123 : (Jvm.Cond.constantLong "OneOfTwoModel" (314 : Nat) (5 : Int64)) ∈ TB := tb_7 (i := 123) rfl rfl
theorem tw_7_124 : (Jvm.Cond.constantLong "OneOfTwoLaw" (80 : Nat) (4294967295 : Int64)) ∈ TB := tb_7 (i := 124) rfl rfl
theorem tw_7_125 : (Jvm.Cond.sameMethod "OneOfTwo$Cougher" "OneOfTwo$Cougher" "mostAir" "(I)I") ∈ TB := tb_7 (i := 125) rfl rfl
theorem tw_7_126 : (Jvm.Cond.sameMethod "OneOfTwo$Sleeper" "OneOfTwo$Sleeper" "pleased" "(ZI)Z") ∈ TB := tb_7 (i := 126) rfl rfl
theorem tw_7_127 : (Jvm.Cond.sameMethod "OneOfTwo$Cougher" "OneOfTwo$Cougher" "pulls" "(IIILOneOfTwo$Row;)I") ∈ TB := tb_7 (i := 127) rfl rfl
theorem tw_7_128 : (Jvm.Cond.sameMethod "OneOfTwo$Lodger" "OneOfTwo$Lodger" "shuts" "(IIILOneOfTwo$Row;)I") ∈ TB := tb_7 (i := 128) rfl rfl
theorem tw_7_129 : (Jvm.Cond.selects "OneOfTwo$Cougher" ({ cls := "OneOfTwo$Lodger", name := "shuts", desc := "(IIILOneOfTwo$Row;)I" } : Jvm.MethodName) ({ cls := "OneOfTwo$Lodger", name := "shuts", desc := "(IIILOneOfTwo$Row;)I" } : Jvm.MethodName)) ∈ TB := tb_7 (i := 129) rfl rfl
theorem tw_7_130 : (Jvm.Cond.selects "OneOfTwo$Fevered" ({ cls := "OneOfTwo$Lodger", name := "shuts", desc := "(IIILOneOfTwo$Row;)I" } : Jvm.MethodName) ({ cls := "OneOfTwo$Lodger", name := "shuts", desc := "(IIILOneOfTwo$Row;)I" } : Jvm.MethodName)) ∈ TB := tb_7 (i := 130) rfl rfl
theorem tw_7_131 : (Jvm.Cond.selects "OneOfTwo$Lodger" ({ cls := "OneOfTwo$Lodger", name := "shuts", desc := "(IIILOneOfTwo$Row;)I" } : Jvm.MethodName) ({ cls := "OneOfTwo$Lodger", name := "shuts", desc := "(IIILOneOfTwo$Row;)I" } : Jvm.MethodName)) ∈ TB := tb_7 (i := 131) rfl rfl
theorem tw_7_132 : (Jvm.Cond.selects "OneOfTwo$Sleeper" ({ cls := "OneOfTwo$Lodger", name := "shuts", desc := "(IIILOneOfTwo$Row;)I" } : Jvm.MethodName) ({ cls := "OneOfTwo$Sleeper", name := "shuts", desc := "(IIILOneOfTwo$Row;)I" } : Jvm.MethodName)) ∈ TB := tb_7 (i := 132) rfl rfl
theorem tw_7_133 : (Jvm.Cond.selects "OneOfTwo$Smoker" ({ cls := "OneOfTwo$Lodger", name := "shuts", desc := "(IIILOneOfTwo$Row;)I" } : Jvm.MethodName) ({ cls := "OneOfTwo$Lodger", name := "shuts", desc := "(IIILOneOfTwo$Row;)I" } : Jvm.MethodName)) ∈ TB := tb_7 (i := 133) rfl rfl
theorem tw_7_134 : (Jvm.Cond.selects "OneOfTwo$Spiteful" ({ cls := "OneOfTwo$Lodger", name := "shuts", desc := "(IIILOneOfTwo$Row;)I" } : Jvm.MethodName) ({ cls := "OneOfTwo$Spiteful", name := "shuts", desc := "(IIILOneOfTwo$Row;)I" } : Jvm.MethodName)) ∈ TB := tb_7 (i := 134) rfl rfl
theorem tw_7_135 : (Jvm.Cond.sameMethod "OneOfTwo$Sleeper" "OneOfTwo$Sleeper" "shuts" "(IIILOneOfTwo$Row;)I") ∈ TB := tb_7 (i := 135) rfl rfl
theorem tw_7_136 : (Jvm.Cond.selects "OneOfTwo$Strong" ({ cls := "OneOfTwo$Lodger", name := "shuts", desc := "(IIILOneOfTwo$Row;)I" } : Jvm.MethodName) ({ cls := "OneOfTwo$Lodger", name := "shuts", desc := "(IIILOneOfTwo$Row;)I" } : Jvm.MethodName)) ∈ TB := tb_7 (i := 136) rfl rfl
theorem tw_7_143 : (Jvm.Cond.fieldLink "java/lang/String" (15 : Nat) "java/lang/String" "coder" "B") ∈ TB := tb_7 (i := 143) rfl rfl
theorem tw_7_144 : (Jvm.Cond.fieldLink "java/lang/String" (9 : Nat) "java/lang/String" "value" "[B") ∈ TB := tb_7 (i := 144) rfl rfl
theorem tw_s_0 : (Jvm.Cond.selects "OneOfTwo" (⟨"OneOfTwo", "error", "(I)I"⟩ : Jvm.MethodName) (⟨"OneOfTwo", "error", "(I)I"⟩ : Jvm.MethodName)) ∈ TB := tb_s (i := 0) rfl rfl
theorem tw_s_1 : (Jvm.Cond.selects "OneOfTwo" (⟨"OneOfTwo", "isWindow", "(I)Z"⟩ : Jvm.MethodName) (⟨"OneOfTwo", "isWindow", "(I)Z"⟩ : Jvm.MethodName)) ∈ TB := tb_s (i := 1) rfl rfl
theorem tw_s_2 : (Jvm.Cond.selects "OneOfTwo" (⟨"OneOfTwo", "isLodger", "(I)Z"⟩ : Jvm.MethodName) (⟨"OneOfTwo", "isLodger", "(I)Z"⟩ : Jvm.MethodName)) ∈ TB := tb_s (i := 2) rfl rfl
theorem tw_s_3 : (Jvm.Cond.selects "OneOfTwo$Text" (⟨"OneOfTwo$Text", "closes", "()Z"⟩ : Jvm.MethodName) (⟨"OneOfTwo$Text", "closes", "()Z"⟩ : Jvm.MethodName)) ∈ TB := tb_s (i := 3) rfl rfl
theorem tw_s_4 : (Jvm.Cond.selects "OneOfTwo$Text" (⟨"OneOfTwo$Text", "settleDownTo", "(I)V"⟩ : Jvm.MethodName) (⟨"OneOfTwo$Text", "settleDownTo", "(I)V"⟩ : Jvm.MethodName)) ∈ TB := tb_s (i := 4) rfl rfl
theorem tw_s_5 : (Jvm.Cond.selects "OneOfTwo$Text" (⟨"OneOfTwo$Text", "addCode", "(I)V"⟩ : Jvm.MethodName) (⟨"OneOfTwo$Text", "addCode", "(I)V"⟩ : Jvm.MethodName)) ∈ TB := tb_s (i := 5) rfl rfl
theorem tw_s_6 : (Jvm.Cond.selects "OneOfTwo$Text" (⟨"OneOfTwo$Text", "closeNots", "()V"⟩ : Jvm.MethodName) (⟨"OneOfTwo$Text", "closeNots", "()V"⟩ : Jvm.MethodName)) ∈ TB := tb_s (i := 6) rfl rfl
theorem tw_s_7 : (Jvm.Cond.selects "OneOfTwo$Text" (⟨"OneOfTwo$Text", "joins", "(I)Z"⟩ : Jvm.MethodName) (⟨"OneOfTwo$Text", "joins", "(I)Z"⟩ : Jvm.MethodName)) ∈ TB := tb_s (i := 7) rfl rfl
theorem tw_s_8 : (Jvm.Cond.selects "OneOfTwo$Text" (⟨"OneOfTwo$Text", "push", "(I)Z"⟩ : Jvm.MethodName) (⟨"OneOfTwo$Text", "push", "(I)Z"⟩ : Jvm.MethodName)) ∈ TB := tb_s (i := 8) rfl rfl
theorem tw_s_9 : (Jvm.Cond.selects "OneOfTwo$Text" (⟨"OneOfTwo$Text", "addValue", "(I)V"⟩ : Jvm.MethodName) (⟨"OneOfTwo$Text", "addValue", "(I)V"⟩ : Jvm.MethodName)) ∈ TB := tb_s (i := 9) rfl rfl
theorem tw_s_10 : (Jvm.Cond.selects "OneOfTwo$Text" (⟨"OneOfTwo$Text", "opens", "(I)Z"⟩ : Jvm.MethodName) (⟨"OneOfTwo$Text", "opens", "(I)Z"⟩ : Jvm.MethodName)) ∈ TB := tb_s (i := 10) rfl rfl
theorem tw_s_11 : (Jvm.Cond.selects "OneOfTwo$Search" (⟨"OneOfTwo$Search", "prepareCords", "()V"⟩ : Jvm.MethodName) (⟨"OneOfTwo$Search", "prepareCords", "()V"⟩ : Jvm.MethodName)) ∈ TB := tb_s (i := 11) rfl rfl
theorem tw_s_12 : (Jvm.Cond.selects "OneOfTwo$Search" (⟨"OneOfTwo$Search", "looseOn", "(I)I"⟩ : Jvm.MethodName) (⟨"OneOfTwo$Search", "looseOn", "(I)I"⟩ : Jvm.MethodName)) ∈ TB := tb_s (i := 12) rfl rfl
theorem tw_s_13 : (Jvm.Cond.selects "OneOfTwo$Search" (⟨"OneOfTwo$Search", "prepareLodgers", "()V"⟩ : Jvm.MethodName) (⟨"OneOfTwo$Search", "prepareLodgers", "()V"⟩ : Jvm.MethodName)) ∈ TB := tb_s (i := 13) rfl rfl
theorem tw_s_14 : (Jvm.Cond.selects "OneOfTwo$Search" (⟨"OneOfTwo$Search", "placeFor", "(II)I"⟩ : Jvm.MethodName) (⟨"OneOfTwo$Search", "placeFor", "(II)I"⟩ : Jvm.MethodName)) ∈ TB := tb_s (i := 14) rfl rfl
theorem tw_s_15 : (Jvm.Cond.selects "OneOfTwo$Search" (⟨"OneOfTwo$Search", "place", "(IIII)V"⟩ : Jvm.MethodName) (⟨"OneOfTwo$Search", "place", "(IIII)V"⟩ : Jvm.MethodName)) ∈ TB := tb_s (i := 15) rfl rfl
theorem tw_s_16 : (Jvm.Cond.selects "OneOfTwo$Search" (⟨"OneOfTwo$Search", "contentOf", "(I)I"⟩ : Jvm.MethodName) (⟨"OneOfTwo$Search", "contentOf", "(I)I"⟩ : Jvm.MethodName)) ∈ TB := tb_s (i := 16) rfl rfl
theorem tw_s_17 : (Jvm.Cond.selects "OneOfTwo$Search" (⟨"OneOfTwo$Search", "fill", "(IIII)V"⟩ : Jvm.MethodName) (⟨"OneOfTwo$Search", "fill", "(IIII)V"⟩ : Jvm.MethodName)) ∈ TB := tb_s (i := 17) rfl rfl
theorem tw_s_18 : (Jvm.Cond.selects "OneOfTwo" (⟨"OneOfTwo", "contentIfSwapped", "(II)I"⟩ : Jvm.MethodName) (⟨"OneOfTwo", "contentIfSwapped", "(II)I"⟩ : Jvm.MethodName)) ∈ TB := tb_s (i := 18) rfl rfl
theorem tw_s_19 : (Jvm.Cond.selects "OneOfTwo" (⟨"OneOfTwo", "wouldStandSo", "(ILOneOfTwo$Row;)Z"⟩ : Jvm.MethodName) (⟨"OneOfTwo", "wouldStandSo", "(ILOneOfTwo$Row;)Z"⟩ : Jvm.MethodName)) ∈ TB := tb_s (i := 19) rfl rfl
theorem tw_s_20 : (Jvm.Cond.selects "OneOfTwoModel" (⟨"OneOfTwoModel", "finds", "(I)I"⟩ : Jvm.MethodName) (⟨"OneOfTwoModel", "finds", "(I)I"⟩ : Jvm.MethodName)) ∈ TB := tb_s (i := 20) rfl rfl
theorem tw_s_21 : (Jvm.Cond.selects "OneOfTwoModel" (⟨"OneOfTwoModel", "worked", "(III)I"⟩ : Jvm.MethodName) (⟨"OneOfTwoModel", "worked", "(III)I"⟩ : Jvm.MethodName)) ∈ TB := tb_s (i := 21) rfl rfl
theorem tw_s_22 : (Jvm.Cond.selects "OneOfTwoModel" (⟨"OneOfTwoModel", "either", "()I"⟩ : Jvm.MethodName) (⟨"OneOfTwoModel", "either", "()I"⟩ : Jvm.MethodName)) ∈ TB := tb_s (i := 22) rfl rfl
theorem tw_s_23 : (Jvm.Cond.selects "OneOfTwoModel" (⟨"OneOfTwoModel", "both", "()I"⟩ : Jvm.MethodName) (⟨"OneOfTwoModel", "both", "()I"⟩ : Jvm.MethodName)) ∈ TB := tb_s (i := 23) rfl rfl
theorem tw_s_24 : (Jvm.Cond.selects "OneOfTwoModel" (⟨"OneOfTwoModel", "compared", "()I"⟩ : Jvm.MethodName) (⟨"OneOfTwoModel", "compared", "()I"⟩ : Jvm.MethodName)) ∈ TB := tb_s (i := 24) rfl rfl
theorem tw_s_25 : (Jvm.Cond.selects "OneOfTwoModel" (⟨"OneOfTwoModel", "sum", "()I"⟩ : Jvm.MethodName) (⟨"OneOfTwoModel", "sum", "()I"⟩ : Jvm.MethodName)) ∈ TB := tb_s (i := 25) rfl rfl
theorem tw_s_26 : (Jvm.Cond.selects "OneOfTwoModel" (⟨"OneOfTwoModel", "product", "()I"⟩ : Jvm.MethodName) (⟨"OneOfTwoModel", "product", "()I"⟩ : Jvm.MethodName)) ∈ TB := tb_s (i := 26) rfl rfl
theorem tw_s_27 : (Jvm.Cond.selects "OneOfTwoModel" (⟨"OneOfTwoModel", "unit", "()I"⟩ : Jvm.MethodName) (⟨"OneOfTwoModel", "unit", "()I"⟩ : Jvm.MethodName)) ∈ TB := tb_s (i := 27) rfl rfl
theorem tw_s_28 : (Jvm.Cond.selects "OneOfTwoModel" (⟨"OneOfTwoModel", "here", "()I"⟩ : Jvm.MethodName) (⟨"OneOfTwoModel", "here", "()I"⟩ : Jvm.MethodName)) ∈ TB := tb_s (i := 28) rfl rfl
theorem tw_s_29 : (Jvm.Cond.selects "OneOfTwoModel" (⟨"OneOfTwoModel", "wrong", "()I"⟩ : Jvm.MethodName) (⟨"OneOfTwoModel", "wrong", "()I"⟩ : Jvm.MethodName)) ∈ TB := tb_s (i := 29) rfl rfl
theorem tw_s_30 : (Jvm.Cond.selects "OneOfTwoModel" (⟨"OneOfTwoModel", "takes", "(I)Z"⟩ : Jvm.MethodName) (⟨"OneOfTwoModel", "takes", "(I)Z"⟩ : Jvm.MethodName)) ∈ TB := tb_s (i := 30) rfl rfl
theorem tw_s_31 : (Jvm.Cond.selects "OneOfTwoModel" (⟨"OneOfTwoModel", "nameOf", "(I)I"⟩ : Jvm.MethodName) (⟨"OneOfTwoModel", "nameOf", "(I)I"⟩ : Jvm.MethodName)) ∈ TB := tb_s (i := 31) rfl rfl
theorem tw_s_32 : (Jvm.Cond.selects "OneOfTwoModel" (⟨"OneOfTwoModel", "textGives", "(IIII)I"⟩ : Jvm.MethodName) (⟨"OneOfTwoModel", "textGives", "(IIII)I"⟩ : Jvm.MethodName)) ∈ TB := tb_s (i := 32) rfl rfl
theorem tw_s_33 : (Jvm.Cond.selects "OneOfTwoModel" (⟨"OneOfTwoModel", "puts", "(III)V"⟩ : Jvm.MethodName) (⟨"OneOfTwoModel", "puts", "(III)V"⟩ : Jvm.MethodName)) ∈ TB := tb_s (i := 33) rfl rfl
theorem tw_s_34 : (Jvm.Cond.selects "OneOfTwoModel" (⟨"OneOfTwoModel", "its", "(II)I"⟩ : Jvm.MethodName) (⟨"OneOfTwoModel", "its", "(II)I"⟩ : Jvm.MethodName)) ∈ TB := tb_s (i := 34) rfl rfl
theorem tw_s_35 : (Jvm.Cond.selects "OneOfTwoModel" (⟨"OneOfTwoModel", "isWindow", "(I)Z"⟩ : Jvm.MethodName) (⟨"OneOfTwoModel", "isWindow", "(I)Z"⟩ : Jvm.MethodName)) ∈ TB := tb_s (i := 35) rfl rfl
theorem tw_s_36 : (Jvm.Cond.selects "OneOfTwoModel" (⟨"OneOfTwoModel", "windowsOf", "(I)I"⟩ : Jvm.MethodName) (⟨"OneOfTwoModel", "windowsOf", "(I)I"⟩ : Jvm.MethodName)) ∈ TB := tb_s (i := 36) rfl rfl
theorem tw_s_37 : (Jvm.Cond.selects "OneOfTwoModel" (⟨"OneOfTwoModel", "lengthOf", "(I)I"⟩ : Jvm.MethodName) (⟨"OneOfTwoModel", "lengthOf", "(I)I"⟩ : Jvm.MethodName)) ∈ TB := tb_s (i := 37) rfl rfl
theorem tw_s_38 : (Jvm.Cond.selects "OneOfTwoModel" (⟨"OneOfTwoModel", "isLocked", "()Z"⟩ : Jvm.MethodName) (⟨"OneOfTwoModel", "isLocked", "()Z"⟩ : Jvm.MethodName)) ∈ TB := tb_s (i := 38) rfl rfl
theorem tw_s_39 : (Jvm.Cond.selects "OneOfTwoModel" (⟨"OneOfTwoModel", "canPull", "(II)Z"⟩ : Jvm.MethodName) (⟨"OneOfTwoModel", "canPull", "(II)Z"⟩ : Jvm.MethodName)) ∈ TB := tb_s (i := 39) rfl rfl
theorem tw_s_40 : (Jvm.Cond.selects "OneOfTwoModel" (⟨"OneOfTwoModel", "pulls", "(II)V"⟩ : Jvm.MethodName) (⟨"OneOfTwoModel", "pulls", "(II)V"⟩ : Jvm.MethodName)) ∈ TB := tb_s (i := 40) rfl rfl
theorem tw_s_41 : (Jvm.Cond.selects "OneOfTwoModel" (⟨"OneOfTwoModel", "swaps", "(II)V"⟩ : Jvm.MethodName) (⟨"OneOfTwoModel", "swaps", "(II)V"⟩ : Jvm.MethodName)) ∈ TB := tb_s (i := 41) rfl rfl
theorem tw_s_42 : (Jvm.Cond.selects "OneOfTwoModel" (⟨"OneOfTwoModel", "airOf", "(I)I"⟩ : Jvm.MethodName) (⟨"OneOfTwoModel", "airOf", "(I)I"⟩ : Jvm.MethodName)) ∈ TB := tb_s (i := 42) rfl rfl
theorem tw_s_43 : (Jvm.Cond.selects "OneOfTwoModel" (⟨"OneOfTwoModel", "openIn", "(I)I"⟩ : Jvm.MethodName) (⟨"OneOfTwoModel", "openIn", "(I)I"⟩ : Jvm.MethodName)) ∈ TB := tb_s (i := 43) rfl rfl
theorem tw_s_44 : (Jvm.Cond.selects "OneOfTwoModel" (⟨"OneOfTwoModel", "sets", "(III)V"⟩ : Jvm.MethodName) (⟨"OneOfTwoModel", "sets", "(III)V"⟩ : Jvm.MethodName)) ∈ TB := tb_s (i := 44) rfl rfl
theorem tw_s_45 : (Jvm.Cond.selects "OneOfTwoModel" (⟨"OneOfTwoModel", "isLodger", "(I)Z"⟩ : Jvm.MethodName) (⟨"OneOfTwoModel", "isLodger", "(I)Z"⟩ : Jvm.MethodName)) ∈ TB := tb_s (i := 45) rfl rfl
theorem tw_s_46 : (Jvm.Cond.selects "OneOfTwoModel" (⟨"OneOfTwoModel", "leastOf", "(I)I"⟩ : Jvm.MethodName) (⟨"OneOfTwoModel", "leastOf", "(I)I"⟩ : Jvm.MethodName)) ∈ TB := tb_s (i := 46) rfl rfl
theorem tw_s_47 : (Jvm.Cond.selects "OneOfTwoModel" (⟨"OneOfTwoModel", "of", "(II)I"⟩ : Jvm.MethodName) (⟨"OneOfTwoModel", "of", "(II)I"⟩ : Jvm.MethodName)) ∈ TB := tb_s (i := 47) rfl rfl
theorem tw_s_48 : (Jvm.Cond.selects "OneOfTwoModel" (⟨"OneOfTwoModel", "mostOf", "(I)I"⟩ : Jvm.MethodName) (⟨"OneOfTwoModel", "mostOf", "(I)I"⟩ : Jvm.MethodName)) ∈ TB := tb_s (i := 48) rfl rfl
theorem tw_s_49 : (Jvm.Cond.selects "OneOfTwoModel" (⟨"OneOfTwoModel", "pullsOf", "(I)I"⟩ : Jvm.MethodName) (⟨"OneOfTwoModel", "pullsOf", "(I)I"⟩ : Jvm.MethodName)) ∈ TB := tb_s (i := 49) rfl rfl
theorem tw_s_50 : (Jvm.Cond.selects "OneOfTwoModel" (⟨"OneOfTwoModel", "isContent", "(I)Z"⟩ : Jvm.MethodName) (⟨"OneOfTwoModel", "isContent", "(I)Z"⟩ : Jvm.MethodName)) ∈ TB := tb_s (i := 50) rfl rfl
theorem tw_s_51 : (Jvm.Cond.selects "OneOfTwoModel" (⟨"OneOfTwoModel", "allContent", "()I"⟩ : Jvm.MethodName) (⟨"OneOfTwoModel", "allContent", "()I"⟩ : Jvm.MethodName)) ∈ TB := tb_s (i := 51) rfl rfl
theorem tw_s_52 : (Jvm.Cond.selects "OneOfTwoModel" (⟨"OneOfTwoModel", "turnOf", "(I)I"⟩ : Jvm.MethodName) (⟨"OneOfTwoModel", "turnOf", "(I)I"⟩ : Jvm.MethodName)) ∈ TB := tb_s (i := 52) rfl rfl
theorem tw_s_53 : (Jvm.Cond.selects "OneOfTwoModel" (⟨"OneOfTwoModel", "choice", "(I)I"⟩ : Jvm.MethodName) (⟨"OneOfTwoModel", "choice", "(I)I"⟩ : Jvm.MethodName)) ∈ TB := tb_s (i := 53) rfl rfl
theorem tw_s_54 : (Jvm.Cond.selects "OneOfTwoModel" (⟨"OneOfTwoModel", "farOf", "(I)I"⟩ : Jvm.MethodName) (⟨"OneOfTwoModel", "farOf", "(I)I"⟩ : Jvm.MethodName)) ∈ TB := tb_s (i := 54) rfl rfl
theorem tw_s_55 : (Jvm.Cond.selects "OneOfTwoModel" (⟨"OneOfTwoModel", "anHour", "()V"⟩ : Jvm.MethodName) (⟨"OneOfTwoModel", "anHour", "()V"⟩ : Jvm.MethodName)) ∈ TB := tb_s (i := 55) rfl rfl
theorem tw_s_56 : (Jvm.Cond.selects "OneOfTwoModel" (⟨"OneOfTwoModel", "turnOfAll", "()I"⟩ : Jvm.MethodName) (⟨"OneOfTwoModel", "turnOfAll", "()I"⟩ : Jvm.MethodName)) ∈ TB := tb_s (i := 56) rfl rfl
theorem tw_s_57 : (Jvm.Cond.selects "OneOfTwoModel" (⟨"OneOfTwoModel", "drawn", "()I"⟩ : Jvm.MethodName) (⟨"OneOfTwoModel", "drawn", "()I"⟩ : Jvm.MethodName)) ∈ TB := tb_s (i := 57) rfl rfl
theorem tw_s_58 : (Jvm.Cond.selects "OneOfTwoModel" (⟨"OneOfTwoModel", "keepAside", "()V"⟩ : Jvm.MethodName) (⟨"OneOfTwoModel", "keepAside", "()V"⟩ : Jvm.MethodName)) ∈ TB := tb_s (i := 58) rfl rfl
theorem tw_s_59 : (Jvm.Cond.selects "OneOfTwoModel" (⟨"OneOfTwoModel", "putBack", "()V"⟩ : Jvm.MethodName) (⟨"OneOfTwoModel", "putBack", "()V"⟩ : Jvm.MethodName)) ∈ TB := tb_s (i := 59) rfl rfl
theorem tw_s_60 : (Jvm.Cond.selects "OneOfTwoModel" (⟨"OneOfTwoModel", "goThrough", "(ZZ)V"⟩ : Jvm.MethodName) (⟨"OneOfTwoModel", "goThrough", "(ZZ)V"⟩ : Jvm.MethodName)) ∈ TB := tb_s (i := 60) rfl rfl
theorem tw_s_61 : (Jvm.Cond.selects "OneOfTwoModel" (⟨"OneOfTwoModel", "isLoose", "(I)Z"⟩ : Jvm.MethodName) (⟨"OneOfTwoModel", "isLoose", "(I)Z"⟩ : Jvm.MethodName)) ∈ TB := tb_s (i := 61) rfl rfl
theorem tw_s_62 : (Jvm.Cond.selects "OneOfTwoModel" (⟨"OneOfTwoModel", "looksAt", "(Z)V"⟩ : Jvm.MethodName) (⟨"OneOfTwoModel", "looksAt", "(Z)V"⟩ : Jvm.MethodName)) ∈ TB := tb_s (i := 62) rfl rfl
theorem tw_s_63 : (Jvm.Cond.selects "OneOfTwoModel" (⟨"OneOfTwoModel", "nextOf", "(I)Z"⟩ : Jvm.MethodName) (⟨"OneOfTwoModel", "nextOf", "(I)Z"⟩ : Jvm.MethodName)) ∈ TB := tb_s (i := 63) rfl rfl
theorem tw_s_64 : (Jvm.Cond.selects "OneOfTwoModel" (⟨"OneOfTwoModel", "findHelps", "()V"⟩ : Jvm.MethodName) (⟨"OneOfTwoModel", "findHelps", "()V"⟩ : Jvm.MethodName)) ∈ TB := tb_s (i := 64) rfl rfl
theorem tw_s_65 : (Jvm.Cond.selects "OneOfTwoModel" (⟨"OneOfTwoModel", "own", "()I"⟩ : Jvm.MethodName) (⟨"OneOfTwoModel", "own", "()I"⟩ : Jvm.MethodName)) ∈ TB := tb_s (i := 65) rfl rfl
theorem tw_s_66 : (Jvm.Cond.selects "OneOfTwoModel" (⟨"OneOfTwoModel", "wakesBy", "(II)I"⟩ : Jvm.MethodName) (⟨"OneOfTwoModel", "wakesBy", "(II)I"⟩ : Jvm.MethodName)) ∈ TB := tb_s (i := 66) rfl rfl
theorem tw_s_67 : (Jvm.Cond.selects "OneOfTwoModel" (⟨"OneOfTwoModel", "ran", "(I)V"⟩ : Jvm.MethodName) (⟨"OneOfTwoModel", "ran", "(I)V"⟩ : Jvm.MethodName)) ∈ TB := tb_s (i := 67) rfl rfl
theorem tw_s_68 : (Jvm.Cond.selects "OneOfTwoModel" (⟨"OneOfTwoModel", "pullsBy", "(II)I"⟩ : Jvm.MethodName) (⟨"OneOfTwoModel", "pullsBy", "(II)I"⟩ : Jvm.MethodName)) ∈ TB := tb_s (i := 68) rfl rfl
theorem tw_s_69 : (Jvm.Cond.selects "OneOfTwoModel" (⟨"OneOfTwoModel", "shutsBy", "(II)I"⟩ : Jvm.MethodName) (⟨"OneOfTwoModel", "shutsBy", "(II)I"⟩ : Jvm.MethodName)) ∈ TB := tb_s (i := 69) rfl rfl
theorem tw_s_70 : (Jvm.Cond.selects "OneOfTwoModel" (⟨"OneOfTwoModel", "tellsBy", "(II)I"⟩ : Jvm.MethodName) (⟨"OneOfTwoModel", "tellsBy", "(II)I"⟩ : Jvm.MethodName)) ∈ TB := tb_s (i := 70) rfl rfl
theorem tw_s_71 : (Jvm.Cond.selects "OneOfTwoModel" (⟨"OneOfTwoModel", "openOfAll", "()I"⟩ : Jvm.MethodName) (⟨"OneOfTwoModel", "openOfAll", "()I"⟩ : Jvm.MethodName)) ∈ TB := tb_s (i := 71) rfl rfl
