def RX0 : String := "CurvedNames$Curve"
def TX0 : u_T := fun k => match k with
  | 0 => ("CurvedNames$Curve", "radius", "[I", true)
  | 1 => ("CurvedNames$Curve", "degrees", "[I", true)
  | 2 => ("CurvedNames$Curve", "hardness", "[I", true)
  | 3 => ("CurvedNames$Curve", "bendsRight", "[Z", true)
  | _ => ("CurvedNames$Curve", "arcs", "I", false)
def tyX0 : Nat → FieldType := fun k => match k with
  | 0 => .array .int
  | 1 => .array .int
  | 2 => .array .int
  | 3 => .array .boolean
  | _ => .int
abbrev wsX00 : List Cond := u_ws RX0 TX0 5
theorem nmX0 : ∀ a, a < 5 → ∀ b, b < 5 → a ≠ b → (TX0 a).2.1 ≠ (TX0 b).2.1 := by decide +kernel
theorem tyX0_ok : ∀ k, k < 5 → parseFieldDescriptor (TX0 k).2.2.1 = some (tyX0 k) := by decide +kernel
abbrev cX0_init : ByteArray := prog_2_method_1_code
def yX0_init : MethodName := ⟨RX0, "<init>", "()V"⟩
abbrev cX0_copyFrom : ByteArray := prog_2_method_2_code
def yX0_copyFrom : MethodName := ⟨RX0, "copyFrom", "(LCurvedNames$Curve;)V"⟩
abbrev cX0_copyArc : ByteArray := prog_2_method_3_code
def yX0_copyArc : MethodName := ⟨RX0, "copyArc", "(LCurvedNames$Curve;II)V"⟩
abbrev cX0_addArc : ByteArray := prog_2_method_4_code
def yX0_addArc : MethodName := ⟨RX0, "addArc", "(IIZI)V"⟩
abbrev cX0_tenths : ByteArray := prog_2_method_7_code
def yX0_tenths : MethodName := ⟨RX0, "tenths", "(I)I"⟩
abbrev cX0_turnAhead : ByteArray := prog_2_method_8_code
def yX0_turnAhead : MethodName := ⟨RX0, "turnAhead", "(I)I"⟩
abbrev cX0_partsAhead : ByteArray := prog_2_method_9_code
def yX0_partsAhead : MethodName := ⟨RX0, "partsAhead", "(I)I"⟩
abbrev cX0_wholeTurn : ByteArray := prog_2_method_10_code
def yX0_wholeTurn : MethodName := ⟨RX0, "wholeTurn", "()I"⟩
abbrev cX0_wholeParts : ByteArray := prog_2_method_11_code
def yX0_wholeParts : MethodName := ⟨RX0, "wholeParts", "()I"⟩
abbrev cX0_arcAround : ByteArray := prog_2_method_12_code
def yX0_arcAround : MethodName := ⟨RX0, "arcAround", "(I)I"⟩
abbrev cX0_hardnessAt : ByteArray := prog_2_method_13_code
def yX0_hardnessAt : MethodName := ⟨RX0, "hardnessAt", "(I)I"⟩
abbrev cX0_partsTo : ByteArray := prog_2_method_14_code
def yX0_partsTo : MethodName := ⟨RX0, "partsTo", "(I)I"⟩
abbrev cX0_headingTo : ByteArray := prog_2_method_15_code
def yX0_headingTo : MethodName := ⟨RX0, "headingTo", "(I)I"⟩
def RX1 : String := "CurvedNames$Graver"
def TX1 : u_T := fun k => match k with
  | 0 => ("CurvedNames$Graver", "sharp", "I", false)
  | 1 => ("CurvedNames$Graver", "x", "I", false)
  | 2 => ("CurvedNames$Graver", "slips", "I", false)
  | _ => ("CurvedNames$Graver", "strokes", "I", false)
def tyX1 : Nat → FieldType := fun k => match k with
  | 0 => .int
  | 1 => .int
  | 2 => .int
  | _ => .int
abbrev wsX10 : List Cond := u_ws RX1 TX1 4
theorem nmX1 : ∀ a, a < 4 → ∀ b, b < 4 → a ≠ b → (TX1 a).2.1 ≠ (TX1 b).2.1 := by decide +kernel
theorem tyX1_ok : ∀ k, k < 4 → parseFieldDescriptor (TX1 k).2.2.1 = some (tyX1 k) := by decide +kernel
abbrev cX1_init : ByteArray := prog_3_method_1_code
def yX1_init : MethodName := ⟨RX1, "<init>", "()V"⟩
abbrev cX1_clear : ByteArray := prog_3_method_2_code
def yX1_clear : MethodName := ⟨RX1, "clear", "()V"⟩
abbrev cX1_copyFrom : ByteArray := prog_3_method_3_code
def yX1_copyFrom : MethodName := ⟨RX1, "copyFrom", "(LCurvedNames$Graver;)V"⟩
abbrev cX1_canSharpenBy : ByteArray := prog_3_method_4_code
def yX1_canSharpenBy : MethodName := ⟨RX1, "canSharpenBy", "(I)Z"⟩
abbrev cX1_sharpenBy : ByteArray := prog_3_method_5_code
def yX1_sharpenBy : MethodName := ⟨RX1, "sharpenBy", "(I)I"⟩
abbrev cX1_reachOfStroke : ByteArray := prog_3_method_6_code
def yX1_reachOfStroke : MethodName := ⟨RX1, "reachOfStroke", "(I)I"⟩
abbrev cX1_nextBits : ByteArray := prog_3_method_7_code
def yX1_nextBits : MethodName := ⟨RX1, "nextBits", "()I"⟩
def RX2 : String := "CurvedNames$Kinds"
def TX2 : u_T := fun k => match k with
  | 0 => ("CurvedNames$Kinds", "names", "[I", true)
  | 1 => ("CurvedNames$Kinds", "widths", "[I", true)
  | 2 => ("CurvedNames$Kinds", "worths", "[I", true)
  | 3 => ("CurvedNames$Kinds", "stocks", "[I", true)
  | _ => ("CurvedNames$Kinds", "count", "I", false)
def tyX2 : Nat → FieldType := fun k => match k with
  | 0 => .array .int
  | 1 => .array .int
  | 2 => .array .int
  | 3 => .array .int
  | _ => .int
abbrev wsX20 : List Cond := u_ws RX2 TX2 5
theorem nmX2 : ∀ a, a < 5 → ∀ b, b < 5 → a ≠ b → (TX2 a).2.1 ≠ (TX2 b).2.1 := by decide +kernel
theorem tyX2_ok : ∀ k, k < 5 → parseFieldDescriptor (TX2 k).2.2.1 = some (tyX2 k) := by decide +kernel
abbrev cX2_init : ByteArray := prog_4_method_1_code
def yX2_init : MethodName := ⟨RX2, "<init>", "()V"⟩
abbrev cX2_copyFrom : ByteArray := prog_4_method_2_code
def yX2_copyFrom : MethodName := ⟨RX2, "copyFrom", "(LCurvedNames$Kinds;)V"⟩
abbrev cX2_nameByte : ByteArray := prog_4_method_3_code
def yX2_nameByte : MethodName := ⟨RX2, "nameByte", "(II)I"⟩
abbrev cX2_beginKind : ByteArray := prog_4_method_4_code
def yX2_beginKind : MethodName := ⟨RX2, "beginKind", "(LCurvedNames$Tokens;)V"⟩
abbrev cX2_isBegunNameTaken : ByteArray := prog_4_method_5_code
def yX2_isBegunNameTaken : MethodName := ⟨RX2, "isBegunNameTaken", "()Z"⟩
abbrev cX2_isSameName : ByteArray := prog_4_method_6_code
def yX2_isSameName : MethodName := ⟨RX2, "isSameName", "(II)Z"⟩
abbrev cX2_endKind : ByteArray := prog_4_method_7_code
def yX2_endKind : MethodName := ⟨RX2, "endKind", "(III)V"⟩
def RX3 : String := "CurvedNames$Layout"
def TX3 : u_T := fun k => match k with
  | 0 => ("CurvedNames$Layout", "rooms", "[I", true)
  | 1 => ("CurvedNames$Layout", "fillings", "[I", true)
  | 2 => ("CurvedNames$Layout", "isServed", "[Z", true)
  | 3 => ("CurvedNames$Layout", "stock", "[I", true)
  | _ => ("CurvedNames$Layout", "count", "I", false)
def tyX3 : Nat → FieldType := fun k => match k with
  | 0 => .array .int
  | 1 => .array .int
  | 2 => .array .boolean
  | 3 => .array .int
  | _ => .int
abbrev wsX30 : List Cond := u_ws RX3 TX3 5
theorem nmX3 : ∀ a, a < 5 → ∀ b, b < 5 → a ≠ b → (TX3 a).2.1 ≠ (TX3 b).2.1 := by decide +kernel
theorem tyX3_ok : ∀ k, k < 5 → parseFieldDescriptor (TX3 k).2.2.1 = some (tyX3 k) := by decide +kernel
abbrev cX3_init : ByteArray := prog_5_method_1_code
def yX3_init : MethodName := ⟨RX3, "<init>", "()V"⟩
abbrev cX3_measure : ByteArray := prog_5_method_2_code
def yX3_measure : MethodName := ⟨RX3, "measure", "(LCurvedNames$Plate;)V"⟩
abbrev cX3_crowdedRooms : ByteArray := prog_5_method_3_code
def yX3_crowdedRooms : MethodName := ⟨RX3, "crowdedRooms", "(I)I"⟩
abbrev cX3_tightestRoom : ByteArray := prog_5_method_4_code
def yX3_tightestRoom : MethodName := ⟨RX3, "tightestRoom", "()I"⟩
abbrev cX3_letterSpoiledBy : ByteArray := prog_5_method_6_code
def yX3_letterSpoiledBy : MethodName := ⟨RX3, "letterSpoiledBy", "(LCurvedNames$Plate;I)I"⟩
abbrev cX3_isSpoiled : ByteArray := prog_5_method_7_code
def yX3_isSpoiled : MethodName := ⟨RX3, "isSpoiled", "(LCurvedNames$Plate;I)Z"⟩
abbrev cX3_fill : ByteArray := prog_5_method_8_code
def yX3_fill : MethodName := ⟨RX3, "fill", "(LCurvedNames$Plate;)V"⟩
abbrev cX3_fillLargest : ByteArray := prog_5_method_9_code
def yX3_fillLargest : MethodName := ⟨RX3, "fillLargest", "(LCurvedNames$Plate;)V"⟩
abbrev cX3_largestUnserved : ByteArray := prog_5_method_10_code
def yX3_largestUnserved : MethodName := ⟨RX3, "largestUnserved", "()I"⟩
abbrev cX3_bestKind : ByteArray := prog_5_method_11_code
def yX3_bestKind : MethodName := ⟨RX3, "bestKind", "(LCurvedNames$Kinds;I)I"⟩
abbrev cX3_worthOfFillings : ByteArray := prog_5_method_12_code
def yX3_worthOfFillings : MethodName := ⟨RX3, "worthOfFillings", "(LCurvedNames$Kinds;)I"⟩
def RX4 : String := "CurvedNames$Name"
def TX4 : u_T := fun k => match k with
  | 0 => ("CurvedNames$Name", "places", "[I", true)
  | 1 => ("CurvedNames$Name", "isEngraved", "[Z", true)
  | 2 => ("CurvedNames$Name", "mends", "[I", true)
  | 3 => ("CurvedNames$Name", "widths", "[I", true)
  | _ => ("CurvedNames$Name", "letters", "I", false)
def tyX4 : Nat → FieldType := fun k => match k with
  | 0 => .array .int
  | 1 => .array .boolean
  | 2 => .array .int
  | 3 => .array .int
  | _ => .int
abbrev wsX40 : List Cond := u_ws RX4 TX4 5
theorem nmX4 : ∀ a, a < 5 → ∀ b, b < 5 → a ≠ b → (TX4 a).2.1 ≠ (TX4 b).2.1 := by decide +kernel
theorem tyX4_ok : ∀ k, k < 5 → parseFieldDescriptor (TX4 k).2.2.1 = some (tyX4 k) := by decide +kernel
abbrev cX4_init : ByteArray := prog_6_method_1_code
def yX4_init : MethodName := ⟨RX4, "<init>", "()V"⟩
abbrev cX4_clear : ByteArray := prog_6_method_2_code
def yX4_clear : MethodName := ⟨RX4, "clear", "()V"⟩
abbrev cX4_copyFrom : ByteArray := prog_6_method_3_code
def yX4_copyFrom : MethodName := ⟨RX4, "copyFrom", "(LCurvedNames$Name;)V"⟩
abbrev cX4_addWord : ByteArray := prog_6_method_4_code
def yX4_addWord : MethodName := ⟨RX4, "addWord", "(LCurvedNames$Tokens;II)V"⟩
abbrev cX4_widenWord : ByteArray := prog_6_method_5_code
def yX4_widenWord : MethodName := ⟨RX4, "widenWord", "(LCurvedNames$Tokens;III)V"⟩
abbrev cX4_partsOf : ByteArray := prog_6_method_6_code
def yX4_partsOf : MethodName := ⟨RX4, "partsOf", "(I)I"⟩
abbrev cX4_strokesOf : ByteArray := prog_6_method_8_code
def yX4_strokesOf : MethodName := ⟨RX4, "strokesOf", "(I)I"⟩
abbrev cX4_engravedLetters : ByteArray := prog_6_method_9_code
def yX4_engravedLetters : MethodName := ⟨RX4, "engravedLetters", "()I"⟩
def RX5 : String := "CurvedNames$Plate"
def TX5 : u_T := fun k => match k with
  | 0 => ("CurvedNames$Plate", "curve", "LCurvedNames$Curve;", true)
  | 1 => ("CurvedNames$Plate", "name", "LCurvedNames$Name;", true)
  | 2 => ("CurvedNames$Plate", "kinds", "LCurvedNames$Kinds;", true)
  | 3 => ("CurvedNames$Plate", "graver", "LCurvedNames$Graver;", true)
  | 4 => ("CurvedNames$Plate", "scratches", "LCurvedNames$Scratches;", true)
  | _ => ("CurvedNames$Plate", "margin", "I", false)
def tyX5 : Nat → FieldType := fun k => match k with
  | 0 => .object "CurvedNames$Curve"
  | 1 => .object "CurvedNames$Name"
  | 2 => .object "CurvedNames$Kinds"
  | 3 => .object "CurvedNames$Graver"
  | 4 => .object "CurvedNames$Scratches"
  | _ => .int
abbrev wsX50 : List Cond := u_ws RX5 TX5 6
theorem nmX5 : ∀ a, a < 6 → ∀ b, b < 6 → a ≠ b → (TX5 a).2.1 ≠ (TX5 b).2.1 := by decide +kernel
theorem tyX5_ok : ∀ k, k < 6 → parseFieldDescriptor (TX5 k).2.2.1 = some (tyX5 k) := by decide +kernel
abbrev cX5_init : ByteArray := prog_7_method_1_code
def yX5_init : MethodName := ⟨RX5, "<init>", "()V"⟩
abbrev cX5_clear : ByteArray := prog_7_method_2_code
def yX5_clear : MethodName := ⟨RX5, "clear", "()V"⟩
abbrev cX5_copyFrom : ByteArray := prog_7_method_3_code
def yX5_copyFrom : MethodName := ⟨RX5, "copyFrom", "(LCurvedNames$Plate;)V"⟩
abbrev cX5_hasArc : ByteArray := prog_7_method_4_code
def yX5_hasArc : MethodName := ⟨RX5, "hasArc", "(I)Z"⟩
abbrev cX5_hasLetter : ByteArray := prog_7_method_5_code
def yX5_hasLetter : MethodName := ⟨RX5, "hasLetter", "(I)Z"⟩
abbrev cX5_hasRoom : ByteArray := prog_7_method_6_code
def yX5_hasRoom : MethodName := ⟨RX5, "hasRoom", "(I)Z"⟩
abbrev cX5_hasKind : ByteArray := prog_7_method_7_code
def yX5_hasKind : MethodName := ⟨RX5, "hasKind", "(I)Z"⟩
abbrev cX5_hasScratch : ByteArray := prog_7_method_8_code
def yX5_hasScratch : MethodName := ⟨RX5, "hasScratch", "(I)Z"⟩
abbrev cX5_canHaveMargin : ByteArray := prog_7_method_9_code
def yX5_canHaveMargin : MethodName := ⟨RX5, "canHaveMargin", "(I)Z"⟩
abbrev cX5_centreTurn : ByteArray := prog_7_method_10_code
def yX5_centreTurn : MethodName := ⟨RX5, "centreTurn", "(I)I"⟩
abbrev cX5_centreParts : ByteArray := prog_7_method_11_code
def yX5_centreParts : MethodName := ⟨RX5, "centreParts", "(I)I"⟩
abbrev cX5_leftEdge : ByteArray := prog_7_method_12_code
def yX5_leftEdge : MethodName := ⟨RX5, "leftEdge", "(I)I"⟩
abbrev cX5_rightEdge : ByteArray := prog_7_method_13_code
def yX5_rightEdge : MethodName := ⟨RX5, "rightEdge", "(I)I"⟩
abbrev cX5_arcUnder : ByteArray := prog_7_method_14_code
def yX5_arcUnder : MethodName := ⟨RX5, "arcUnder", "(I)I"⟩
abbrev cX5_hardnessUnder : ByteArray := prog_7_method_15_code
def yX5_hardnessUnder : MethodName := ⟨RX5, "hardnessUnder", "(I)I"⟩
abbrev cX5_slipsBy : ByteArray := prog_7_method_17_code
def yX5_slipsBy : MethodName := ⟨RX5, "slipsBy", "(LCurvedNames$Graver;)I"⟩
abbrev cX5_canEngraveAny : ByteArray := prog_7_method_18_code
def yX5_canEngraveAny : MethodName := ⟨RX5, "canEngraveAny", "()Z"⟩
abbrev cX5_canEngrave : ByteArray := prog_7_method_19_code
def yX5_canEngrave : MethodName := ⟨RX5, "canEngrave", "(I)Z"⟩
abbrev cX5_engraveLetter : ByteArray := prog_7_method_20_code
def yX5_engraveLetter : MethodName := ⟨RX5, "engraveLetter", "(I)I"⟩
abbrev cX5_canEngravePlanned : ByteArray := prog_7_method_21_code
def yX5_canEngravePlanned : MethodName := ⟨RX5, "canEngravePlanned", "()Z"⟩
abbrev cX5_engravePlanned : ByteArray := prog_7_method_22_code
def yX5_engravePlanned : MethodName := ⟨RX5, "engravePlanned", "()I"⟩
abbrev cX5_canMend : ByteArray := prog_7_method_23_code
def yX5_canMend : MethodName := ⟨RX5, "canMend", "(I)Z"⟩
abbrev cX5_mendScratch : ByteArray := prog_7_method_24_code
def yX5_mendScratch : MethodName := ⟨RX5, "mendScratch", "(I)I"⟩
abbrev cX5_canPolish : ByteArray := prog_7_method_25_code
def yX5_canPolish : MethodName := ⟨RX5, "canPolish", "(I)Z"⟩
abbrev cX5_polishLetter : ByteArray := prog_7_method_26_code
def yX5_polishLetter : MethodName := ⟨RX5, "polishLetter", "(I)I"⟩
def RX6 : String := "CurvedNames$Report"
def TX6 : u_T := fun k => match k with
  | 0 => ("CurvedNames$Report", "bytes", "[B", true)
  | _ => ("CurvedNames$Report", "size", "I", false)
def tyX6 : Nat → FieldType := fun k => match k with
  | 0 => .array .byte
  | _ => .int
abbrev wsX60 : List Cond := u_ws RX6 TX6 2
theorem nmX6 : ∀ a, a < 2 → ∀ b, b < 2 → a ≠ b → (TX6 a).2.1 ≠ (TX6 b).2.1 := by decide +kernel
theorem tyX6_ok : ∀ k, k < 2 → parseFieldDescriptor (TX6 k).2.2.1 = some (tyX6 k) := by decide +kernel
abbrev cX6_init : ByteArray := prog_8_method_1_code
def yX6_init : MethodName := ⟨RX6, "<init>", "()V"⟩
def RX7 : String := "CurvedNames$Scratches"
def TX7 : u_T := fun k => match k with
  | 0 => ("CurvedNames$Scratches", "letters", "[I", true)
  | 1 => ("CurvedNames$Scratches", "reaches", "[I", true)
  | _ => ("CurvedNames$Scratches", "count", "I", false)
def tyX7 : Nat → FieldType := fun k => match k with
  | 0 => .array .int
  | 1 => .array .int
  | _ => .int
abbrev wsX70 : List Cond := u_ws RX7 TX7 3
theorem nmX7 : ∀ a, a < 3 → ∀ b, b < 3 → a ≠ b → (TX7 a).2.1 ≠ (TX7 b).2.1 := by decide +kernel
theorem tyX7_ok : ∀ k, k < 3 → parseFieldDescriptor (TX7 k).2.2.1 = some (tyX7 k) := by decide +kernel
abbrev cX7_init : ByteArray := prog_9_method_1_code
def yX7_init : MethodName := ⟨RX7, "<init>", "()V"⟩
abbrev cX7_copyFrom : ByteArray := prog_9_method_2_code
def yX7_copyFrom : MethodName := ⟨RX7, "copyFrom", "(LCurvedNames$Scratches;)V"⟩
abbrev cX7_add : ByteArray := prog_9_method_3_code
def yX7_add : MethodName := ⟨RX7, "add", "(II)V"⟩
abbrev cX7_remove : ByteArray := prog_9_method_4_code
def yX7_remove : MethodName := ⟨RX7, "remove", "(I)V"⟩
abbrev cX7_removeAllOf : ByteArray := prog_9_method_5_code
def yX7_removeAllOf : MethodName := ⟨RX7, "removeAllOf", "(I)I"⟩
abbrev cX7_countOf : ByteArray := prog_9_method_6_code
def yX7_countOf : MethodName := ⟨RX7, "countOf", "(I)I"⟩
def RX8 : String := "CurvedNames$Script"
def TX8 : u_T := fun k => match k with
  | 0 => ("CurvedNames$Script", "steps", "[I", true)
  | 1 => ("CurvedNames$Script", "numbers", "[I", true)
  | 2 => ("CurvedNames$Script", "rounds", "[I", true)
  | 3 => ("CurvedNames$Script", "open", "[I", true)
  | 4 => ("CurvedNames$Script", "size", "I", false)
  | 5 => ("CurvedNames$Script", "commands", "I", false)
  | _ => ("CurvedNames$Script", "depth", "I", false)
def tyX8 : Nat → FieldType := fun k => match k with
  | 0 => .array .int
  | 1 => .array .int
  | 2 => .array .int
  | 3 => .array .int
  | 4 => .int
  | 5 => .int
  | _ => .int
abbrev wsX80 : List Cond := u_ws RX8 TX8 7
theorem nmX8 : ∀ a, a < 7 → ∀ b, b < 7 → a ≠ b → (TX8 a).2.1 ≠ (TX8 b).2.1 := by decide +kernel
theorem tyX8_ok : ∀ k, k < 7 → parseFieldDescriptor (TX8 k).2.2.1 = some (tyX8 k) := by decide +kernel
abbrev cX8_init : ByteArray := prog_10_method_1_code
def yX8_init : MethodName := ⟨RX8, "<init>", "()V"⟩
def RX9 : String := "CurvedNames$TextReader"
def TX9 : u_T := fun k => match k with
  | 0 => ("CurvedNames$TextReader", "isSeedTold", "Z", false)
  | 1 => ("CurvedNames$TextReader", "isSharpTold", "Z", false)
  | _ => ("CurvedNames$TextReader", "isMarginTold", "Z", false)
def tyX9 : Nat → FieldType := fun k => match k with
  | 0 => .boolean
  | 1 => .boolean
  | _ => .boolean
abbrev wsX90 : List Cond := u_ws RX9 TX9 3
theorem nmX9 : ∀ a, a < 3 → ∀ b, b < 3 → a ≠ b → (TX9 a).2.1 ≠ (TX9 b).2.1 := by decide +kernel
theorem tyX9_ok : ∀ k, k < 3 → parseFieldDescriptor (TX9 k).2.2.1 = some (tyX9 k) := by decide +kernel
abbrev cX9_init : ByteArray := prog_11_method_1_code
def yX9_init : MethodName := ⟨RX9, "<init>", "()V"⟩
abbrev cX9_readInto : ByteArray := prog_11_method_2_code
def yX9_readInto : MethodName := ⟨RX9, "readInto", "(LCurvedNames$Plate;LCurvedNames$Tokens;)Z"⟩
abbrev cX9_readStatement : ByteArray := prog_11_method_3_code
def yX9_readStatement : MethodName := ⟨RX9, "readStatement", "(LCurvedNames$Plate;LCurvedNames$Tokens;)Z"⟩
abbrev cX9_readArc : ByteArray := prog_11_method_4_code
def yX9_readArc : MethodName := ⟨RX9, "readArc", "(LCurvedNames$Curve;LCurvedNames$Tokens;)Z"⟩
abbrev cX9_readName : ByteArray := prog_11_method_5_code
def yX9_readName : MethodName := ⟨RX9, "readName", "(LCurvedNames$Name;LCurvedNames$Tokens;)Z"⟩
abbrev cX9_readWide : ByteArray := prog_11_method_6_code
def yX9_readWide : MethodName := ⟨RX9, "readWide", "(LCurvedNames$Name;LCurvedNames$Tokens;)Z"⟩
abbrev cX9_readFlourish : ByteArray := prog_11_method_7_code
def yX9_readFlourish : MethodName := ⟨RX9, "readFlourish", "(LCurvedNames$Kinds;LCurvedNames$Tokens;)Z"⟩
abbrev cX9_readSeed : ByteArray := prog_11_method_8_code
def yX9_readSeed : MethodName := ⟨RX9, "readSeed", "(LCurvedNames$Graver;LCurvedNames$Tokens;)Z"⟩
abbrev cX9_readSharp : ByteArray := prog_11_method_9_code
def yX9_readSharp : MethodName := ⟨RX9, "readSharp", "(LCurvedNames$Graver;LCurvedNames$Tokens;)Z"⟩
abbrev cX9_readMargin : ByteArray := prog_11_method_10_code
def yX9_readMargin : MethodName := ⟨RX9, "readMargin", "(LCurvedNames$Plate;LCurvedNames$Tokens;)Z"⟩
def RX10 : String := "CurvedNames$Tokens"
def TX10 : u_T := fun k => match k with
  | 0 => ("CurvedNames$Tokens", "bytes", "[B", true)
  | 1 => ("CurvedNames$Tokens", "length", "I", false)
  | 2 => ("CurvedNames$Tokens", "kind", "I", false)
  | 3 => ("CurvedNames$Tokens", "start", "I", false)
  | 4 => ("CurvedNames$Tokens", "end", "I", false)
  | 5 => ("CurvedNames$Tokens", "number", "I", false)
  | 6 => ("CurvedNames$Tokens", "failCode", "I", false)
  | _ => ("CurvedNames$Tokens", "failPosition", "I", false)
def tyX10 : Nat → FieldType := fun k => match k with
  | 0 => .array .byte
  | 1 => .int
  | 2 => .int
  | 3 => .int
  | 4 => .int
  | 5 => .int
  | 6 => .int
  | _ => .int
abbrev wsX100 : List Cond := u_ws RX10 TX10 8
theorem nmX10 : ∀ a, a < 8 → ∀ b, b < 8 → a ≠ b → (TX10 a).2.1 ≠ (TX10 b).2.1 := by decide +kernel
theorem tyX10_ok : ∀ k, k < 8 → parseFieldDescriptor (TX10 k).2.2.1 = some (tyX10 k) := by decide +kernel
abbrev cX10_init : ByteArray := prog_12_method_1_code
def yX10_init : MethodName := ⟨RX10, "<init>", "()V"⟩
abbrev cX10_append : ByteArray := prog_12_method_2_code
def yX10_append : MethodName := ⟨RX10, "append", "(I)V"⟩
abbrev cX10_byteAt : ByteArray := prog_12_method_3_code
def yX10_byteAt : MethodName := ⟨RX10, "byteAt", "(I)I"⟩
abbrev cX10_placeAt : ByteArray := prog_12_method_4_code
def yX10_placeAt : MethodName := ⟨RX10, "placeAt", "(I)I"⟩
abbrev cX10_endOfRun : ByteArray := prog_12_method_6_code
def yX10_endOfRun : MethodName := ⟨RX10, "endOfRun", "(III)I"⟩
abbrev cX10_endOfBlanks : ByteArray := prog_12_method_7_code
def yX10_endOfBlanks : MethodName := ⟨RX10, "endOfBlanks", "(I)I"⟩
abbrev cX10_begin : ByteArray := prog_12_method_8_code
def yX10_begin : MethodName := ⟨RX10, "begin", "()V"⟩
abbrev cX10_advance : ByteArray := prog_12_method_9_code
def yX10_advance : MethodName := ⟨RX10, "advance", "()V"⟩
abbrev cX10_isAtEnd : ByteArray := prog_12_method_10_code
def yX10_isAtEnd : MethodName := ⟨RX10, "isAtEnd", "()Z"⟩
abbrev cX10_isAnyWord : ByteArray := prog_12_method_11_code
def yX10_isAnyWord : MethodName := ⟨RX10, "isAnyWord", "()Z"⟩
abbrev cX10_isWord : ByteArray := prog_12_method_12_code
def yX10_isWord : MethodName := ⟨RX10, "isWord", "(Ljava/lang/String;)Z"⟩
abbrev cX10_isSign : ByteArray := prog_12_method_13_code
def yX10_isSign : MethodName := ⟨RX10, "isSign", "(C)Z"⟩
abbrev cX10_fail : ByteArray := prog_12_method_14_code
def yX10_fail : MethodName := ⟨RX10, "fail", "(I)Z"⟩
abbrev cX10_takeIfWord : ByteArray := prog_12_method_15_code
def yX10_takeIfWord : MethodName := ⟨RX10, "takeIfWord", "(Ljava/lang/String;)Z"⟩
abbrev cX10_takeSign : ByteArray := prog_12_method_16_code
def yX10_takeSign : MethodName := ⟨RX10, "takeSign", "(C)Z"⟩
abbrev cX10_takeNumber : ByteArray := prog_12_method_17_code
def yX10_takeNumber : MethodName := ⟨RX10, "takeNumber", "(II)Z"⟩
def RX11 : String := "CurvedNames"
def TX11 : u_T := fun k => match k with
  | 0 => ("CurvedNames", "plate", "LCurvedNames$Plate;", true)
  | 1 => ("CurvedNames", "draft", "LCurvedNames$Plate;", true)
  | 2 => ("CurvedNames", "trial", "LCurvedNames$Plate;", true)
  | 3 => ("CurvedNames", "saved", "LCurvedNames$Plate;", true)
  | 4 => ("CurvedNames", "isSaved", "Z", false)
  | 5 => ("CurvedNames", "past", "[LCurvedNames$Plate;", true)
  | 6 => ("CurvedNames", "changes", "I", false)
  | 7 => ("CurvedNames", "trialGraver", "LCurvedNames$Graver;", true)
  | 8 => ("CurvedNames", "layout", "LCurvedNames$Layout;", true)
  | 9 => ("CurvedNames", "buffer", "LCurvedNames$Tokens;", true)
  | 10 => ("CurvedNames", "textReader", "LCurvedNames$TextReader;", true)
  | 11 => ("CurvedNames", "script", "LCurvedNames$Script;", true)
  | _ => ("CurvedNames", "written", "LCurvedNames$Report;", true)
def tyX11 : Nat → FieldType := fun k => match k with
  | 0 => .object "CurvedNames$Plate"
  | 1 => .object "CurvedNames$Plate"
  | 2 => .object "CurvedNames$Plate"
  | 3 => .object "CurvedNames$Plate"
  | 4 => .boolean
  | 5 => .array (.object "CurvedNames$Plate")
  | 6 => .int
  | 7 => .object "CurvedNames$Graver"
  | 8 => .object "CurvedNames$Layout"
  | 9 => .object "CurvedNames$Tokens"
  | 10 => .object "CurvedNames$TextReader"
  | 11 => .object "CurvedNames$Script"
  | _ => .object "CurvedNames$Report"
abbrev wsX110 : List Cond := u_ws RX11 TX11 13
theorem nmX11 : ∀ a, a < 13 → ∀ b, b < 13 → a ≠ b → (TX11 a).2.1 ≠ (TX11 b).2.1 := by decide +kernel
theorem tyX11_ok : ∀ k, k < 13 → parseFieldDescriptor (TX11 k).2.2.1 = some (tyX11 k) := by decide +kernel
abbrev cX11_init : ByteArray := prog_1_method_1_code
def yX11_init : MethodName := ⟨RX11, "<init>", "()V"⟩
abbrev cX11_feed : ByteArray := prog_1_method_2_code
def yX11_feed : MethodName := ⟨RX11, "feed", "(IIIII)I"⟩
abbrev cX11_truncate : ByteArray := prog_1_method_3_code
def yX11_truncate : MethodName := ⟨RX11, "truncate", "(I)I"⟩
abbrev cX11_readText : ByteArray := prog_1_method_4_code
def yX11_readText : MethodName := ⟨RX11, "readText", "()I"⟩
abbrev cX11_setting : ByteArray := prog_1_method_8_code
def yX11_setting : MethodName := ⟨RX11, "setting", "(I)I"⟩
abbrev cX11_letter : ByteArray := prog_1_method_10_code
def yX11_letter : MethodName := ⟨RX11, "letter", "(II)I"⟩
abbrev cX11_scratch : ByteArray := prog_1_method_11_code
def yX11_scratch : MethodName := ⟨RX11, "scratch", "(II)I"⟩
abbrev cX11_partsAt : ByteArray := prog_1_method_13_code
def yX11_partsAt : MethodName := ⟨RX11, "partsAt", "(I)I"⟩
abbrev cX11_heading : ByteArray := prog_1_method_14_code
def yX11_heading : MethodName := ⟨RX11, "heading", "(I)I"⟩
abbrev cX11_room : ByteArray := prog_1_method_17_code
def yX11_room : MethodName := ⟨RX11, "room", "(I)I"⟩
abbrev cX11_crowded : ByteArray := prog_1_method_18_code
def yX11_crowded : MethodName := ⟨RX11, "crowded", "()I"⟩
abbrev cX11_tightest : ByteArray := prog_1_method_19_code
def yX11_tightest : MethodName := ⟨RX11, "tightest", "()I"⟩
abbrev cX11_flourishIn : ByteArray := prog_1_method_20_code
def yX11_flourishIn : MethodName := ⟨RX11, "flourishIn", "(I)I"⟩
abbrev cX11_stockLeft : ByteArray := prog_1_method_21_code
def yX11_stockLeft : MethodName := ⟨RX11, "stockLeft", "(I)I"⟩
abbrev cX11_worth : ByteArray := prog_1_method_22_code
def yX11_worth : MethodName := ⟨RX11, "worth", "()I"⟩
abbrev cX11_danger : ByteArray := prog_1_method_25_code
def yX11_danger : MethodName := ⟨RX11, "danger", "(I)I"⟩
abbrev cX11_slipsIf : ByteArray := prog_1_method_26_code
def yX11_slipsIf : MethodName := ⟨RX11, "slipsIf", "()I"⟩
abbrev cX11_leastSharp : ByteArray := prog_1_method_27_code
def yX11_leastSharp : MethodName := ⟨RX11, "leastSharp", "()I"⟩
abbrev cX11_engrave : ByteArray := prog_1_method_32_code
def yX11_engrave : MethodName := ⟨RX11, "engrave", "(I)I"⟩
abbrev cX11_engraveAll : ByteArray := prog_1_method_33_code
def yX11_engraveAll : MethodName := ⟨RX11, "engraveAll", "()I"⟩
abbrev cX11_mend : ByteArray := prog_1_method_34_code
def yX11_mend : MethodName := ⟨RX11, "mend", "(I)I"⟩
abbrev cX11_polish : ByteArray := prog_1_method_35_code
def yX11_polish : MethodName := ⟨RX11, "polish", "(I)I"⟩
abbrev cX11_sharpen : ByteArray := prog_1_method_36_code
def yX11_sharpen : MethodName := ⟨RX11, "sharpen", "(I)I"⟩
abbrev cX11_setMargin : ByteArray := prog_1_method_37_code
def yX11_setMargin : MethodName := ⟨RX11, "setMargin", "(I)I"⟩
abbrev cX11_setRadius : ByteArray := prog_1_method_38_code
def yX11_setRadius : MethodName := ⟨RX11, "setRadius", "(II)I"⟩
abbrev cX11_setWidth : ByteArray := prog_1_method_39_code
def yX11_setWidth : MethodName := ⟨RX11, "setWidth", "(II)I"⟩
abbrev cX11_undo : ByteArray := prog_1_method_42_code
def yX11_undo : MethodName := ⟨RX11, "undo", "()I"⟩
abbrev cX11_isWithin : ByteArray := prog_1_method_45_code
def yX11_isWithin : MethodName := ⟨RX11, "isWithin", "(III)Z"⟩
abbrev cX11_isPlace : ByteArray := prog_1_method_46_code
def yX11_isPlace : MethodName := ⟨RX11, "isPlace", "(I)Z"⟩
abbrev cX11_keepForUndo : ByteArray := prog_1_method_47_code
def yX11_keepForUndo : MethodName := ⟨RX11, "keepForUndo", "()V"⟩
abbrev cX11_isSpoiled : ByteArray := prog_1_method_48_code
def yX11_isSpoiled : MethodName := ⟨RX11, "isSpoiled", "(I)Z"⟩
abbrev cX11_letterSpoiledBy : ByteArray := prog_1_method_49_code
def yX11_letterSpoiledBy : MethodName := ⟨RX11, "letterSpoiledBy", "(I)I"⟩
abbrev cX11_spoiledLetters : ByteArray := prog_1_method_50_code
def yX11_spoiledLetters : MethodName := ⟨RX11, "spoiledLetters", "()I"⟩
abbrev cX11_slipsWith : ByteArray := prog_1_method_51_code
def yX11_slipsWith : MethodName := ⟨RX11, "slipsWith", "(I)I"⟩
def RX12 : String := "CurvedNamesLaw$World"
def TX12 : u_T := fun k => match k with
  | 0 => ("CurvedNamesLaw$World", "sharp", "I", false)
  | 1 => ("CurvedNamesLaw$World", "margin", "I", false)
  | 2 => ("CurvedNamesLaw$World", "x", "I", false)
  | 3 => ("CurvedNamesLaw$World", "slips", "I", false)
  | 4 => ("CurvedNamesLaw$World", "strokes", "I", false)
  | 5 => ("CurvedNamesLaw$World", "wide", "[I", false)
  | 6 => ("CurvedNamesLaw$World", "arcs", "Ljava/util/List;", false)
  | 7 => ("CurvedNamesLaw$World", "letters", "Ljava/util/List;", false)
  | 8 => ("CurvedNamesLaw$World", "kinds", "Ljava/util/List;", false)
  | 9 => ("CurvedNamesLaw$World", "scratches", "Ljava/util/List;", false)
  | _ => ("CurvedNamesLaw$World", "text", "Ljava/lang/String;", false)
def tyX12 : Nat → FieldType := fun k => match k with
  | 0 => .int
  | 1 => .int
  | 2 => .int
  | 3 => .int
  | 4 => .int
  | 5 => .array .int
  | 6 => .object "java/util/List"
  | 7 => .object "java/util/List"
  | 8 => .object "java/util/List"
  | 9 => .object "java/util/List"
  | _ => .object "java/lang/String"
abbrev wsX120 : List Cond := u_ws RX12 TX12 11
theorem nmX12 : ∀ a, a < 11 → ∀ b, b < 11 → a ≠ b → (TX12 a).2.1 ≠ (TX12 b).2.1 := by decide +kernel
theorem tyX12_ok : ∀ k, k < 11 → parseFieldDescriptor (TX12 k).2.2.1 = some (tyX12 k) := by decide +kernel
abbrev cX12_init : ByteArray := prog_14_method_1_code
def yX12_init : MethodName := ⟨RX12, "<init>", "()V"⟩
abbrev cX12_grown : ByteArray := prog_14_method_2_code
def yX12_grown : MethodName := ⟨RX12, "grown", "([I)LCurvedNamesLaw$World;"⟩
abbrev cX12_whole : ByteArray := prog_14_method_4_code
def yX12_whole : MethodName := ⟨RX12, "whole", "()I"⟩
abbrev cX12_arcAt : ByteArray := prog_14_method_5_code
def yX12_arcAt : MethodName := ⟨RX12, "arcAt", "(I)I"⟩
abbrev cX12_parts : ByteArray := prog_14_method_6_code
def yX12_parts : MethodName := ⟨RX12, "parts", "(I)I"⟩
abbrev cX12_bend : ByteArray := prog_14_method_7_code
def yX12_bend : MethodName := ⟨RX12, "bend", "(I)I"⟩
abbrev cX12_centre : ByteArray := prog_14_method_8_code
def yX12_centre : MethodName := ⟨RX12, "centre", "(I)I"⟩
abbrev cX12_edge : ByteArray := prog_14_method_9_code
def yX12_edge : MethodName := ⟨RX12, "edge", "(II)I"⟩
abbrev cX12_room : ByteArray := prog_14_method_10_code
def yX12_room : MethodName := ⟨RX12, "room", "(I)I"⟩
abbrev cX12_spoils : ByteArray := prog_14_method_14_code
def yX12_spoils : MethodName := ⟨RX12, "spoils", "([I)I"⟩
abbrev cX12_isSpoiled : ByteArray := prog_14_method_15_code
def yX12_isSpoiled : MethodName := ⟨RX12, "isSpoiled", "(I)Z"⟩
abbrev cX12_scratchesOf : ByteArray := prog_14_method_16_code
def yX12_scratchesOf : MethodName := ⟨RX12, "scratchesOf", "(I)I"⟩
abbrev cX12_draw : ByteArray := prog_14_method_17_code
def yX12_draw : MethodName := ⟨RX12, "draw", "(I)I"⟩
abbrev cX12_hard : ByteArray := prog_14_method_18_code
def yX12_hard : MethodName := ⟨RX12, "hard", "(I)I"⟩
abbrev cX12_engrave : ByteArray := prog_14_method_19_code
def yX12_engrave : MethodName := ⟨RX12, "engrave", "(I)I"⟩
abbrev cX12_engraveAll : ByteArray := prog_14_method_20_code
def yX12_engraveAll : MethodName := ⟨RX12, "engraveAll", "(I)I"⟩
abbrev cX12_engraved : ByteArray := prog_14_method_21_code
def yX12_engraved : MethodName := ⟨RX12, "engraved", "()I"⟩
def RX13 : String := "CurvedNamesModel"
def TX13 : u_T := fun k => match k with
  | _ => ("", "", "", false)
def tyX13 : Nat → FieldType := fun k => match k with
  | _ => .int
abbrev wsX130 : List Cond := u_ws RX13 TX13 0
theorem nmX13 : ∀ a, a < 0 → ∀ b, b < 0 → a ≠ b → (TX13 a).2.1 ≠ (TX13 b).2.1 := by decide +kernel
theorem tyX13_ok : ∀ k, k < 0 → parseFieldDescriptor (TX13 k).2.2.1 = some (tyX13 k) := by decide +kernel
def RJx145de : String := "java/io/Serializable"
def TJx145de : u_T := fun k => match k with
  | _ => ("", "", "", false)
def tyJx145de : Nat → FieldType := fun k => match k with
  | _ => .int
abbrev wsJx145de0 : List Cond := u_ws RJx145de TJx145de 0
theorem nmJx145de : ∀ a, a < 0 → ∀ b, b < 0 → a ≠ b → (TJx145de a).2.1 ≠ (TJx145de b).2.1 := by decide +kernel
theorem tyJx145de_ok : ∀ k, k < 0 → parseFieldDescriptor (TJx145de k).2.2.1 = some (tyJx145de k) := by decide +kernel
def RJ5 : String := "java/lang/AbstractStringBuilder"
def TJ5 : u_T := fun k => match k with
  | _ => ("", "", "", false)
def tyJ5 : Nat → FieldType := fun k => match k with
  | _ => .int
abbrev wsJ50 : List Cond := u_ws RJ5 TJ5 0
theorem nmJ5 : ∀ a, a < 0 → ∀ b, b < 0 → a ≠ b → (TJ5 a).2.1 ≠ (TJ5 b).2.1 := by decide +kernel
theorem tyJ5_ok : ∀ k, k < 0 → parseFieldDescriptor (TJ5 k).2.2.1 = some (tyJ5 k) := by decide +kernel
abbrev cJ5_init_d00df : ByteArray := prog_17_method_2_code
def yJ5_init_d00df : MethodName := ⟨RJ5, "<init>", "(I)V"⟩
abbrev cJ5_length_8abf5 : ByteArray := prog_17_method_6_code
def yJ5_length_8abf5 : MethodName := ⟨RJ5, "length", "()I"⟩
abbrev cJ5_ensureCapacityInternal_d00df : ByteArray := prog_17_method_9_code
def yJ5_ensureCapacityInternal_d00df : MethodName := ⟨RJ5, "ensureCapacityInternal", "(I)V"⟩
abbrev cJ5_newCapacity_0f7a4 : ByteArray := prog_17_method_10_code
def yJ5_newCapacity_0f7a4 : MethodName := ⟨RJ5, "newCapacity", "(I)I"⟩
abbrev cJ5_inflate_da8c8 : ByteArray := prog_17_method_11_code
def yJ5_inflate_da8c8 : MethodName := ⟨RJ5, "inflate", "()V"⟩
abbrev cJ5_append_cf1ce : ByteArray := prog_17_method_22_code
def yJ5_append_cf1ce : MethodName := ⟨RJ5, "append", "(Ljava/lang/String;)Ljava/lang/AbstractStringBuilder;"⟩
abbrev cJ5_appendNull_278bc : ByteArray := prog_17_method_26_code
def yJ5_appendNull_278bc : MethodName := ⟨RJ5, "appendNull", "()Ljava/lang/AbstractStringBuilder;"⟩
abbrev cJ5_append_3fe6f : ByteArray := prog_17_method_31_code
def yJ5_append_3fe6f : MethodName := ⟨RJ5, "append", "(C)Ljava/lang/AbstractStringBuilder;"⟩
abbrev cJ5_append_c97b9 : ByteArray := prog_17_method_32_code
def yJ5_append_c97b9 : MethodName := ⟨RJ5, "append", "(I)Ljava/lang/AbstractStringBuilder;"⟩
abbrev cJ5_getValue_6d5f1 : ByteArray := prog_17_method_64_code
def yJ5_getValue_6d5f1 : MethodName := ⟨RJ5, "getValue", "()[B"⟩
abbrev cJ5_isLatin1_aae02 : ByteArray := prog_17_method_68_code
def yJ5_isLatin1_aae02 : MethodName := ⟨RJ5, "isLatin1", "()Z"⟩
abbrev cJ5_inflateIfNeededFor_a7421 : ByteArray := prog_17_method_71_code
def yJ5_inflateIfNeededFor_a7421 : MethodName := ⟨RJ5, "inflateIfNeededFor", "(Ljava/lang/String;)V"⟩
abbrev cJ5_putStringAt_47b60 : ByteArray := prog_17_method_73_code
def yJ5_putStringAt_47b60 : MethodName := ⟨RJ5, "putStringAt", "(ILjava/lang/String;)V"⟩
def RJx2cfe8 : String := "java/lang/Appendable"
def TJx2cfe8 : u_T := fun k => match k with
  | _ => ("", "", "", false)
def tyJx2cfe8 : Nat → FieldType := fun k => match k with
  | _ => .int
abbrev wsJx2cfe80 : List Cond := u_ws RJx2cfe8 TJx2cfe8 0
theorem nmJx2cfe8 : ∀ a, a < 0 → ∀ b, b < 0 → a ≠ b → (TJx2cfe8 a).2.1 ≠ (TJx2cfe8 b).2.1 := by decide +kernel
theorem tyJx2cfe8_ok : ∀ k, k < 0 → parseFieldDescriptor (TJx2cfe8 k).2.2.1 = some (tyJx2cfe8 k) := by decide +kernel
def RJx9f9b0 : String := "java/lang/CharSequence"
def TJx9f9b0 : u_T := fun k => match k with
  | _ => ("", "", "", false)
def tyJx9f9b0 : Nat → FieldType := fun k => match k with
  | _ => .int
abbrev wsJx9f9b00 : List Cond := u_ws RJx9f9b0 TJx9f9b0 0
theorem nmJx9f9b0 : ∀ a, a < 0 → ∀ b, b < 0 → a ≠ b → (TJx9f9b0 a).2.1 ≠ (TJx9f9b0 b).2.1 := by decide +kernel
theorem tyJx9f9b0_ok : ∀ k, k < 0 → parseFieldDescriptor (TJx9f9b0 k).2.2.1 = some (tyJx9f9b0 k) := by decide +kernel
def RJx8e188 : String := "java/lang/Cloneable"
def TJx8e188 : u_T := fun k => match k with
  | _ => ("", "", "", false)
def tyJx8e188 : Nat → FieldType := fun k => match k with
  | _ => .int
abbrev wsJx8e1880 : List Cond := u_ws RJx8e188 TJx8e188 0
theorem nmJx8e188 : ∀ a, a < 0 → ∀ b, b < 0 → a ≠ b → (TJx8e188 a).2.1 ≠ (TJx8e188 b).2.1 := by decide +kernel
theorem tyJx8e188_ok : ∀ k, k < 0 → parseFieldDescriptor (TJx8e188 k).2.2.1 = some (tyJx8e188 k) := by decide +kernel
def RJxb160c : String := "java/lang/Comparable"
def TJxb160c : u_T := fun k => match k with
  | _ => ("", "", "", false)
def tyJxb160c : Nat → FieldType := fun k => match k with
  | _ => .int
abbrev wsJxb160c0 : List Cond := u_ws RJxb160c TJxb160c 0
theorem nmJxb160c : ∀ a, a < 0 → ∀ b, b < 0 → a ≠ b → (TJxb160c a).2.1 ≠ (TJxb160c b).2.1 := by decide +kernel
theorem tyJxb160c_ok : ∀ k, k < 0 → parseFieldDescriptor (TJxb160c k).2.2.1 = some (tyJxb160c k) := by decide +kernel
def RJ6 : String := "java/lang/Integer"
def TJ6 : u_T := fun k => match k with
  | _ => ("", "", "", false)
def tyJ6 : Nat → FieldType := fun k => match k with
  | _ => .int
abbrev wsJ60 : List Cond := u_ws RJ6 TJ6 0
theorem nmJ6 : ∀ a, a < 0 → ∀ b, b < 0 → a ≠ b → (TJ6 a).2.1 ≠ (TJ6 b).2.1 := by decide +kernel
theorem tyJ6_ok : ∀ k, k < 0 → parseFieldDescriptor (TJ6 k).2.2.1 = some (tyJ6 k) := by decide +kernel
abbrev cJ6_getChars_ba4f3 : ByteArray := prog_26_method_12_code
def yJ6_getChars_ba4f3 : MethodName := ⟨RJ6, "getChars", "(II[B)I"⟩
abbrev cJ6_stringSize_0f7a4 : ByteArray := prog_26_method_13_code
def yJ6_stringSize_0f7a4 : MethodName := ⟨RJ6, "stringSize", "(I)I"⟩
def RJxab1ab : String := "java/lang/Iterable"
def TJxab1ab : u_T := fun k => match k with
  | _ => ("", "", "", false)
def tyJxab1ab : Nat → FieldType := fun k => match k with
  | _ => .int
abbrev wsJxab1ab0 : List Cond := u_ws RJxab1ab TJxab1ab 0
theorem nmJxab1ab : ∀ a, a < 0 → ∀ b, b < 0 → a ≠ b → (TJxab1ab a).2.1 ≠ (TJxab1ab b).2.1 := by decide +kernel
theorem tyJxab1ab_ok : ∀ k, k < 0 → parseFieldDescriptor (TJxab1ab k).2.2.1 = some (tyJxab1ab k) := by decide +kernel
def RJ9 : String := "java/lang/Math"
def TJ9 : u_T := fun k => match k with
  | _ => ("", "", "", false)
def tyJ9 : Nat → FieldType := fun k => match k with
  | _ => .int
abbrev wsJ90 : List Cond := u_ws RJ9 TJ9 0
theorem nmJ9 : ∀ a, a < 0 → ∀ b, b < 0 → a ≠ b → (TJ9 a).2.1 ≠ (TJ9 b).2.1 := by decide +kernel
theorem tyJ9_ok : ∀ k, k < 0 → parseFieldDescriptor (TJ9 k).2.2.1 = some (tyJ9 k) := by decide +kernel
abbrev cJ9_floorMod_7cf53 : ByteArray := prog_28_method_50_code
def yJ9_floorMod_7cf53 : MethodName := ⟨RJ9, "floorMod", "(II)I"⟩
abbrev cJ9_max_7cf53 : ByteArray := prog_28_method_65_code
def yJ9_max_7cf53 : MethodName := ⟨RJ9, "max", "(II)I"⟩
abbrev cJ9_min_7cf53 : ByteArray := prog_28_method_69_code
def yJ9_min_7cf53 : MethodName := ⟨RJ9, "min", "(II)I"⟩
def RJxd2413 : String := "java/lang/Number"
def TJxd2413 : u_T := fun k => match k with
  | _ => ("", "", "", false)
def tyJxd2413 : Nat → FieldType := fun k => match k with
  | _ => .int
abbrev wsJxd24130 : List Cond := u_ws RJxd2413 TJxd2413 0
theorem nmJxd2413 : ∀ a, a < 0 → ∀ b, b < 0 → a ≠ b → (TJxd2413 a).2.1 ≠ (TJxd2413 b).2.1 := by decide +kernel
theorem tyJxd2413_ok : ∀ k, k < 0 → parseFieldDescriptor (TJxd2413 k).2.2.1 = some (tyJxd2413 k) := by decide +kernel
def RJ0 : String := "java/lang/String"
def TJ0 : u_T := fun k => match k with
  | 0 => ("java/lang/String", "value", "[B", true)
  | 1 => ("java/lang/String", "coder", "B", true)
  | 2 => ("java/lang/String", "hash", "I", false)
  | _ => ("java/lang/String", "hashIsZero", "Z", false)
def tyJ0 : Nat → FieldType := fun k => match k with
  | 0 => .array .byte
  | 1 => .byte
  | 2 => .int
  | _ => .boolean
abbrev wsJ00 : List Cond := u_ws RJ0 TJ0 4
theorem nmJ0 : ∀ a, a < 4 → ∀ b, b < 4 → a ≠ b → (TJ0 a).2.1 ≠ (TJ0 b).2.1 := by decide +kernel
theorem tyJ0_ok : ∀ k, k < 4 → parseFieldDescriptor (TJ0 k).2.2.1 = some (tyJ0 k) := by decide +kernel
abbrev cJ0_init_81219 : ByteArray := prog_31_method_53_code
def yJ0_init_81219 : MethodName := ⟨RJ0, "<init>", "(Ljava/lang/StringBuilder;)V"⟩
abbrev cJ0_length_8abf5 : ByteArray := prog_31_method_54_code
def yJ0_length_8abf5 : MethodName := ⟨RJ0, "length", "()I"⟩
abbrev cJ0_isEmpty_aae02 : ByteArray := prog_31_method_55_code
def yJ0_isEmpty_aae02 : MethodName := ⟨RJ0, "isEmpty", "()Z"⟩
abbrev cJ0_charAt_5068e : ByteArray := prog_31_method_56_code
def yJ0_charAt_5068e : MethodName := ⟨RJ0, "charAt", "(I)C"⟩
abbrev cJ0_getBytes_840e7 : ByteArray := prog_31_method_147_code
def yJ0_getBytes_840e7 : MethodName := ⟨RJ0, "getBytes", "([BIB)V"⟩
abbrev cJ0_init_db425 : ByteArray := prog_31_method_150_code
def yJ0_init_db425 : MethodName := ⟨RJ0, "<init>", "(Ljava/lang/AbstractStringBuilder;Ljava/lang/Void;)V"⟩
abbrev cJ0_coder_7d493 : ByteArray := prog_31_method_152_code
def yJ0_coder_7d493 : MethodName := ⟨RJ0, "coder", "()B"⟩
abbrev cJ0_isLatin1_aae02 : ByteArray := prog_31_method_154_code
def yJ0_isLatin1_aae02 : MethodName := ⟨RJ0, "isLatin1", "()Z"⟩
abbrev cJ0_checkIndex_df160 : ByteArray := prog_31_method_155_code
def yJ0_checkIndex_df160 : MethodName := ⟨RJ0, "checkIndex", "(II)V"⟩
abbrev cJ0_checkBoundsOffCount_cabcc : ByteArray := prog_31_method_157_code
def yJ0_checkBoundsOffCount_cabcc : MethodName := ⟨RJ0, "checkBoundsOffCount", "(III)I"⟩
abbrev cJ0_checkBoundsBeginEnd_23922 : ByteArray := prog_31_method_158_code
def yJ0_checkBoundsBeginEnd_23922 : MethodName := ⟨RJ0, "checkBoundsBeginEnd", "(III)V"⟩
def RJ4 : String := "java/lang/StringBuilder"
def TJ4 : u_T := fun k => match k with
  | 0 => ("java/lang/AbstractStringBuilder", "value", "[B", false)
  | 1 => ("java/lang/AbstractStringBuilder", "coder", "B", false)
  | 2 => ("java/lang/AbstractStringBuilder", "maybeLatin1", "Z", false)
  | _ => ("java/lang/AbstractStringBuilder", "count", "I", false)
def tyJ4 : Nat → FieldType := fun k => match k with
  | 0 => .array .byte
  | 1 => .byte
  | 2 => .boolean
  | _ => .int
abbrev wsJ40 : List Cond := u_ws RJ4 TJ4 4
theorem nmJ4 : ∀ a, a < 4 → ∀ b, b < 4 → a ≠ b → (TJ4 a).2.1 ≠ (TJ4 b).2.1 := by decide +kernel
theorem tyJ4_ok : ∀ k, k < 4 → parseFieldDescriptor (TJ4 k).2.2.1 = some (tyJ4 k) := by decide +kernel
abbrev cJ4_init_da8c8 : ByteArray := prog_32_method_1_code
def yJ4_init_da8c8 : MethodName := ⟨RJ4, "<init>", "()V"⟩
abbrev cJ4_append_15ec4 : ByteArray := prog_32_method_7_code
def yJ4_append_15ec4 : MethodName := ⟨RJ4, "append", "(Ljava/lang/String;)Ljava/lang/StringBuilder;"⟩
abbrev cJ4_append_cf468 : ByteArray := prog_32_method_14_code
def yJ4_append_cf468 : MethodName := ⟨RJ4, "append", "(C)Ljava/lang/StringBuilder;"⟩
abbrev cJ4_append_bf812 : ByteArray := prog_32_method_15_code
def yJ4_append_bf812 : MethodName := ⟨RJ4, "append", "(I)Ljava/lang/StringBuilder;"⟩
abbrev cJ4_toString_0e30d : ByteArray := prog_32_method_42_code
def yJ4_toString_0e30d : MethodName := ⟨RJ4, "toString", "()Ljava/lang/String;"⟩
abbrev cJ4_length_8abf5 : ByteArray := prog_32_method_93_code
def yJ4_length_8abf5 : MethodName := ⟨RJ4, "length", "()I"⟩
def RJ1 : String := "java/lang/StringLatin1"
def TJ1 : u_T := fun k => match k with
  | _ => ("", "", "", false)
def tyJ1 : Nat → FieldType := fun k => match k with
  | _ => .int
abbrev wsJ10 : List Cond := u_ws RJ1 TJ1 0
theorem nmJ1 : ∀ a, a < 0 → ∀ b, b < 0 → a ≠ b → (TJ1 a).2.1 ≠ (TJ1 b).2.1 := by decide +kernel
theorem tyJ1_ok : ∀ k, k < 0 → parseFieldDescriptor (TJ1 k).2.2.1 = some (tyJ1 k) := by decide +kernel
abbrev cJ1_charAt_3b067 : ByteArray := prog_33_method_2_code
def yJ1_charAt_3b067 : MethodName := ⟨RJ1, "charAt", "([BI)C"⟩
abbrev cJ1_canEncode_fc78d : ByteArray := prog_33_method_3_code
def yJ1_canEncode_fc78d : MethodName := ⟨RJ1, "canEncode", "(C)Z"⟩
abbrev cJ1_inflate_0e8fd : ByteArray := prog_33_method_50_code
def yJ1_inflate_0e8fd : MethodName := ⟨RJ1, "inflate", "([BI[BII)V"⟩
def RJ2 : String := "java/lang/StringUTF16"
def TJ2 : u_T := fun k => match k with
  | _ => ("", "", "", false)
def tyJ2 : Nat → FieldType := fun k => match k with
  | _ => .int
abbrev wsJ20 : List Cond := u_ws RJ2 TJ2 0
theorem nmJ2 : ∀ a, a < 0 → ∀ b, b < 0 → a ≠ b → (TJ2 a).2.1 ≠ (TJ2 b).2.1 := by decide +kernel
theorem tyJ2_ok : ∀ k, k < 0 → parseFieldDescriptor (TJ2 k).2.2.1 = some (tyJ2 k) := by decide +kernel
abbrev cJ2_newBytesFor_77867 : ByteArray := prog_34_method_2_code
def yJ2_newBytesFor_77867 : MethodName := ⟨RJ2, "newBytesFor", "(I)[B"⟩
abbrev cJ2_newBytesLength_0f7a4 : ByteArray := prog_34_method_3_code
def yJ2_newBytesLength_0f7a4 : MethodName := ⟨RJ2, "newBytesLength", "(I)I"⟩
abbrev cJ2_putChar_b72d1 : ByteArray := prog_34_method_4_code
def yJ2_putChar_b72d1 : MethodName := ⟨RJ2, "putChar", "([BII)V"⟩
abbrev cJ2_getChar_3b067 : ByteArray := prog_34_method_5_code
def yJ2_getChar_3b067 : MethodName := ⟨RJ2, "getChar", "([BI)C"⟩
abbrev cJ2_length_9d52b : ByteArray := prog_34_method_6_code
def yJ2_length_9d52b : MethodName := ⟨RJ2, "length", "([B)I"⟩
abbrev cJ2_coderFromArrayLen_85cad : ByteArray := prog_34_method_15_code
def yJ2_coderFromArrayLen_85cad : MethodName := ⟨RJ2, "coderFromArrayLen", "([BI)B"⟩
abbrev cJ2_compress_39247 : ByteArray := prog_34_method_17_code
def yJ2_compress_39247 : MethodName := ⟨RJ2, "compress", "([BII)[B"⟩
abbrev cJ2_compress_5af95 : ByteArray := prog_34_method_22_code
def yJ2_compress_5af95 : MethodName := ⟨RJ2, "compress", "([BI[BII)I"⟩
abbrev cJ2_putCharSB_b72d1 : ByteArray := prog_34_method_71_code
def yJ2_putCharSB_b72d1 : MethodName := ⟨RJ2, "putCharSB", "([BII)V"⟩
abbrev cJ2_getChars_46870 : ByteArray := prog_34_method_77_code
def yJ2_getChars_46870 : MethodName := ⟨RJ2, "getChars", "(III[B)I"⟩
abbrev cJ2_putCharsAt_cd4e5 : ByteArray := prog_34_method_81_code
def yJ2_putCharsAt_cd4e5 : MethodName := ⟨RJ2, "putCharsAt", "([BICCCC)I"⟩
abbrev cJ2_charAt_3b067 : ByteArray := prog_34_method_83_code
def yJ2_charAt_3b067 : MethodName := ⟨RJ2, "charAt", "([BI)C"⟩
abbrev cJ2_inflate_0e8fd : ByteArray := prog_34_method_86_code
def yJ2_inflate_0e8fd : MethodName := ⟨RJ2, "inflate", "([BI[BII)V"⟩
abbrev cJ2_getChars_ba4f3 : ByteArray := prog_34_method_89_code
def yJ2_getChars_ba4f3 : MethodName := ⟨RJ2, "getChars", "(II[B)I"⟩
abbrev cJ2_checkIndex_2214a : ByteArray := prog_34_method_91_code
def yJ2_checkIndex_2214a : MethodName := ⟨RJ2, "checkIndex", "(I[B)V"⟩
abbrev cJ2_checkBoundsBeginEnd_d044e : ByteArray := prog_34_method_93_code
def yJ2_checkBoundsBeginEnd_d044e : MethodName := ⟨RJ2, "checkBoundsBeginEnd", "(II[B)V"⟩
abbrev cJ2_checkBoundsOffCount_d044e : ByteArray := prog_34_method_94_code
def yJ2_checkBoundsOffCount_d044e : MethodName := ⟨RJ2, "checkBoundsOffCount", "(II[B)V"⟩
def RJ10 : String := "java/lang/System"
def TJ10 : u_T := fun k => match k with
  | _ => ("", "", "", false)
def tyJ10 : Nat → FieldType := fun k => match k with
  | _ => .int
abbrev wsJ100 : List Cond := u_ws RJ10 TJ10 0
theorem nmJ10 : ∀ a, a < 0 → ∀ b, b < 0 → a ≠ b → (TJ10 a).2.1 ≠ (TJ10 b).2.1 := by decide +kernel
theorem tyJ10_ok : ∀ k, k < 0 → parseFieldDescriptor (TJ10 k).2.2.1 = some (tyJ10 k) := by decide +kernel
def RJxfd54e : String := "java/lang/constant/Constable"
def TJxfd54e : u_T := fun k => match k with
  | _ => ("", "", "", false)
def tyJxfd54e : Nat → FieldType := fun k => match k with
  | _ => .int
abbrev wsJxfd54e0 : List Cond := u_ws RJxfd54e TJxfd54e 0
theorem nmJxfd54e : ∀ a, a < 0 → ∀ b, b < 0 → a ≠ b → (TJxfd54e a).2.1 ≠ (TJxfd54e b).2.1 := by decide +kernel
theorem tyJxfd54e_ok : ∀ k, k < 0 → parseFieldDescriptor (TJxfd54e k).2.2.1 = some (tyJxfd54e k) := by decide +kernel
def RJx3cf43 : String := "java/lang/constant/ConstantDesc"
def TJx3cf43 : u_T := fun k => match k with
  | _ => ("", "", "", false)
def tyJx3cf43 : Nat → FieldType := fun k => match k with
  | _ => .int
abbrev wsJx3cf430 : List Cond := u_ws RJx3cf43 TJx3cf43 0
theorem nmJx3cf43 : ∀ a, a < 0 → ∀ b, b < 0 → a ≠ b → (TJx3cf43 a).2.1 ≠ (TJx3cf43 b).2.1 := by decide +kernel
theorem tyJx3cf43_ok : ∀ k, k < 0 → parseFieldDescriptor (TJx3cf43 k).2.2.1 = some (tyJx3cf43 k) := by decide +kernel
def RJxa1e45 : String := "java/util/AbstractCollection"
def TJxa1e45 : u_T := fun k => match k with
  | _ => ("", "", "", false)
def tyJxa1e45 : Nat → FieldType := fun k => match k with
  | _ => .int
abbrev wsJxa1e450 : List Cond := u_ws RJxa1e45 TJxa1e45 0
theorem nmJxa1e45 : ∀ a, a < 0 → ∀ b, b < 0 → a ≠ b → (TJxa1e45 a).2.1 ≠ (TJxa1e45 b).2.1 := by decide +kernel
theorem tyJxa1e45_ok : ∀ k, k < 0 → parseFieldDescriptor (TJxa1e45 k).2.2.1 = some (tyJxa1e45 k) := by decide +kernel
abbrev cJxa1e45_init_da8c8 : ByteArray := prog_39_method_1_code
def yJxa1e45_init_da8c8 : MethodName := ⟨RJxa1e45, "<init>", "()V"⟩
def RJxc12de : String := "java/util/AbstractList"
def TJxc12de : u_T := fun k => match k with
  | _ => ("", "", "", false)
def tyJxc12de : Nat → FieldType := fun k => match k with
  | _ => .int
abbrev wsJxc12de0 : List Cond := u_ws RJxc12de TJxc12de 0
theorem nmJxc12de : ∀ a, a < 0 → ∀ b, b < 0 → a ≠ b → (TJxc12de a).2.1 ≠ (TJxc12de b).2.1 := by decide +kernel
theorem tyJxc12de_ok : ∀ k, k < 0 → parseFieldDescriptor (TJxc12de k).2.2.1 = some (tyJxc12de k) := by decide +kernel
abbrev cJxc12de_init_da8c8 : ByteArray := prog_40_method_1_code
def yJxc12de_init_da8c8 : MethodName := ⟨RJxc12de, "<init>", "()V"⟩
def RJx35411 : String := "java/util/ArrayList$Itr"
def TJx35411 : u_T := fun k => match k with
  | 0 => ("java/util/ArrayList$Itr", "cursor", "I", false)
  | 1 => ("java/util/ArrayList$Itr", "lastRet", "I", false)
  | 2 => ("java/util/ArrayList$Itr", "expectedModCount", "I", false)
  | _ => ("java/util/ArrayList$Itr", "this$0", "Ljava/util/ArrayList;", true)
def tyJx35411 : Nat → FieldType := fun k => match k with
  | 0 => .int
  | 1 => .int
  | 2 => .int
  | _ => .object "java/util/ArrayList"
abbrev wsJx354110 : List Cond := u_ws RJx35411 TJx35411 4
theorem nmJx35411 : ∀ a, a < 4 → ∀ b, b < 4 → a ≠ b → (TJx35411 a).2.1 ≠ (TJx35411 b).2.1 := by decide +kernel
theorem tyJx35411_ok : ∀ k, k < 4 → parseFieldDescriptor (TJx35411 k).2.2.1 = some (tyJx35411 k) := by decide +kernel
abbrev cJx35411_init_45d68 : ByteArray := prog_42_method_1_code
def yJx35411_init_45d68 : MethodName := ⟨RJx35411, "<init>", "(Ljava/util/ArrayList;)V"⟩
abbrev cJx35411_hasNext_aae02 : ByteArray := prog_42_method_2_code
def yJx35411_hasNext_aae02 : MethodName := ⟨RJx35411, "hasNext", "()Z"⟩
abbrev cJx35411_next_0502b : ByteArray := prog_42_method_3_code
def yJx35411_next_0502b : MethodName := ⟨RJx35411, "next", "()Ljava/lang/Object;"⟩
abbrev cJx35411_checkForComodification_da8c8 : ByteArray := prog_42_method_6_code
def yJx35411_checkForComodification_da8c8 : MethodName := ⟨RJx35411, "checkForComodification", "()V"⟩
def RJx4a65c : String := "java/util/ArrayList"
def TJx4a65c : u_T := fun k => match k with
  | 0 => ("java/util/AbstractList", "modCount", "I", false)
  | 1 => ("java/util/ArrayList", "elementData", "[Ljava/lang/Object;", false)
  | _ => ("java/util/ArrayList", "size", "I", false)
def tyJx4a65c : Nat → FieldType := fun k => match k with
  | 0 => .int
  | 1 => .array (.object "java/lang/Object")
  | _ => .int
abbrev wsJx4a65c0 : List Cond := u_ws RJx4a65c TJx4a65c 3
theorem nmJx4a65c : ∀ a, a < 3 → ∀ b, b < 3 → a ≠ b → (TJx4a65c a).2.1 ≠ (TJx4a65c b).2.1 := by decide +kernel
theorem tyJx4a65c_ok : ∀ k, k < 3 → parseFieldDescriptor (TJx4a65c k).2.2.1 = some (tyJx4a65c k) := by decide +kernel
abbrev cJx4a65c_init_da8c8 : ByteArray := prog_41_method_2_code
def yJx4a65c_init_da8c8 : MethodName := ⟨RJx4a65c, "<init>", "()V"⟩
abbrev cJx4a65c_grow_92f84 : ByteArray := prog_41_method_6_code
def yJx4a65c_grow_92f84 : MethodName := ⟨RJx4a65c, "grow", "(I)[Ljava/lang/Object;"⟩
abbrev cJx4a65c_grow_d5877 : ByteArray := prog_41_method_7_code
def yJx4a65c_grow_d5877 : MethodName := ⟨RJx4a65c, "grow", "()[Ljava/lang/Object;"⟩
abbrev cJx4a65c_size_8abf5 : ByteArray := prog_41_method_8_code
def yJx4a65c_size_8abf5 : MethodName := ⟨RJx4a65c, "size", "()I"⟩
abbrev cJx4a65c_isEmpty_aae02 : ByteArray := prog_41_method_9_code
def yJx4a65c_isEmpty_aae02 : MethodName := ⟨RJx4a65c, "isEmpty", "()Z"⟩
abbrev cJx4a65c_elementData_915e3 : ByteArray := prog_41_method_18_code
def yJx4a65c_elementData_915e3 : MethodName := ⟨RJx4a65c, "elementData", "(I)Ljava/lang/Object;"⟩
abbrev cJx4a65c_get_915e3 : ByteArray := prog_41_method_20_code
def yJx4a65c_get_915e3 : MethodName := ⟨RJx4a65c, "get", "(I)Ljava/lang/Object;"⟩
abbrev cJx4a65c_add_72be8 : ByteArray := prog_41_method_24_code
def yJx4a65c_add_72be8 : MethodName := ⟨RJx4a65c, "add", "(Ljava/lang/Object;[Ljava/lang/Object;I)V"⟩
abbrev cJx4a65c_add_9ea2d : ByteArray := prog_41_method_25_code
def yJx4a65c_add_9ea2d : MethodName := ⟨RJx4a65c, "add", "(Ljava/lang/Object;)Z"⟩
abbrev cJx4a65c_remove_915e3 : ByteArray := prog_41_method_29_code
def yJx4a65c_remove_915e3 : MethodName := ⟨RJx4a65c, "remove", "(I)Ljava/lang/Object;"⟩
abbrev cJx4a65c_fastRemove_b59b0 : ByteArray := prog_41_method_39_code
def yJx4a65c_fastRemove_b59b0 : MethodName := ⟨RJx4a65c, "fastRemove", "([Ljava/lang/Object;I)V"⟩
abbrev cJx4a65c_iterator_32c93 : ByteArray := prog_41_method_55_code
def yJx4a65c_iterator_32c93 : MethodName := ⟨RJx4a65c, "iterator", "()Ljava/util/Iterator;"⟩
def RJ7 : String := "java/util/Arrays"
def TJ7 : u_T := fun k => match k with
  | _ => ("", "", "", false)
def tyJ7 : Nat → FieldType := fun k => match k with
  | _ => .int
abbrev wsJ70 : List Cond := u_ws RJ7 TJ7 0
theorem nmJ7 : ∀ a, a < 0 → ∀ b, b < 0 → a ≠ b → (TJ7 a).2.1 ≠ (TJ7 b).2.1 := by decide +kernel
theorem tyJ7_ok : ∀ k, k < 0 → parseFieldDescriptor (TJ7 k).2.2.1 = some (tyJ7 k) := by decide +kernel
abbrev cJ7_fill_53178 : ByteArray := prog_43_method_103_code
def yJ7_fill_53178 : MethodName := ⟨RJ7, "fill", "([II)V"⟩
abbrev cJ7_copyOf_1904c : ByteArray := prog_43_method_119_code
def yJ7_copyOf_1904c : MethodName := ⟨RJ7, "copyOf", "([Ljava/lang/Object;I)[Ljava/lang/Object;"⟩
abbrev cJ7_copyOf_6403c : ByteArray := prog_43_method_120_code
def yJ7_copyOf_6403c : MethodName := ⟨RJ7, "copyOf", "([Ljava/lang/Object;ILjava/lang/Class;)[Ljava/lang/Object;"⟩
abbrev cJ7_copyOf_9075b : ByteArray := prog_43_method_121_code
def yJ7_copyOf_9075b : MethodName := ⟨RJ7, "copyOf", "([BI)[B"⟩
abbrev cJ7_checkLength_df160 : ByteArray := prog_43_method_131_code
def yJ7_checkLength_df160 : MethodName := ⟨RJ7, "checkLength", "(II)V"⟩
abbrev cJ7_copyOfRange_39247 : ByteArray := prog_43_method_132_code
def yJ7_copyOfRange_39247 : MethodName := ⟨RJ7, "copyOfRange", "([BII)[B"⟩
abbrev cJ7_copyOfRangeByte_39247 : ByteArray := prog_43_method_133_code
def yJ7_copyOfRangeByte_39247 : MethodName := ⟨RJ7, "copyOfRangeByte", "([BII)[B"⟩
def RJx5ef63 : String := "java/util/Collection"
def TJx5ef63 : u_T := fun k => match k with
  | _ => ("", "", "", false)
def tyJx5ef63 : Nat → FieldType := fun k => match k with
  | _ => .int
abbrev wsJx5ef630 : List Cond := u_ws RJx5ef63 TJx5ef63 0
theorem nmJx5ef63 : ∀ a, a < 0 → ∀ b, b < 0 → a ≠ b → (TJx5ef63 a).2.1 ≠ (TJx5ef63 b).2.1 := by decide +kernel
theorem tyJx5ef63_ok : ∀ k, k < 0 → parseFieldDescriptor (TJx5ef63 k).2.2.1 = some (tyJx5ef63 k) := by decide +kernel
def RJx4d0d8 : String := "java/util/Iterator"
def TJx4d0d8 : u_T := fun k => match k with
  | _ => ("", "", "", false)
def tyJx4d0d8 : Nat → FieldType := fun k => match k with
  | _ => .int
abbrev wsJx4d0d80 : List Cond := u_ws RJx4d0d8 TJx4d0d8 0
theorem nmJx4d0d8 : ∀ a, a < 0 → ∀ b, b < 0 → a ≠ b → (TJx4d0d8 a).2.1 ≠ (TJx4d0d8 b).2.1 := by decide +kernel
theorem tyJx4d0d8_ok : ∀ k, k < 0 → parseFieldDescriptor (TJx4d0d8 k).2.2.1 = some (tyJx4d0d8 k) := by decide +kernel
def RJxbd725 : String := "java/util/List"
def TJxbd725 : u_T := fun k => match k with
  | _ => ("", "", "", false)
def tyJxbd725 : Nat → FieldType := fun k => match k with
  | _ => .int
abbrev wsJxbd7250 : List Cond := u_ws RJxbd725 TJxbd725 0
theorem nmJxbd725 : ∀ a, a < 0 → ∀ b, b < 0 → a ≠ b → (TJxbd725 a).2.1 ≠ (TJxbd725 b).2.1 := by decide +kernel
theorem tyJxbd725_ok : ∀ k, k < 0 → parseFieldDescriptor (TJxbd725 k).2.2.1 = some (tyJxbd725 k) := by decide +kernel
def RJ15 : String := "java/util/Objects"
def TJ15 : u_T := fun k => match k with
  | _ => ("", "", "", false)
def tyJ15 : Nat → FieldType := fun k => match k with
  | _ => .int
abbrev wsJ150 : List Cond := u_ws RJ15 TJ15 0
theorem nmJ15 : ∀ a, a < 0 → ∀ b, b < 0 → a ≠ b → (TJ15 a).2.1 ≠ (TJ15 b).2.1 := by decide +kernel
theorem tyJ15_ok : ∀ k, k < 0 → parseFieldDescriptor (TJ15 k).2.2.1 = some (tyJ15 k) := by decide +kernel
abbrev cJ15_checkIndex_7cf53 : ByteArray := prog_47_method_17_code
def yJ15_checkIndex_7cf53 : MethodName := ⟨RJ15, "checkIndex", "(II)I"⟩
def RJxf0a74 : String := "java/util/RandomAccess"
def TJxf0a74 : u_T := fun k => match k with
  | _ => ("", "", "", false)
def tyJxf0a74 : Nat → FieldType := fun k => match k with
  | _ => .int
abbrev wsJxf0a740 : List Cond := u_ws RJxf0a74 TJxf0a74 0
theorem nmJxf0a74 : ∀ a, a < 0 → ∀ b, b < 0 → a ≠ b → (TJxf0a74 a).2.1 ≠ (TJxf0a74 b).2.1 := by decide +kernel
theorem tyJxf0a74_ok : ∀ k, k < 0 → parseFieldDescriptor (TJxf0a74 k).2.2.1 = some (tyJxf0a74 k) := by decide +kernel
def RJxa66e6 : String := "java/util/SequencedCollection"
def TJxa66e6 : u_T := fun k => match k with
  | _ => ("", "", "", false)
def tyJxa66e6 : Nat → FieldType := fun k => match k with
  | _ => .int
abbrev wsJxa66e60 : List Cond := u_ws RJxa66e6 TJxa66e6 0
theorem nmJxa66e6 : ∀ a, a < 0 → ∀ b, b < 0 → a ≠ b → (TJxa66e6 a).2.1 ≠ (TJxa66e6 b).2.1 := by decide +kernel
theorem tyJxa66e6_ok : ∀ k, k < 0 → parseFieldDescriptor (TJxa66e6 k).2.2.1 = some (tyJxa66e6 k) := by decide +kernel
def RJ8 : String := "jdk/internal/util/ArraysSupport"
def TJ8 : u_T := fun k => match k with
  | _ => ("", "", "", false)
def tyJ8 : Nat → FieldType := fun k => match k with
  | _ => .int
abbrev wsJ80 : List Cond := u_ws RJ8 TJ8 0
theorem nmJ8 : ∀ a, a < 0 → ∀ b, b < 0 → a ≠ b → (TJ8 a).2.1 ≠ (TJ8 b).2.1 := by decide +kernel
theorem tyJ8_ok : ∀ k, k < 0 → parseFieldDescriptor (TJ8 k).2.2.1 = some (tyJ8 k) := by decide +kernel
abbrev cJ8_newLength_cabcc : ByteArray := prog_50_method_27_code
def yJ8_newLength_cabcc : MethodName := ⟨RJ8, "newLength", "(III)I"⟩
abbrev cJ8_hugeLength_7cf53 : ByteArray := prog_50_method_28_code
def yJ8_hugeLength_7cf53 : MethodName := ⟨RJ8, "hugeLength", "(II)I"⟩
def RJ3 : String := "jdk/internal/util/Preconditions"
def TJ3 : u_T := fun k => match k with
  | _ => ("", "", "", false)
def tyJ3 : Nat → FieldType := fun k => match k with
  | _ => .int
abbrev wsJ30 : List Cond := u_ws RJ3 TJ3 0
theorem nmJ3 : ∀ a, a < 0 → ∀ b, b < 0 → a ≠ b → (TJ3 a).2.1 ≠ (TJ3 b).2.1 := by decide +kernel
theorem tyJ3_ok : ∀ k, k < 0 → parseFieldDescriptor (TJ3 k).2.2.1 = some (tyJ3 k) := by decide +kernel
abbrev cJ3_checkIndex_8e157 : ByteArray := prog_51_method_11_code
def yJ3_checkIndex_8e157 : MethodName := ⟨RJ3, "checkIndex", "(IILjava/util/function/BiFunction;)I"⟩
abbrev cJ3_checkFromToIndex_8c36e : ByteArray := prog_51_method_12_code
def yJ3_checkFromToIndex_8c36e : MethodName := ⟨RJ3, "checkFromToIndex", "(IIILjava/util/function/BiFunction;)I"⟩
abbrev cJ3_checkFromIndexSize_8c36e : ByteArray := prog_51_method_13_code
def yJ3_checkFromIndexSize_8c36e : MethodName := ⟨RJ3, "checkFromIndexSize", "(IIILjava/util/function/BiFunction;)I"⟩
def RL : String := "CurvedNamesLaw"
abbrev cL_cell : ByteArray := method_2_code
def yL_cell : MethodName := ⟨RL, "cell", "([II)I"⟩
abbrev cL_pick : ByteArray := method_3_code
def yL_pick : MethodName := ⟨RL, "pick", "([III)I"⟩
abbrev cL_feeds : ByteArray := method_4_code
def yL_feeds : MethodName := ⟨RL, "feeds", "(LCurvedNames;Ljava/lang/String;)Z"⟩
abbrev cL_alike : ByteArray := method_5_code
def yL_alike : MethodName := ⟨RL, "alike", "(LCurvedNames;LCurvedNamesLaw$World;)Z"⟩
abbrev cL_acts : ByteArray := method_6_code
def yL_acts : MethodName := ⟨RL, "acts", "(LCurvedNames;LCurvedNamesLaw$World;[II)Z"⟩
abbrev cL_holds : ByteArray := method_7_code
def yL_holds : MethodName := ⟨RL, "holds", "(LCurvedNames;)Z"⟩
abbrev cL_comes : ByteArray := method_8_code
def yL_comes : MethodName := ⟨RL, "comes", "(LCurvedNames;LCurvedNamesLaw$World;)Z"⟩
abbrev cL_law : ByteArray := code
def yL_law : MethodName := ⟨RL, "law", "([I)Z"⟩
abbrev vwCl : List vw_C := [(RX0, TX0, 5), (RX1, TX1, 4), (RX2, TX2, 5), (RX3, TX3, 5), (RX4, TX4, 5), (RX5, TX5, 6), (RX6, TX6, 2), (RX7, TX7, 3), (RX8, TX8, 7), (RX9, TX9, 3), (RX10, TX10, 8), (RX11, TX11, 13), (RX12, TX12, 11), (RJ0, TJ0, 4), (RJ4, TJ4, 4), (RJx35411, TJx35411, 4), (RJx4a65c, TJx4a65c, 3)]
