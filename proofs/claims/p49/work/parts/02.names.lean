/-! ===== BEGIN printed: names, fields, word lists, decode rows ===== -/
def RX0 : String := "KaleidoscopeBox$Fall"
def TX0 : u_T := fun k => match k with
  | 0 => ("KaleidoscopeBox$Fall", "line", "[I", true)
  | _ => ("KaleidoscopeBox$Fall", "lined", "I", false)
def tyX0 : Nat → FieldType := fun k => match k with
  | 0 => .array .int
  | _ => .int
abbrev wsX00 : List Cond := u_ws RX0 TX0 2
theorem nmX0 : ∀ a, a < 2 → ∀ b, b < 2 → a ≠ b → (TX0 a).2.1 ≠ (TX0 b).2.1 := by decide +kernel
theorem tyX0_ok : ∀ k, k < 2 → parseFieldDescriptor (TX0 k).2.2.1 = some (tyX0 k) := by decide +kernel
abbrev cX0_init : ByteArray := prog_2_method_1_code
def yX0_init : MethodName := ⟨RX0, "<init>", "()V"⟩
abbrev cX0_makeTick : ByteArray := prog_2_method_2_code
def yX0_makeTick : MethodName := ⟨RX0, "makeTick", "(LKaleidoscopeBox$State;)I"⟩
abbrev cX0_lineUp : ByteArray := prog_2_method_3_code
def yX0_lineUp : MethodName := ⟨RX0, "lineUp", "(LKaleidoscopeBox$State;Z)V"⟩
abbrev cX0_rankOf : ByteArray := prog_2_method_4_code
def yX0_rankOf : MethodName := ⟨RX0, "rankOf", "(LKaleidoscopeBox$State;IZ)I"⟩
abbrev cX0_insert : ByteArray := prog_2_method_5_code
def yX0_insert : MethodName := ⟨RX0, "insert", "(I)V"⟩
abbrev cX0_tryToFall : ByteArray := prog_2_method_6_code
def yX0_tryToFall : MethodName := ⟨RX0, "tryToFall", "(LKaleidoscopeBox$State;I)V"⟩
abbrev cX0_drop : ByteArray := prog_2_method_7_code
def yX0_drop : MethodName := ⟨RX0, "drop", "(LKaleidoscopeBox$State;I)Z"⟩
abbrev cX0_roll : ByteArray := prog_2_method_8_code
def yX0_roll : MethodName := ⟨RX0, "roll", "(LKaleidoscopeBox$State;II)Z"⟩
abbrev cX0_enter : ByteArray := prog_2_method_9_code
def yX0_enter : MethodName := ⟨RX0, "enter", "(LKaleidoscopeBox$State;II)Z"⟩
abbrev cX0_tryToRise : ByteArray := prog_2_method_10_code
def yX0_tryToRise : MethodName := ⟨RX0, "tryToRise", "(LKaleidoscopeBox$State;I)V"⟩
def RX1 : String := "KaleidoscopeBox$Layout"
def TX1 : u_T := fun k => match k with
  | 0 => ("KaleidoscopeBox$Layout", "angle", "I", false)
  | 1 => ("KaleidoscopeBox$Layout", "radius", "I", false)
  | 2 => ("KaleidoscopeBox$Layout", "isHexagonal", "Z", false)
  | _ => ("KaleidoscopeBox$Layout", "zones", "[I", true)
def tyX1 : Nat → FieldType := fun k => match k with
  | 0 => .int
  | 1 => .int
  | 2 => .boolean
  | _ => .array .int
abbrev wsX10 : List Cond := u_ws RX1 TX1 4
theorem nmX1 : ∀ a, a < 4 → ∀ b, b < 4 → a ≠ b → (TX1 a).2.1 ≠ (TX1 b).2.1 := by decide +kernel
theorem tyX1_ok : ∀ k, k < 4 → parseFieldDescriptor (TX1 k).2.2.1 = some (tyX1 k) := by decide +kernel
abbrev cX1_init : ByteArray := prog_3_method_1_code
def yX1_init : MethodName := ⟨RX1, "<init>", "()V"⟩
abbrev cX1_become : ByteArray := prog_3_method_2_code
def yX1_become : MethodName := ⟨RX1, "become", "(II)V"⟩
abbrev cX1_copyFrom : ByteArray := prog_3_method_3_code
def yX1_copyFrom : MethodName := ⟨RX1, "copyFrom", "(LKaleidoscopeBox$Layout;)V"⟩
abbrev cX1_isAngle : ByteArray := prog_3_method_4_code
def yX1_isAngle : MethodName := ⟨RX1, "isAngle", "(I)Z"⟩
abbrev cX1_zoneAt : ByteArray := prog_3_method_5_code
def yX1_zoneAt : MethodName := ⟨RX1, "zoneAt", "(II)I"⟩
abbrev cX1_isBetweenMirrors : ByteArray := prog_3_method_6_code
def yX1_isBetweenMirrors : MethodName := ⟨RX1, "isBetweenMirrors", "(II)Z"⟩
abbrev cX1_isCell : ByteArray := prog_3_method_7_code
def yX1_isCell : MethodName := ⟨RX1, "isCell", "(I)Z"⟩
abbrev cX1_xOf : ByteArray := prog_3_method_8_code
def yX1_xOf : MethodName := ⟨RX1, "xOf", "(I)I"⟩
abbrev cX1_yOf : ByteArray := prog_3_method_9_code
def yX1_yOf : MethodName := ⟨RX1, "yOf", "(I)I"⟩
abbrev cX1_cellAt : ByteArray := prog_3_method_10_code
def yX1_cellAt : MethodName := ⟨RX1, "cellAt", "(II)I"⟩
abbrev cX1_hasSamePicture : ByteArray := prog_3_method_11_code
def yX1_hasSamePicture : MethodName := ⟨RX1, "hasSamePicture", "(LKaleidoscopeBox$Layout;)Z"⟩
abbrev cX1_directions : ByteArray := prog_3_method_12_code
def yX1_directions : MethodName := ⟨RX1, "directions", "()I"⟩
abbrev cX1_wrapped : ByteArray := prog_3_method_13_code
def yX1_wrapped : MethodName := ⟨RX1, "wrapped", "(I)I"⟩
abbrev cX1_mirrors : ByteArray := prog_3_method_14_code
def yX1_mirrors : MethodName := ⟨RX1, "mirrors", "()I"⟩
abbrev cX1_maps : ByteArray := prog_3_method_15_code
def yX1_maps : MethodName := ⟨RX1, "maps", "()I"⟩
abbrev cX1_isInPicture : ByteArray := prog_3_method_16_code
def yX1_isInPicture : MethodName := ⟨RX1, "isInPicture", "(I)Z"⟩
abbrev cX1_isInBox : ByteArray := prog_3_method_17_code
def yX1_isInBox : MethodName := ⟨RX1, "isInBox", "(I)Z"⟩
abbrev cX1_isFar : ByteArray := prog_3_method_18_code
def yX1_isFar : MethodName := ⟨RX1, "isFar", "(I)Z"⟩
abbrev cX1_pictureCell : ByteArray := prog_3_method_19_code
def yX1_pictureCell : MethodName := ⟨RX1, "pictureCell", "(II)I"⟩
abbrev cX1_boxCell : ByteArray := prog_3_method_20_code
def yX1_boxCell : MethodName := ⟨RX1, "boxCell", "(II)I"⟩
abbrev cX1_pictureCells : ByteArray := prog_3_method_21_code
def yX1_pictureCells : MethodName := ⟨RX1, "pictureCells", "()I"⟩
abbrev cX1_boxCells : ByteArray := prog_3_method_22_code
def yX1_boxCells : MethodName := ⟨RX1, "boxCells", "()I"⟩
abbrev cX1_stepX : ByteArray := prog_3_method_23_code
def yX1_stepX : MethodName := ⟨RX1, "stepX", "(I)I"⟩
abbrev cX1_stepY : ByteArray := prog_3_method_24_code
def yX1_stepY : MethodName := ⟨RX1, "stepY", "(I)I"⟩
abbrev cX1_neighbour : ByteArray := prog_3_method_25_code
def yX1_neighbour : MethodName := ⟨RX1, "neighbour", "(II)I"⟩
abbrev cX1_pictureNeighbour : ByteArray := prog_3_method_26_code
def yX1_pictureNeighbour : MethodName := ⟨RX1, "pictureNeighbour", "(II)I"⟩
abbrev cX1_boxNeighbour : ByteArray := prog_3_method_27_code
def yX1_boxNeighbour : MethodName := ⟨RX1, "boxNeighbour", "(II)I"⟩
abbrev cX1_depthOf : ByteArray := prog_3_method_28_code
def yX1_depthOf : MethodName := ⟨RX1, "depthOf", "(II)I"⟩
abbrev cX1_mirrorCell : ByteArray := prog_3_method_29_code
def yX1_mirrorCell : MethodName := ⟨RX1, "mirrorCell", "(II)I"⟩
abbrev cX1_turnCell : ByteArray := prog_3_method_30_code
def yX1_turnCell : MethodName := ⟨RX1, "turnCell", "(I)I"⟩
abbrev cX1_mapCell : ByteArray := prog_3_method_31_code
def yX1_mapCell : MethodName := ⟨RX1, "mapCell", "(II)I"⟩
abbrev cX1_mapsByMirrors : ByteArray := prog_3_method_32_code
def yX1_mapsByMirrors : MethodName := ⟨RX1, "mapsByMirrors", "()I"⟩
def RX2 : String := "KaleidoscopeBox$Output"
def TX2 : u_T := fun k => match k with
  | 0 => ("KaleidoscopeBox$Output", "bytes", "[I", true)
  | _ => ("KaleidoscopeBox$Output", "length", "I", false)
def tyX2 : Nat → FieldType := fun k => match k with
  | 0 => .array .int
  | _ => .int
abbrev wsX20 : List Cond := u_ws RX2 TX2 2
theorem nmX2 : ∀ a, a < 2 → ∀ b, b < 2 → a ≠ b → (TX2 a).2.1 ≠ (TX2 b).2.1 := by decide +kernel
theorem tyX2_ok : ∀ k, k < 2 → parseFieldDescriptor (TX2 k).2.2.1 = some (tyX2 k) := by decide +kernel
abbrev cX2_init : ByteArray := prog_4_method_1_code
def yX2_init : MethodName := ⟨RX2, "<init>", "()V"⟩
def RX3 : String := "KaleidoscopeBox$Picture"
def TX3 : u_T := fun k => match k with
  | 0 => ("KaleidoscopeBox$Picture", "sources", "[I", true)
  | 1 => ("KaleidoscopeBox$Picture", "reflected", "[I", true)
  | 2 => ("KaleidoscopeBox$Picture", "colours", "[I", true)
  | 3 => ("KaleidoscopeBox$Picture", "cellsOfColour", "[I", true)
  | 4 => ("KaleidoscopeBox$Picture", "isReached", "[Z", true)
  | _ => ("KaleidoscopeBox$Picture", "reached", "[I", true)
def tyX3 : Nat → FieldType := fun k => match k with
  | 0 => .array .int
  | 1 => .array .int
  | 2 => .array .int
  | 3 => .array .int
  | 4 => .array .boolean
  | _ => .array .int
abbrev wsX30 : List Cond := u_ws RX3 TX3 6
theorem nmX3 : ∀ a, a < 6 → ∀ b, b < 6 → a ≠ b → (TX3 a).2.1 ≠ (TX3 b).2.1 := by decide +kernel
theorem tyX3_ok : ∀ k, k < 6 → parseFieldDescriptor (TX3 k).2.2.1 = some (tyX3 k) := by decide +kernel
abbrev cX3_init : ByteArray := prog_5_method_1_code
def yX3_init : MethodName := ⟨RX3, "<init>", "()V"⟩
abbrev cX3_look : ByteArray := prog_5_method_2_code
def yX3_look : MethodName := ⟨RX3, "look", "(LKaleidoscopeBox$State;)V"⟩
abbrev cX3_countCell : ByteArray := prog_5_method_3_code
def yX3_countCell : MethodName := ⟨RX3, "countCell", "(I)V"⟩
abbrev cX3_trace : ByteArray := prog_5_method_4_code
def yX3_trace : MethodName := ⟨RX3, "trace", "(LKaleidoscopeBox$State;I)V"⟩
abbrev cX3_follow : ByteArray := prog_5_method_5_code
def yX3_follow : MethodName := ⟨RX3, "follow", "(LKaleidoscopeBox$State;II)V"⟩
abbrev cX3_find : ByteArray := prog_5_method_6_code
def yX3_find : MethodName := ⟨RX3, "find", "(III)V"⟩
abbrev cX3_sourceOf : ByteArray := prog_5_method_7_code
def yX3_sourceOf : MethodName := ⟨RX3, "sourceOf", "(I)I"⟩
abbrev cX3_reflectionsOf : ByteArray := prog_5_method_8_code
def yX3_reflectionsOf : MethodName := ⟨RX3, "reflectionsOf", "(I)I"⟩
abbrev cX3_colourOf : ByteArray := prog_5_method_9_code
def yX3_colourOf : MethodName := ⟨RX3, "colourOf", "(I)I"⟩
abbrev cX3_brightnessOf : ByteArray := prog_5_method_10_code
def yX3_brightnessOf : MethodName := ⟨RX3, "brightnessOf", "(LKaleidoscopeBox$State;I)I"⟩
abbrev cX3_sumOfBrightness : ByteArray := prog_5_method_11_code
def yX3_sumOfBrightness : MethodName := ⟨RX3, "sumOfBrightness", "(LKaleidoscopeBox$State;Z)I"⟩
abbrev cX3_countSeen : ByteArray := prog_5_method_12_code
def yX3_countSeen : MethodName := ⟨RX3, "countSeen", "()I"⟩
abbrev cX3_imagesOf : ByteArray := prog_5_method_13_code
def yX3_imagesOf : MethodName := ⟨RX3, "imagesOf", "(I)I"⟩
abbrev cX3_countColour : ByteArray := prog_5_method_14_code
def yX3_countColour : MethodName := ⟨RX3, "countColour", "(I)I"⟩
abbrev cX3_commonestColour : ByteArray := prog_5_method_15_code
def yX3_commonestColour : MethodName := ⟨RX3, "commonestColour", "(I)I"⟩
abbrev cX3_colourRank : ByteArray := prog_5_method_16_code
def yX3_colourRank : MethodName := ⟨RX3, "colourRank", "(I)I"⟩
abbrev cX3_countRegions : ByteArray := prog_5_method_17_code
def yX3_countRegions : MethodName := ⟨RX3, "countRegions", "(LKaleidoscopeBox$Layout;I)I"⟩
abbrev cX3_forgetReached : ByteArray := prog_5_method_19_code
def yX3_forgetReached : MethodName := ⟨RX3, "forgetReached", "()V"⟩
abbrev cX3_spread : ByteArray := prog_5_method_20_code
def yX3_spread : MethodName := ⟨RX3, "spread", "(LKaleidoscopeBox$Layout;I)I"⟩
abbrev cX3_reach : ByteArray := prog_5_method_21_code
def yX3_reach : MethodName := ⟨RX3, "reach", "(II)I"⟩
abbrev cX3_countEdges : ByteArray := prog_5_method_22_code
def yX3_countEdges : MethodName := ⟨RX3, "countEdges", "(LKaleidoscopeBox$Layout;)I"⟩
abbrev cX3_isBroughtTo : ByteArray := prog_5_method_23_code
def yX3_isBroughtTo : MethodName := ⟨RX3, "isBroughtTo", "(LKaleidoscopeBox$Picture;LKaleidoscopeBox$Layout;I)Z"⟩
def RX4 : String := "KaleidoscopeBox$SetupText"
def TX4 : u_T := fun k => match k with
  | 0 => ("KaleidoscopeBox$SetupText", "bytes", "[I", true)
  | 1 => ("KaleidoscopeBox$SetupText", "length", "I", false)
  | 2 => ("KaleidoscopeBox$SetupText", "wrongCode", "I", false)
  | 3 => ("KaleidoscopeBox$SetupText", "wrongAt", "I", false)
  | 4 => ("KaleidoscopeBox$SetupText", "token", "I", false)
  | 5 => ("KaleidoscopeBox$SetupText", "tokenStart", "I", false)
  | 6 => ("KaleidoscopeBox$SetupText", "tokenEnd", "I", false)
  | _ => ("KaleidoscopeBox$SetupText", "number", "I", false)
def tyX4 : Nat → FieldType := fun k => match k with
  | 0 => .array .int
  | 1 => .int
  | 2 => .int
  | 3 => .int
  | 4 => .int
  | 5 => .int
  | 6 => .int
  | _ => .int
abbrev wsX40 : List Cond := u_ws RX4 TX4 8
theorem nmX4 : ∀ a, a < 8 → ∀ b, b < 8 → a ≠ b → (TX4 a).2.1 ≠ (TX4 b).2.1 := by decide +kernel
theorem tyX4_ok : ∀ k, k < 8 → parseFieldDescriptor (TX4 k).2.2.1 = some (tyX4 k) := by decide +kernel
abbrev cX4_init : ByteArray := prog_6_method_1_code
def yX4_init : MethodName := ⟨RX4, "<init>", "()V"⟩
abbrev cX4_hasRoom : ByteArray := prog_6_method_2_code
def yX4_hasRoom : MethodName := ⟨RX4, "hasRoom", "(I)Z"⟩
abbrev cX4_addByte : ByteArray := prog_6_method_3_code
def yX4_addByte : MethodName := ⟨RX4, "addByte", "(I)V"⟩
abbrev cX4_byteAt : ByteArray := prog_6_method_4_code
def yX4_byteAt : MethodName := ⟨RX4, "byteAt", "(I)I"⟩
abbrev cX4_read : ByteArray := prog_6_method_5_code
def yX4_read : MethodName := ⟨RX4, "read", "(LKaleidoscopeBox$State;)Z"⟩
abbrev cX4_readHead : ByteArray := prog_6_method_6_code
def yX4_readHead : MethodName := ⟨RX4, "readHead", "(LKaleidoscopeBox$State;)Z"⟩
abbrev cX4_readStatement : ByteArray := prog_6_method_7_code
def yX4_readStatement : MethodName := ⟨RX4, "readStatement", "(LKaleidoscopeBox$State;)Z"⟩
abbrev cX4_kindByWord : ByteArray := prog_6_method_8_code
def yX4_kindByWord : MethodName := ⟨RX4, "kindByWord", "()I"⟩
abbrev cX4_readChip : ByteArray := prog_6_method_9_code
def yX4_readChip : MethodName := ⟨RX4, "readChip", "(LKaleidoscopeBox$State;I)Z"⟩
abbrev cX4_readDown : ByteArray := prog_6_method_10_code
def yX4_readDown : MethodName := ⟨RX4, "readDown", "(LKaleidoscopeBox$State;)Z"⟩
abbrev cX4_readKeep : ByteArray := prog_6_method_11_code
def yX4_readKeep : MethodName := ⟨RX4, "readKeep", "(LKaleidoscopeBox$State;)Z"⟩
abbrev cX4_readCover : ByteArray := prog_6_method_12_code
def yX4_readCover : MethodName := ⟨RX4, "readCover", "(LKaleidoscopeBox$State;)Z"⟩
abbrev cX4_isWrong : ByteArray := prog_6_method_13_code
def yX4_isWrong : MethodName := ⟨RX4, "isWrong", "(I)Z"⟩
abbrev cX4_needToken : ByteArray := prog_6_method_14_code
def yX4_needToken : MethodName := ⟨RX4, "needToken", "(I)Z"⟩
abbrev cX4_needWord : ByteArray := prog_6_method_15_code
def yX4_needWord : MethodName := ⟨RX4, "needWord", "(Ljava/lang/String;)Z"⟩
abbrev cX4_needNumber : ByteArray := prog_6_method_16_code
def yX4_needNumber : MethodName := ⟨RX4, "needNumber", "(II)Z"⟩
abbrev cX4_needPlace : ByteArray := prog_6_method_17_code
def yX4_needPlace : MethodName := ⟨RX4, "needPlace", "()Z"⟩
abbrev cX4_isWord : ByteArray := prog_6_method_18_code
def yX4_isWord : MethodName := ⟨RX4, "isWord", "(Ljava/lang/String;)Z"⟩
abbrev cX4_nextToken : ByteArray := prog_6_method_19_code
def yX4_nextToken : MethodName := ⟨RX4, "nextToken", "()V"⟩
abbrev cX4_isBlank : ByteArray := prog_6_method_20_code
def yX4_isBlank : MethodName := ⟨RX4, "isBlank", "(I)Z"⟩
abbrev cX4_isRun : ByteArray := prog_6_method_21_code
def yX4_isRun : MethodName := ⟨RX4, "isRun", "(I)Z"⟩
abbrev cX4_tokenOf : ByteArray := prog_6_method_22_code
def yX4_tokenOf : MethodName := ⟨RX4, "tokenOf", "(I)I"⟩
abbrev cX4_readNumber : ByteArray := prog_6_method_23_code
def yX4_readNumber : MethodName := ⟨RX4, "readNumber", "()V"⟩
def RX5 : String := "KaleidoscopeBox$State"
def TX5 : u_T := fun k => match k with
  | 0 => ("KaleidoscopeBox$State", "layout", "LKaleidoscopeBox$Layout;", true)
  | 1 => ("KaleidoscopeBox$State", "down", "I", false)
  | 2 => ("KaleidoscopeBox$State", "keep", "I", false)
  | 3 => ("KaleidoscopeBox$State", "ticks", "I", false)
  | 4 => ("KaleidoscopeBox$State", "covered", "I", false)
  | 5 => ("KaleidoscopeBox$State", "moved", "I", false)
  | 6 => ("KaleidoscopeBox$State", "exchanged", "I", false)
  | 7 => ("KaleidoscopeBox$State", "rolled", "I", false)
  | 8 => ("KaleidoscopeBox$State", "came", "I", false)
  | 9 => ("KaleidoscopeBox$State", "kinds", "[I", true)
  | 10 => ("KaleidoscopeBox$State", "colours", "[I", true)
  | 11 => ("KaleidoscopeBox$State", "weights", "[I", true)
  | 12 => ("KaleidoscopeBox$State", "cells", "[I", true)
  | 13 => ("KaleidoscopeBox$State", "ownMoves", "[I", true)
  | _ => ("KaleidoscopeBox$State", "chips", "[I", true)
def tyX5 : Nat → FieldType := fun k => match k with
  | 0 => .object "KaleidoscopeBox$Layout"
  | 1 => .int
  | 2 => .int
  | 3 => .int
  | 4 => .int
  | 5 => .int
  | 6 => .int
  | 7 => .int
  | 8 => .int
  | 9 => .array .int
  | 10 => .array .int
  | 11 => .array .int
  | 12 => .array .int
  | 13 => .array .int
  | _ => .array .int
abbrev wsX50 : List Cond := u_ws RX5 TX5 15
theorem nmX5 : ∀ a, a < 15 → ∀ b, b < 15 → a ≠ b → (TX5 a).2.1 ≠ (TX5 b).2.1 := by decide +kernel
theorem tyX5_ok : ∀ k, k < 15 → parseFieldDescriptor (TX5 k).2.2.1 = some (tyX5 k) := by decide +kernel
abbrev cX5_init : ByteArray := prog_7_method_1_code
def yX5_init : MethodName := ⟨RX5, "<init>", "()V"⟩
abbrev cX5_begin : ByteArray := prog_7_method_2_code
def yX5_begin : MethodName := ⟨RX5, "begin", "(II)V"⟩
abbrev cX5_copyFrom : ByteArray := prog_7_method_3_code
def yX5_copyFrom : MethodName := ⟨RX5, "copyFrom", "(LKaleidoscopeBox$State;)V"⟩
abbrev cX5_isChip : ByteArray := prog_7_method_4_code
def yX5_isChip : MethodName := ⟨RX5, "isChip", "(I)Z"⟩
abbrev cX5_kindOf : ByteArray := prog_7_method_5_code
def yX5_kindOf : MethodName := ⟨RX5, "kindOf", "(I)I"⟩
abbrev cX5_colourOf : ByteArray := prog_7_method_6_code
def yX5_colourOf : MethodName := ⟨RX5, "colourOf", "(I)I"⟩
abbrev cX5_weightOf : ByteArray := prog_7_method_7_code
def yX5_weightOf : MethodName := ⟨RX5, "weightOf", "(I)I"⟩
abbrev cX5_cellOf : ByteArray := prog_7_method_8_code
def yX5_cellOf : MethodName := ⟨RX5, "cellOf", "(I)I"⟩
abbrev cX5_ownMovesOf : ByteArray := prog_7_method_9_code
def yX5_ownMovesOf : MethodName := ⟨RX5, "ownMovesOf", "(I)I"⟩
abbrev cX5_chipOn : ByteArray := prog_7_method_10_code
def yX5_chipOn : MethodName := ⟨RX5, "chipOn", "(I)I"⟩
abbrev cX5_colourOn : ByteArray := prog_7_method_11_code
def yX5_colourOn : MethodName := ⟨RX5, "colourOn", "(I)I"⟩
abbrev cX5_chipsInBox : ByteArray := prog_7_method_12_code
def yX5_chipsInBox : MethodName := ⟨RX5, "chipsInBox", "()I"⟩
abbrev cX5_bring : ByteArray := prog_7_method_13_code
def yX5_bring : MethodName := ⟨RX5, "bring", "(IIII)I"⟩
abbrev cX5_put : ByteArray := prog_7_method_14_code
def yX5_put : MethodName := ⟨RX5, "put", "(II)V"⟩
abbrev cX5_takeOut : ByteArray := prog_7_method_15_code
def yX5_takeOut : MethodName := ⟨RX5, "takeOut", "(I)V"⟩
abbrev cX5_shift : ByteArray := prog_7_method_16_code
def yX5_shift : MethodName := ⟨RX5, "shift", "(II)V"⟩
abbrev cX5_exchange : ByteArray := prog_7_method_17_code
def yX5_exchange : MethodName := ⟨RX5, "exchange", "(II)V"⟩
abbrev cX5_countMove : ByteArray := prog_7_method_18_code
def yX5_countMove : MethodName := ⟨RX5, "countMove", "(I)V"⟩
abbrev cX5_recolour : ByteArray := prog_7_method_19_code
def yX5_recolour : MethodName := ⟨RX5, "recolour", "(II)V"⟩
abbrev cX5_turnBy : ByteArray := prog_7_method_20_code
def yX5_turnBy : MethodName := ⟨RX5, "turnBy", "(I)V"⟩
abbrev cX5_sumOfDepths : ByteArray := prog_7_method_21_code
def yX5_sumOfDepths : MethodName := ⟨RX5, "sumOfDepths", "()I"⟩
abbrev cX5_isCovered : ByteArray := prog_7_method_22_code
def yX5_isCovered : MethodName := ⟨RX5, "isCovered", "(I)Z"⟩
abbrev cX5_setCovered : ByteArray := prog_7_method_23_code
def yX5_setCovered : MethodName := ⟨RX5, "setCovered", "(IZ)V"⟩
abbrev cX5_canReflect : ByteArray := prog_7_method_24_code
def yX5_canReflect : MethodName := ⟨RX5, "canReflect", "(I)Z"⟩
def RX6 : String := "KaleidoscopeBox"
def TX6 : u_T := fun k => match k with
  | 0 => ("KaleidoscopeBox", "now", "LKaleidoscopeBox$State;", true)
  | 1 => ("KaleidoscopeBox", "trial", "LKaleidoscopeBox$State;", true)
  | 2 => ("KaleidoscopeBox", "past", "[LKaleidoscopeBox$State;", true)
  | 3 => ("KaleidoscopeBox", "pastEnd", "I", false)
  | 4 => ("KaleidoscopeBox", "pastCount", "I", false)
  | 5 => ("KaleidoscopeBox", "slots", "[LKaleidoscopeBox$State;", true)
  | 6 => ("KaleidoscopeBox", "isSlotUsed", "[Z", true)
  | 7 => ("KaleidoscopeBox", "accounts", "[I", true)
  | 8 => ("KaleidoscopeBox", "text", "LKaleidoscopeBox$SetupText;", true)
  | 9 => ("KaleidoscopeBox", "picture", "LKaleidoscopeBox$Picture;", true)
  | 10 => ("KaleidoscopeBox", "savedPicture", "LKaleidoscopeBox$Picture;", true)
  | 11 => ("KaleidoscopeBox", "fall", "LKaleidoscopeBox$Fall;", true)
  | _ => ("KaleidoscopeBox", "written", "LKaleidoscopeBox$Output;", true)
def tyX6 : Nat → FieldType := fun k => match k with
  | 0 => .object "KaleidoscopeBox$State"
  | 1 => .object "KaleidoscopeBox$State"
  | 2 => .array (.object "KaleidoscopeBox$State")
  | 3 => .int
  | 4 => .int
  | 5 => .array (.object "KaleidoscopeBox$State")
  | 6 => .array .boolean
  | 7 => .array .int
  | 8 => .object "KaleidoscopeBox$SetupText"
  | 9 => .object "KaleidoscopeBox$Picture"
  | 10 => .object "KaleidoscopeBox$Picture"
  | 11 => .object "KaleidoscopeBox$Fall"
  | _ => .object "KaleidoscopeBox$Output"
abbrev wsX60 : List Cond := u_ws RX6 TX6 13
theorem nmX6 : ∀ a, a < 13 → ∀ b, b < 13 → a ≠ b → (TX6 a).2.1 ≠ (TX6 b).2.1 := by decide +kernel
theorem tyX6_ok : ∀ k, k < 13 → parseFieldDescriptor (TX6 k).2.2.1 = some (tyX6 k) := by decide +kernel
abbrev cX6_init : ByteArray := prog_1_method_1_code
def yX6_init : MethodName := ⟨RX6, "<init>", "()V"⟩
abbrev cX6_appendText : ByteArray := prog_1_method_2_code
def yX6_appendText : MethodName := ⟨RX6, "appendText", "(I)I"⟩
abbrev cX6_truncateText : ByteArray := prog_1_method_3_code
def yX6_truncateText : MethodName := ⟨RX6, "truncateText", "(I)I"⟩
abbrev cX6_load : ByteArray := prog_1_method_4_code
def yX6_load : MethodName := ⟨RX6, "load", "()I"⟩
abbrev cX6_count : ByteArray := prog_1_method_7_code
def yX6_count : MethodName := ⟨RX6, "count", "(I)I"⟩
abbrev cX6_chip : ByteArray := prog_1_method_8_code
def yX6_chip : MethodName := ⟨RX6, "chip", "(II)I"⟩
abbrev cX6_chipAt : ByteArray := prog_1_method_9_code
def yX6_chipAt : MethodName := ⟨RX6, "chipAt", "(II)I"⟩
abbrev cX6_colour : ByteArray := prog_1_method_12_code
def yX6_colour : MethodName := ⟨RX6, "colour", "(II)I"⟩
abbrev cX6_brightness : ByteArray := prog_1_method_13_code
def yX6_brightness : MethodName := ⟨RX6, "brightness", "(II)I"⟩
abbrev cX6_reflections : ByteArray := prog_1_method_14_code
def yX6_reflections : MethodName := ⟨RX6, "reflections", "(II)I"⟩
abbrev cX6_source : ByteArray := prog_1_method_15_code
def yX6_source : MethodName := ⟨RX6, "source", "(IIZ)I"⟩
abbrev cX6_images : ByteArray := prog_1_method_16_code
def yX6_images : MethodName := ⟨RX6, "images", "(II)I"⟩
abbrev cX6_cellsOf : ByteArray := prog_1_method_17_code
def yX6_cellsOf : MethodName := ⟨RX6, "cellsOf", "(I)I"⟩
abbrev cX6_commonest : ByteArray := prog_1_method_18_code
def yX6_commonest : MethodName := ⟨RX6, "commonest", "(I)I"⟩
abbrev cX6_regions : ByteArray := prog_1_method_19_code
def yX6_regions : MethodName := ⟨RX6, "regions", "(I)I"⟩
abbrev cX6_edges : ByteArray := prog_1_method_21_code
def yX6_edges : MethodName := ⟨RX6, "edges", "()I"⟩
abbrev cX6_light : ByteArray := prog_1_method_22_code
def yX6_light : MethodName := ⟨RX6, "light", "()I"⟩
abbrev cX6_symmetries : ByteArray := prog_1_method_23_code
def yX6_symmetries : MethodName := ⟨RX6, "symmetries", "()I"⟩
abbrev cX6_ownMaps : ByteArray := prog_1_method_24_code
def yX6_ownMaps : MethodName := ⟨RX6, "ownMaps", "()I"⟩
abbrev cX6_matches : ByteArray := prog_1_method_26_code
def yX6_matches : MethodName := ⟨RX6, "matches", "(I)I"⟩
abbrev cX6_add : ByteArray := prog_1_method_27_code
def yX6_add : MethodName := ⟨RX6, "add", "(IIIII)I"⟩
abbrev cX6_take : ByteArray := prog_1_method_28_code
def yX6_take : MethodName := ⟨RX6, "take", "(I)I"⟩
abbrev cX6_paint : ByteArray := prog_1_method_30_code
def yX6_paint : MethodName := ⟨RX6, "paint", "(II)I"⟩
abbrev cX6_turn : ByteArray := prog_1_method_31_code
def yX6_turn : MethodName := ⟨RX6, "turn", "(I)I"⟩
abbrev cX6_tick : ByteArray := prog_1_method_32_code
def yX6_tick : MethodName := ⟨RX6, "tick", "()I"⟩
abbrev cX6_settle : ByteArray := prog_1_method_33_code
def yX6_settle : MethodName := ⟨RX6, "settle", "()I"⟩
abbrev cX6_cover : ByteArray := prog_1_method_34_code
def yX6_cover : MethodName := ⟨RX6, "cover", "(IZ)I"⟩
abbrev cX6_setKeep : ByteArray := prog_1_method_35_code
def yX6_setKeep : MethodName := ⟨RX6, "setKeep", "(I)I"⟩
abbrev cX6_moves : ByteArray := prog_1_method_36_code
def yX6_moves : MethodName := ⟨RX6, "moves", "()I"⟩
abbrev cX6_restsAt : ByteArray := prog_1_method_37_code
def yX6_restsAt : MethodName := ⟨RX6, "restsAt", "(IZ)I"⟩
abbrev cX6_settled : ByteArray := prog_1_method_38_code
def yX6_settled : MethodName := ⟨RX6, "settled", "(II)I"⟩
abbrev cX6_undo : ByteArray := prog_1_method_45_code
def yX6_undo : MethodName := ⟨RX6, "undo", "()I"⟩
abbrev cX6_save : ByteArray := prog_1_method_46_code
def yX6_save : MethodName := ⟨RX6, "save", "(I)V"⟩
abbrev cX6_needRange : ByteArray := prog_1_method_48_code
def yX6_needRange : MethodName := ⟨RX6, "needRange", "(III)V"⟩
abbrev cX6_needChip : ByteArray := prog_1_method_49_code
def yX6_needChip : MethodName := ⟨RX6, "needChip", "(I)V"⟩
abbrev cX6_needSaved : ByteArray := prog_1_method_50_code
def yX6_needSaved : MethodName := ⟨RX6, "needSaved", "(I)V"⟩
abbrev cX6_neededPictureCell : ByteArray := prog_1_method_51_code
def yX6_neededPictureCell : MethodName := ⟨RX6, "neededPictureCell", "(II)I"⟩
abbrev cX6_neededBoxCell : ByteArray := prog_1_method_52_code
def yX6_neededBoxCell : MethodName := ⟨RX6, "neededBoxCell", "(II)I"⟩
abbrev cX6_told : ByteArray := prog_1_method_53_code
def yX6_told : MethodName := ⟨RX6, "told", "(IZ)I"⟩
abbrev cX6_refused : ByteArray := prog_1_method_54_code
def yX6_refused : MethodName := ⟨RX6, "refused", "(I)I"⟩
abbrev cX6_keepForUndo : ByteArray := prog_1_method_55_code
def yX6_keepForUndo : MethodName := ⟨RX6, "keepForUndo", "()V"⟩
abbrev cX6_seenNow : ByteArray := prog_1_method_56_code
def yX6_seenNow : MethodName := ⟨RX6, "seenNow", "()I"⟩
abbrev cX6_cellsNow : ByteArray := prog_1_method_57_code
def yX6_cellsNow : MethodName := ⟨RX6, "cellsNow", "(I)I"⟩
abbrev cX6_mapsOf : ByteArray := prog_1_method_58_code
def yX6_mapsOf : MethodName := ⟨RX6, "mapsOf", "(LKaleidoscopeBox$Picture;LKaleidoscopeBox$Layout;)I"⟩
abbrev cX6_movesOfNextTick : ByteArray := prog_1_method_59_code
def yX6_movesOfNextTick : MethodName := ⟨RX6, "movesOfNextTick", "()I"⟩
abbrev cX6_settleTrial : ByteArray := prog_1_method_60_code
def yX6_settleTrial : MethodName := ⟨RX6, "settleTrial", "()I"⟩
def RX7 : String := "KaleidoscopeBoxLaw$Told"
def TX7 : u_T := fun k => match k with
  | 0 => ("KaleidoscopeBoxLaw$Told", "s", "[I", true)
  | _ => ("KaleidoscopeBoxLaw$Told", "at", "I", false)
def tyX7 : Nat → FieldType := fun k => match k with
  | 0 => .array .int
  | _ => .int
abbrev wsX70 : List Cond := u_ws RX7 TX7 2
theorem nmX7 : ∀ a, a < 2 → ∀ b, b < 2 → a ≠ b → (TX7 a).2.1 ≠ (TX7 b).2.1 := by decide +kernel
theorem tyX7_ok : ∀ k, k < 2 → parseFieldDescriptor (TX7 k).2.2.1 = some (tyX7 k) := by decide +kernel
abbrev cX7_init : ByteArray := prog_9_method_1_code
def yX7_init : MethodName := ⟨RX7, "<init>", "([I)V"⟩
abbrev cX7_next : ByteArray := prog_9_method_2_code
def yX7_next : MethodName := ⟨RX7, "next", "(I)I"⟩
def RX8 : String := "KaleidoscopeBoxModel"
def TX8 : u_T := fun k => match k with
  | _ => ("", "", "", false)
def tyX8 : Nat → FieldType := fun k => match k with
  | _ => .int
abbrev wsX80 : List Cond := u_ws RX8 TX8 0
theorem nmX8 : ∀ a, a < 0 → ∀ b, b < 0 → a ≠ b → (TX8 a).2.1 ≠ (TX8 b).2.1 := by decide +kernel
theorem tyX8_ok : ∀ k, k < 0 → parseFieldDescriptor (TX8 k).2.2.1 = some (tyX8 k) := by decide +kernel
def RJx145de : String := "java/io/Serializable"
def TJx145de : u_T := fun k => match k with
  | _ => ("", "", "", false)
def tyJx145de : Nat → FieldType := fun k => match k with
  | _ => .int
abbrev wsJx145de0 : List Cond := u_ws RJx145de TJx145de 0
theorem nmJx145de : ∀ a, a < 0 → ∀ b, b < 0 → a ≠ b → (TJx145de a).2.1 ≠ (TJx145de b).2.1 := by decide +kernel
theorem tyJx145de_ok : ∀ k, k < 0 → parseFieldDescriptor (TJx145de k).2.2.1 = some (tyJx145de k) := by decide +kernel
def RJ5 : String := "java/lang/AbstractStringBuilder"
def TJ5 : u_T := fun k => match k with
  | _ => ("", "", "", false)
def tyJ5 : Nat → FieldType := fun k => match k with
  | _ => .int
abbrev wsJ50 : List Cond := u_ws RJ5 TJ5 0
theorem nmJ5 : ∀ a, a < 0 → ∀ b, b < 0 → a ≠ b → (TJ5 a).2.1 ≠ (TJ5 b).2.1 := by decide +kernel
theorem tyJ5_ok : ∀ k, k < 0 → parseFieldDescriptor (TJ5 k).2.2.1 = some (tyJ5 k) := by decide +kernel
abbrev cJ5_init_d00df : ByteArray := prog_11_method_2_code
def yJ5_init_d00df : MethodName := ⟨RJ5, "<init>", "(I)V"⟩
abbrev cJ5_length_8abf5 : ByteArray := prog_11_method_6_code
def yJ5_length_8abf5 : MethodName := ⟨RJ5, "length", "()I"⟩
abbrev cJ5_ensureCapacityInternal_d00df : ByteArray := prog_11_method_9_code
def yJ5_ensureCapacityInternal_d00df : MethodName := ⟨RJ5, "ensureCapacityInternal", "(I)V"⟩
abbrev cJ5_newCapacity_0f7a4 : ByteArray := prog_11_method_10_code
def yJ5_newCapacity_0f7a4 : MethodName := ⟨RJ5, "newCapacity", "(I)I"⟩
abbrev cJ5_inflate_da8c8 : ByteArray := prog_11_method_11_code
def yJ5_inflate_da8c8 : MethodName := ⟨RJ5, "inflate", "()V"⟩
abbrev cJ5_append_cf1ce : ByteArray := prog_11_method_22_code
def yJ5_append_cf1ce : MethodName := ⟨RJ5, "append", "(Ljava/lang/String;)Ljava/lang/AbstractStringBuilder;"⟩
abbrev cJ5_appendNull_278bc : ByteArray := prog_11_method_26_code
def yJ5_appendNull_278bc : MethodName := ⟨RJ5, "appendNull", "()Ljava/lang/AbstractStringBuilder;"⟩
abbrev cJ5_append_c97b9 : ByteArray := prog_11_method_32_code
def yJ5_append_c97b9 : MethodName := ⟨RJ5, "append", "(I)Ljava/lang/AbstractStringBuilder;"⟩
abbrev cJ5_getValue_6d5f1 : ByteArray := prog_11_method_64_code
def yJ5_getValue_6d5f1 : MethodName := ⟨RJ5, "getValue", "()[B"⟩
abbrev cJ5_isLatin1_aae02 : ByteArray := prog_11_method_68_code
def yJ5_isLatin1_aae02 : MethodName := ⟨RJ5, "isLatin1", "()Z"⟩
abbrev cJ5_inflateIfNeededFor_a7421 : ByteArray := prog_11_method_71_code
def yJ5_inflateIfNeededFor_a7421 : MethodName := ⟨RJ5, "inflateIfNeededFor", "(Ljava/lang/String;)V"⟩
abbrev cJ5_putStringAt_47b60 : ByteArray := prog_11_method_73_code
def yJ5_putStringAt_47b60 : MethodName := ⟨RJ5, "putStringAt", "(ILjava/lang/String;)V"⟩
def RJx2cfe8 : String := "java/lang/Appendable"
def TJx2cfe8 : u_T := fun k => match k with
  | _ => ("", "", "", false)
def tyJx2cfe8 : Nat → FieldType := fun k => match k with
  | _ => .int
abbrev wsJx2cfe80 : List Cond := u_ws RJx2cfe8 TJx2cfe8 0
theorem nmJx2cfe8 : ∀ a, a < 0 → ∀ b, b < 0 → a ≠ b → (TJx2cfe8 a).2.1 ≠ (TJx2cfe8 b).2.1 := by decide +kernel
theorem tyJx2cfe8_ok : ∀ k, k < 0 → parseFieldDescriptor (TJx2cfe8 k).2.2.1 = some (tyJx2cfe8 k) := by decide +kernel
def RJx9f9b0 : String := "java/lang/CharSequence"
def TJx9f9b0 : u_T := fun k => match k with
  | _ => ("", "", "", false)
def tyJx9f9b0 : Nat → FieldType := fun k => match k with
  | _ => .int
abbrev wsJx9f9b00 : List Cond := u_ws RJx9f9b0 TJx9f9b0 0
theorem nmJx9f9b0 : ∀ a, a < 0 → ∀ b, b < 0 → a ≠ b → (TJx9f9b0 a).2.1 ≠ (TJx9f9b0 b).2.1 := by decide +kernel
theorem tyJx9f9b0_ok : ∀ k, k < 0 → parseFieldDescriptor (TJx9f9b0 k).2.2.1 = some (tyJx9f9b0 k) := by decide +kernel
def RJx8e188 : String := "java/lang/Cloneable"
def TJx8e188 : u_T := fun k => match k with
  | _ => ("", "", "", false)
def tyJx8e188 : Nat → FieldType := fun k => match k with
  | _ => .int
abbrev wsJx8e1880 : List Cond := u_ws RJx8e188 TJx8e188 0
theorem nmJx8e188 : ∀ a, a < 0 → ∀ b, b < 0 → a ≠ b → (TJx8e188 a).2.1 ≠ (TJx8e188 b).2.1 := by decide +kernel
theorem tyJx8e188_ok : ∀ k, k < 0 → parseFieldDescriptor (TJx8e188 k).2.2.1 = some (tyJx8e188 k) := by decide +kernel
def RJxb160c : String := "java/lang/Comparable"
def TJxb160c : u_T := fun k => match k with
  | _ => ("", "", "", false)
def tyJxb160c : Nat → FieldType := fun k => match k with
  | _ => .int
abbrev wsJxb160c0 : List Cond := u_ws RJxb160c TJxb160c 0
theorem nmJxb160c : ∀ a, a < 0 → ∀ b, b < 0 → a ≠ b → (TJxb160c a).2.1 ≠ (TJxb160c b).2.1 := by decide +kernel
theorem tyJxb160c_ok : ∀ k, k < 0 → parseFieldDescriptor (TJxb160c k).2.2.1 = some (tyJxb160c k) := by decide +kernel
def RJ6 : String := "java/lang/Integer"
def TJ6 : u_T := fun k => match k with
  | _ => ("", "", "", false)
def tyJ6 : Nat → FieldType := fun k => match k with
  | _ => .int
abbrev wsJ60 : List Cond := u_ws RJ6 TJ6 0
theorem nmJ6 : ∀ a, a < 0 → ∀ b, b < 0 → a ≠ b → (TJ6 a).2.1 ≠ (TJ6 b).2.1 := by decide +kernel
theorem tyJ6_ok : ∀ k, k < 0 → parseFieldDescriptor (TJ6 k).2.2.1 = some (tyJ6 k) := by decide +kernel
abbrev cJ6_getChars_ba4f3 : ByteArray := prog_17_method_12_code
def yJ6_getChars_ba4f3 : MethodName := ⟨RJ6, "getChars", "(II[B)I"⟩
abbrev cJ6_stringSize_0f7a4 : ByteArray := prog_17_method_13_code
def yJ6_stringSize_0f7a4 : MethodName := ⟨RJ6, "stringSize", "(I)I"⟩
def RJ9 : String := "java/lang/Math"
def TJ9 : u_T := fun k => match k with
  | _ => ("", "", "", false)
def tyJ9 : Nat → FieldType := fun k => match k with
  | _ => .int
abbrev wsJ90 : List Cond := u_ws RJ9 TJ9 0
theorem nmJ9 : ∀ a, a < 0 → ∀ b, b < 0 → a ≠ b → (TJ9 a).2.1 ≠ (TJ9 b).2.1 := by decide +kernel
theorem tyJ9_ok : ∀ k, k < 0 → parseFieldDescriptor (TJ9 k).2.2.1 = some (tyJ9 k) := by decide +kernel
abbrev cJ9_abs_0f7a4 : ByteArray := prog_18_method_59_code
def yJ9_abs_0f7a4 : MethodName := ⟨RJ9, "abs", "(I)I"⟩
abbrev cJ9_max_7cf53 : ByteArray := prog_18_method_65_code
def yJ9_max_7cf53 : MethodName := ⟨RJ9, "max", "(II)I"⟩
abbrev cJ9_min_7cf53 : ByteArray := prog_18_method_69_code
def yJ9_min_7cf53 : MethodName := ⟨RJ9, "min", "(II)I"⟩
def RJxd2413 : String := "java/lang/Number"
def TJxd2413 : u_T := fun k => match k with
  | _ => ("", "", "", false)
def tyJxd2413 : Nat → FieldType := fun k => match k with
  | _ => .int
abbrev wsJxd24130 : List Cond := u_ws RJxd2413 TJxd2413 0
theorem nmJxd2413 : ∀ a, a < 0 → ∀ b, b < 0 → a ≠ b → (TJxd2413 a).2.1 ≠ (TJxd2413 b).2.1 := by decide +kernel
theorem tyJxd2413_ok : ∀ k, k < 0 → parseFieldDescriptor (TJxd2413 k).2.2.1 = some (tyJxd2413 k) := by decide +kernel
def RJ0 : String := "java/lang/String"
def TJ0 : u_T := fun k => match k with
  | 0 => ("java/lang/String", "value", "[B", true)
  | 1 => ("java/lang/String", "coder", "B", true)
  | 2 => ("java/lang/String", "hash", "I", false)
  | _ => ("java/lang/String", "hashIsZero", "Z", false)
def tyJ0 : Nat → FieldType := fun k => match k with
  | 0 => .array .byte
  | 1 => .byte
  | 2 => .int
  | _ => .boolean
abbrev wsJ00 : List Cond := u_ws RJ0 TJ0 4
theorem nmJ0 : ∀ a, a < 4 → ∀ b, b < 4 → a ≠ b → (TJ0 a).2.1 ≠ (TJ0 b).2.1 := by decide +kernel
theorem tyJ0_ok : ∀ k, k < 4 → parseFieldDescriptor (TJ0 k).2.2.1 = some (tyJ0 k) := by decide +kernel
abbrev cJ0_init_81219 : ByteArray := prog_21_method_53_code
def yJ0_init_81219 : MethodName := ⟨RJ0, "<init>", "(Ljava/lang/StringBuilder;)V"⟩
abbrev cJ0_length_8abf5 : ByteArray := prog_21_method_54_code
def yJ0_length_8abf5 : MethodName := ⟨RJ0, "length", "()I"⟩
abbrev cJ0_charAt_5068e : ByteArray := prog_21_method_56_code
def yJ0_charAt_5068e : MethodName := ⟨RJ0, "charAt", "(I)C"⟩
abbrev cJ0_getBytes_840e7 : ByteArray := prog_21_method_147_code
def yJ0_getBytes_840e7 : MethodName := ⟨RJ0, "getBytes", "([BIB)V"⟩
abbrev cJ0_init_db425 : ByteArray := prog_21_method_150_code
def yJ0_init_db425 : MethodName := ⟨RJ0, "<init>", "(Ljava/lang/AbstractStringBuilder;Ljava/lang/Void;)V"⟩
abbrev cJ0_coder_7d493 : ByteArray := prog_21_method_152_code
def yJ0_coder_7d493 : MethodName := ⟨RJ0, "coder", "()B"⟩
abbrev cJ0_isLatin1_aae02 : ByteArray := prog_21_method_154_code
def yJ0_isLatin1_aae02 : MethodName := ⟨RJ0, "isLatin1", "()Z"⟩
abbrev cJ0_checkIndex_df160 : ByteArray := prog_21_method_155_code
def yJ0_checkIndex_df160 : MethodName := ⟨RJ0, "checkIndex", "(II)V"⟩
abbrev cJ0_checkBoundsOffCount_cabcc : ByteArray := prog_21_method_157_code
def yJ0_checkBoundsOffCount_cabcc : MethodName := ⟨RJ0, "checkBoundsOffCount", "(III)I"⟩
abbrev cJ0_checkBoundsBeginEnd_23922 : ByteArray := prog_21_method_158_code
def yJ0_checkBoundsBeginEnd_23922 : MethodName := ⟨RJ0, "checkBoundsBeginEnd", "(III)V"⟩
def RJ4 : String := "java/lang/StringBuilder"
def TJ4 : u_T := fun k => match k with
  | 0 => ("java/lang/AbstractStringBuilder", "value", "[B", false)
  | 1 => ("java/lang/AbstractStringBuilder", "coder", "B", false)
  | 2 => ("java/lang/AbstractStringBuilder", "maybeLatin1", "Z", false)
  | _ => ("java/lang/AbstractStringBuilder", "count", "I", false)
def tyJ4 : Nat → FieldType := fun k => match k with
  | 0 => .array .byte
  | 1 => .byte
  | 2 => .boolean
  | _ => .int
abbrev wsJ40 : List Cond := u_ws RJ4 TJ4 4
theorem nmJ4 : ∀ a, a < 4 → ∀ b, b < 4 → a ≠ b → (TJ4 a).2.1 ≠ (TJ4 b).2.1 := by decide +kernel
theorem tyJ4_ok : ∀ k, k < 4 → parseFieldDescriptor (TJ4 k).2.2.1 = some (tyJ4 k) := by decide +kernel
abbrev cJ4_init_da8c8 : ByteArray := prog_22_method_1_code
def yJ4_init_da8c8 : MethodName := ⟨RJ4, "<init>", "()V"⟩
abbrev cJ4_append_15ec4 : ByteArray := prog_22_method_7_code
def yJ4_append_15ec4 : MethodName := ⟨RJ4, "append", "(Ljava/lang/String;)Ljava/lang/StringBuilder;"⟩
abbrev cJ4_append_bf812 : ByteArray := prog_22_method_15_code
def yJ4_append_bf812 : MethodName := ⟨RJ4, "append", "(I)Ljava/lang/StringBuilder;"⟩
abbrev cJ4_toString_0e30d : ByteArray := prog_22_method_42_code
def yJ4_toString_0e30d : MethodName := ⟨RJ4, "toString", "()Ljava/lang/String;"⟩
abbrev cJ4_length_8abf5 : ByteArray := prog_22_method_93_code
def yJ4_length_8abf5 : MethodName := ⟨RJ4, "length", "()I"⟩
def RJ1 : String := "java/lang/StringLatin1"
def TJ1 : u_T := fun k => match k with
  | _ => ("", "", "", false)
def tyJ1 : Nat → FieldType := fun k => match k with
  | _ => .int
abbrev wsJ10 : List Cond := u_ws RJ1 TJ1 0
theorem nmJ1 : ∀ a, a < 0 → ∀ b, b < 0 → a ≠ b → (TJ1 a).2.1 ≠ (TJ1 b).2.1 := by decide +kernel
theorem tyJ1_ok : ∀ k, k < 0 → parseFieldDescriptor (TJ1 k).2.2.1 = some (tyJ1 k) := by decide +kernel
abbrev cJ1_charAt_3b067 : ByteArray := prog_23_method_2_code
def yJ1_charAt_3b067 : MethodName := ⟨RJ1, "charAt", "([BI)C"⟩
abbrev cJ1_inflate_0e8fd : ByteArray := prog_23_method_50_code
def yJ1_inflate_0e8fd : MethodName := ⟨RJ1, "inflate", "([BI[BII)V"⟩
def RJ2 : String := "java/lang/StringUTF16"
def TJ2 : u_T := fun k => match k with
  | _ => ("", "", "", false)
def tyJ2 : Nat → FieldType := fun k => match k with
  | _ => .int
abbrev wsJ20 : List Cond := u_ws RJ2 TJ2 0
theorem nmJ2 : ∀ a, a < 0 → ∀ b, b < 0 → a ≠ b → (TJ2 a).2.1 ≠ (TJ2 b).2.1 := by decide +kernel
theorem tyJ2_ok : ∀ k, k < 0 → parseFieldDescriptor (TJ2 k).2.2.1 = some (tyJ2 k) := by decide +kernel
abbrev cJ2_newBytesFor_77867 : ByteArray := prog_24_method_2_code
def yJ2_newBytesFor_77867 : MethodName := ⟨RJ2, "newBytesFor", "(I)[B"⟩
abbrev cJ2_newBytesLength_0f7a4 : ByteArray := prog_24_method_3_code
def yJ2_newBytesLength_0f7a4 : MethodName := ⟨RJ2, "newBytesLength", "(I)I"⟩
abbrev cJ2_putChar_b72d1 : ByteArray := prog_24_method_4_code
def yJ2_putChar_b72d1 : MethodName := ⟨RJ2, "putChar", "([BII)V"⟩
abbrev cJ2_getChar_3b067 : ByteArray := prog_24_method_5_code
def yJ2_getChar_3b067 : MethodName := ⟨RJ2, "getChar", "([BI)C"⟩
abbrev cJ2_length_9d52b : ByteArray := prog_24_method_6_code
def yJ2_length_9d52b : MethodName := ⟨RJ2, "length", "([B)I"⟩
abbrev cJ2_coderFromArrayLen_85cad : ByteArray := prog_24_method_15_code
def yJ2_coderFromArrayLen_85cad : MethodName := ⟨RJ2, "coderFromArrayLen", "([BI)B"⟩
abbrev cJ2_compress_39247 : ByteArray := prog_24_method_17_code
def yJ2_compress_39247 : MethodName := ⟨RJ2, "compress", "([BII)[B"⟩
abbrev cJ2_compress_5af95 : ByteArray := prog_24_method_22_code
def yJ2_compress_5af95 : MethodName := ⟨RJ2, "compress", "([BI[BII)I"⟩
abbrev cJ2_getChars_46870 : ByteArray := prog_24_method_77_code
def yJ2_getChars_46870 : MethodName := ⟨RJ2, "getChars", "(III[B)I"⟩
abbrev cJ2_putCharsAt_cd4e5 : ByteArray := prog_24_method_81_code
def yJ2_putCharsAt_cd4e5 : MethodName := ⟨RJ2, "putCharsAt", "([BICCCC)I"⟩
abbrev cJ2_charAt_3b067 : ByteArray := prog_24_method_83_code
def yJ2_charAt_3b067 : MethodName := ⟨RJ2, "charAt", "([BI)C"⟩
abbrev cJ2_inflate_0e8fd : ByteArray := prog_24_method_86_code
def yJ2_inflate_0e8fd : MethodName := ⟨RJ2, "inflate", "([BI[BII)V"⟩
abbrev cJ2_getChars_ba4f3 : ByteArray := prog_24_method_89_code
def yJ2_getChars_ba4f3 : MethodName := ⟨RJ2, "getChars", "(II[B)I"⟩
abbrev cJ2_checkIndex_2214a : ByteArray := prog_24_method_91_code
def yJ2_checkIndex_2214a : MethodName := ⟨RJ2, "checkIndex", "(I[B)V"⟩
abbrev cJ2_checkBoundsBeginEnd_d044e : ByteArray := prog_24_method_93_code
def yJ2_checkBoundsBeginEnd_d044e : MethodName := ⟨RJ2, "checkBoundsBeginEnd", "(II[B)V"⟩
abbrev cJ2_checkBoundsOffCount_d044e : ByteArray := prog_24_method_94_code
def yJ2_checkBoundsOffCount_d044e : MethodName := ⟨RJ2, "checkBoundsOffCount", "(II[B)V"⟩
def RJ10 : String := "java/lang/System"
def TJ10 : u_T := fun k => match k with
  | _ => ("", "", "", false)
def tyJ10 : Nat → FieldType := fun k => match k with
  | _ => .int
abbrev wsJ100 : List Cond := u_ws RJ10 TJ10 0
theorem nmJ10 : ∀ a, a < 0 → ∀ b, b < 0 → a ≠ b → (TJ10 a).2.1 ≠ (TJ10 b).2.1 := by decide +kernel
theorem tyJ10_ok : ∀ k, k < 0 → parseFieldDescriptor (TJ10 k).2.2.1 = some (tyJ10 k) := by decide +kernel
def RJxfd54e : String := "java/lang/constant/Constable"
def TJxfd54e : u_T := fun k => match k with
  | _ => ("", "", "", false)
def tyJxfd54e : Nat → FieldType := fun k => match k with
  | _ => .int
abbrev wsJxfd54e0 : List Cond := u_ws RJxfd54e TJxfd54e 0
theorem nmJxfd54e : ∀ a, a < 0 → ∀ b, b < 0 → a ≠ b → (TJxfd54e a).2.1 ≠ (TJxfd54e b).2.1 := by decide +kernel
theorem tyJxfd54e_ok : ∀ k, k < 0 → parseFieldDescriptor (TJxfd54e k).2.2.1 = some (tyJxfd54e k) := by decide +kernel
def RJx3cf43 : String := "java/lang/constant/ConstantDesc"
def TJx3cf43 : u_T := fun k => match k with
  | _ => ("", "", "", false)
def tyJx3cf43 : Nat → FieldType := fun k => match k with
  | _ => .int
abbrev wsJx3cf430 : List Cond := u_ws RJx3cf43 TJx3cf43 0
theorem nmJx3cf43 : ∀ a, a < 0 → ∀ b, b < 0 → a ≠ b → (TJx3cf43 a).2.1 ≠ (TJx3cf43 b).2.1 := by decide +kernel
theorem tyJx3cf43_ok : ∀ k, k < 0 → parseFieldDescriptor (TJx3cf43 k).2.2.1 = some (tyJx3cf43 k) := by decide +kernel
def RJ7 : String := "java/util/Arrays"
def TJ7 : u_T := fun k => match k with
  | _ => ("", "", "", false)
def tyJ7 : Nat → FieldType := fun k => match k with
  | _ => .int
abbrev wsJ70 : List Cond := u_ws RJ7 TJ7 0
theorem nmJ7 : ∀ a, a < 0 → ∀ b, b < 0 → a ≠ b → (TJ7 a).2.1 ≠ (TJ7 b).2.1 := by decide +kernel
theorem tyJ7_ok : ∀ k, k < 0 → parseFieldDescriptor (TJ7 k).2.2.1 = some (tyJ7 k) := by decide +kernel
abbrev cJ7_fill_53178 : ByteArray := prog_27_method_103_code
def yJ7_fill_53178 : MethodName := ⟨RJ7, "fill", "([II)V"⟩
abbrev cJ7_copyOf_9075b : ByteArray := prog_27_method_121_code
def yJ7_copyOf_9075b : MethodName := ⟨RJ7, "copyOf", "([BI)[B"⟩
abbrev cJ7_checkLength_df160 : ByteArray := prog_27_method_131_code
def yJ7_checkLength_df160 : MethodName := ⟨RJ7, "checkLength", "(II)V"⟩
abbrev cJ7_copyOfRange_39247 : ByteArray := prog_27_method_132_code
def yJ7_copyOfRange_39247 : MethodName := ⟨RJ7, "copyOfRange", "([BII)[B"⟩
abbrev cJ7_copyOfRangeByte_39247 : ByteArray := prog_27_method_133_code
def yJ7_copyOfRangeByte_39247 : MethodName := ⟨RJ7, "copyOfRangeByte", "([BII)[B"⟩
def RJ8 : String := "jdk/internal/util/ArraysSupport"
def TJ8 : u_T := fun k => match k with
  | _ => ("", "", "", false)
def tyJ8 : Nat → FieldType := fun k => match k with
  | _ => .int
abbrev wsJ80 : List Cond := u_ws RJ8 TJ8 0
theorem nmJ8 : ∀ a, a < 0 → ∀ b, b < 0 → a ≠ b → (TJ8 a).2.1 ≠ (TJ8 b).2.1 := by decide +kernel
theorem tyJ8_ok : ∀ k, k < 0 → parseFieldDescriptor (TJ8 k).2.2.1 = some (tyJ8 k) := by decide +kernel
abbrev cJ8_newLength_cabcc : ByteArray := prog_28_method_27_code
def yJ8_newLength_cabcc : MethodName := ⟨RJ8, "newLength", "(III)I"⟩
abbrev cJ8_hugeLength_7cf53 : ByteArray := prog_28_method_28_code
def yJ8_hugeLength_7cf53 : MethodName := ⟨RJ8, "hugeLength", "(II)I"⟩
def RJ3 : String := "jdk/internal/util/Preconditions"
def TJ3 : u_T := fun k => match k with
  | _ => ("", "", "", false)
def tyJ3 : Nat → FieldType := fun k => match k with
  | _ => .int
abbrev wsJ30 : List Cond := u_ws RJ3 TJ3 0
theorem nmJ3 : ∀ a, a < 0 → ∀ b, b < 0 → a ≠ b → (TJ3 a).2.1 ≠ (TJ3 b).2.1 := by decide +kernel
theorem tyJ3_ok : ∀ k, k < 0 → parseFieldDescriptor (TJ3 k).2.2.1 = some (tyJ3 k) := by decide +kernel
abbrev cJ3_checkIndex_8e157 : ByteArray := prog_29_method_11_code
def yJ3_checkIndex_8e157 : MethodName := ⟨RJ3, "checkIndex", "(IILjava/util/function/BiFunction;)I"⟩
abbrev cJ3_checkFromToIndex_8c36e : ByteArray := prog_29_method_12_code
def yJ3_checkFromToIndex_8c36e : MethodName := ⟨RJ3, "checkFromToIndex", "(IIILjava/util/function/BiFunction;)I"⟩
abbrev cJ3_checkFromIndexSize_8c36e : ByteArray := prog_29_method_13_code
def yJ3_checkFromIndexSize_8c36e : MethodName := ⟨RJ3, "checkFromIndexSize", "(IIILjava/util/function/BiFunction;)I"⟩
def RL : String := "KaleidoscopeBoxLaw"
abbrev cL_pick : ByteArray := method_2_code
def yL_pick : MethodName := ⟨RL, "pick", "([II)I"⟩
abbrev cL_feed : ByteArray := method_3_code
def yL_feed : MethodName := ⟨RL, "feed", "(LKaleidoscopeBox;Ljava/lang/String;)V"⟩
abbrev cL_angle : ByteArray := method_4_code
def yL_angle : MethodName := ⟨RL, "angle", "(I)I"⟩
abbrev cL_isHex : ByteArray := method_5_code
def yL_isHex : MethodName := ⟨RL, "isHex", "(LKaleidoscopeBox;)Z"⟩
abbrev cL_size : ByteArray := method_6_code
def yL_size : MethodName := ⟨RL, "size", "(I)I"⟩
abbrev cL_isNear : ByteArray := method_7_code
def yL_isNear : MethodName := ⟨RL, "isNear", "(LKaleidoscopeBox;II)Z"⟩
abbrev cL_isBox : ByteArray := method_8_code
def yL_isBox : MethodName := ⟨RL, "isBox", "(LKaleidoscopeBox;II)Z"⟩
abbrev cL_isPicture : ByteArray := method_9_code
def yL_isPicture : MethodName := ⟨RL, "isPicture", "(LKaleidoscopeBox;)Z"⟩
abbrev cL_hasMaps : ByteArray := method_10_code
def yL_hasMaps : MethodName := ⟨RL, "hasMaps", "(LKaleidoscopeBox;)Z"⟩
abbrev cL_falls : ByteArray := method_11_code
def yL_falls : MethodName := ⟨RL, "falls", "(LKaleidoscopeBox;)Z"⟩
abbrev cL_adds : ByteArray := method_12_code
def yL_adds : MethodName := ⟨RL, "adds", "(LKaleidoscopeBox;LKaleidoscopeBoxLaw$Told;)Z"⟩
abbrev cL_acts : ByteArray := method_13_code
def yL_acts : MethodName := ⟨RL, "acts", "(LKaleidoscopeBox;LKaleidoscopeBoxLaw$Told;)Z"⟩
abbrev cL_law : ByteArray := code
def yL_law : MethodName := ⟨RL, "law", "([I)Z"⟩
abbrev vwCl : List vw_C := [(RX0, TX0, 2), (RX1, TX1, 4), (RX2, TX2, 2), (RX3, TX3, 6), (RX4, TX4, 8), (RX5, TX5, 15), (RX6, TX6, 13), (RX7, TX7, 2), (RJ4, TJ4, 4), (RJ0, TJ0, 4)]
