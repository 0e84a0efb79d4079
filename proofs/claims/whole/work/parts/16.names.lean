def RX0 : String := "StencilCuts$Bridges"
def TX0 : u_T := fun k => match k with
  | 0 => ("StencilCuts$Bridges", "parts", "LStencilCuts$Parts;", true)
  | 1 => ("StencilCuts$Bridges", "run", "[I", true)
  | 2 => ("StencilCuts$Bridges", "bridge", "[I", true)
  | 3 => ("StencilCuts$Bridges", "bridgeAt", "[I", true)
  | 4 => ("StencilCuts$Bridges", "open", "[Z", true)
  | 5 => ("StencilCuts$Bridges", "group", "[I", true)
  | 6 => ("StencilCuts$Bridges", "runs", "I", false)
  | 7 => ("StencilCuts$Bridges", "chosen", "I", false)
  | 8 => ("StencilCuts$Bridges", "cells", "I", false)
  | _ => ("StencilCuts$Bridges", "lowerBound", "I", false)
def tyX0 : Nat → FieldType := fun k => match k with
  | 0 => .object "StencilCuts$Parts"
  | 1 => .array .int
  | 2 => .array .int
  | 3 => .array .int
  | 4 => .array .boolean
  | 5 => .array .int
  | 6 => .int
  | 7 => .int
  | 8 => .int
  | _ => .int
abbrev wsX00 : List Cond := u_ws RX0 TX0 10
theorem nmX0 : ∀ a, a < 10 → ∀ b, b < 10 → a ≠ b → (TX0 a).2.1 ≠ (TX0 b).2.1 := by decide +kernel
theorem tyX0_ok : ∀ k, k < 10 → parseFieldDescriptor (TX0 k).2.2.1 = some (tyX0 k) := by decide +kernel
def RX1 : String := "StencilCuts$Knife"
def TX1 : u_T := fun k => match k with
  | 0 => ("StencilCuts$Knife", "bridges", "LStencilCuts$Bridges;", true)
  | 1 => ("StencilCuts$Knife", "queue", "[I", true)
  | 2 => ("StencilCuts$Knife", "loopAt", "[I", true)
  | 3 => ("StencilCuts$Knife", "edgesOf", "[I", true)
  | 4 => ("StencilCuts$Knife", "isCut", "[Z", true)
  | 5 => ("StencilCuts$Knife", "way", "[I", true)
  | 6 => ("StencilCuts$Knife", "edges", "I", false)
  | 7 => ("StencilCuts$Knife", "loops", "I", false)
  | _ => ("StencilCuts$Knife", "airPath", "I", false)
def tyX1 : Nat → FieldType := fun k => match k with
  | 0 => .object "StencilCuts$Bridges"
  | 1 => .array .int
  | 2 => .array .int
  | 3 => .array .int
  | 4 => .array .boolean
  | 5 => .array .int
  | 6 => .int
  | 7 => .int
  | _ => .int
abbrev wsX10 : List Cond := u_ws RX1 TX1 9
theorem nmX1 : ∀ a, a < 9 → ∀ b, b < 9 → a ≠ b → (TX1 a).2.1 ≠ (TX1 b).2.1 := by decide +kernel
theorem tyX1_ok : ∀ k, k < 9 → parseFieldDescriptor (TX1 k).2.2.1 = some (tyX1 k) := by decide +kernel
def RX2 : String := "StencilCuts$Parts"
def TX2 : u_T := fun k => match k with
  | 0 => ("StencilCuts$Parts", "queue", "[I", true)
  | 1 => ("StencilCuts$Parts", "open", "[Z", true)
  | 2 => ("StencilCuts$Parts", "partAt", "[I", true)
  | 3 => ("StencilCuts$Parts", "number", "[I", true)
  | 4 => ("StencilCuts$Parts", "first", "[I", true)
  | 5 => ("StencilCuts$Parts", "size", "[I", true)
  | 6 => ("StencilCuts$Parts", "depth", "[I", true)
  | 7 => ("StencilCuts$Parts", "count", "I", false)
  | 8 => ("StencilCuts$Parts", "islands", "I", false)
  | _ => ("StencilCuts$Parts", "holes", "I", false)
def tyX2 : Nat → FieldType := fun k => match k with
  | 0 => .array .int
  | 1 => .array .boolean
  | 2 => .array .int
  | 3 => .array .int
  | 4 => .array .int
  | 5 => .array .int
  | 6 => .array .int
  | 7 => .int
  | 8 => .int
  | _ => .int
abbrev wsX20 : List Cond := u_ws RX2 TX2 10
theorem nmX2 : ∀ a, a < 10 → ∀ b, b < 10 → a ≠ b → (TX2 a).2.1 ≠ (TX2 b).2.1 := by decide +kernel
theorem tyX2_ok : ∀ k, k < 10 → parseFieldDescriptor (TX2 k).2.2.1 = some (tyX2 k) := by decide +kernel
def RX3 : String := "StencilCuts$Picture"
def TX3 : u_T := fun k => match k with
  | 0 => ("StencilCuts$Picture", "tally", "[I", true)
  | 1 => ("StencilCuts$Picture", "cells", "I", false)
  | 2 => ("StencilCuts$Picture", "bestOrder", "I", false)
  | 3 => ("StencilCuts$Picture", "bestWrong", "I", false)
  | 4 => ("StencilCuts$Picture", "bestOrders", "I", false)
  | _ => ("StencilCuts$Picture", "fresh", "Z", false)
def tyX3 : Nat → FieldType := fun k => match k with
  | 0 => .array .int
  | 1 => .int
  | 2 => .int
  | 3 => .int
  | 4 => .int
  | _ => .boolean
abbrev wsX30 : List Cond := u_ws RX3 TX3 6
theorem nmX3 : ∀ a, a < 6 → ∀ b, b < 6 → a ≠ b → (TX3 a).2.1 ≠ (TX3 b).2.1 := by decide +kernel
theorem tyX3_ok : ∀ k, k < 6 → parseFieldDescriptor (TX3 k).2.2.1 = some (tyX3 k) := by decide +kernel
def RX4 : String := "StencilCuts$Plan"
def TX4 : u_T := fun k => match k with
  | 0 => ("StencilCuts$Plan", "parts", "LStencilCuts$Parts;", true)
  | 1 => ("StencilCuts$Plan", "bridges", "LStencilCuts$Bridges;", true)
  | 2 => ("StencilCuts$Plan", "knife", "LStencilCuts$Knife;", true)
  | 3 => ("StencilCuts$Plan", "bridgesFresh", "Z", false)
  | _ => ("StencilCuts$Plan", "knifeFresh", "Z", false)
def tyX4 : Nat → FieldType := fun k => match k with
  | 0 => .object "StencilCuts$Parts"
  | 1 => .object "StencilCuts$Bridges"
  | 2 => .object "StencilCuts$Knife"
  | 3 => .boolean
  | _ => .boolean
abbrev wsX40 : List Cond := u_ws RX4 TX4 5
theorem nmX4 : ∀ a, a < 5 → ∀ b, b < 5 → a ≠ b → (TX4 a).2.1 ≠ (TX4 b).2.1 := by decide +kernel
theorem tyX4_ok : ∀ k, k < 5 → parseFieldDescriptor (TX4 k).2.2.1 = some (tyX4 k) := by decide +kernel
def RX5 : String := "StencilCuts$Sheet"
def TX5 : u_T := fun k => match k with
  | 0 => ("StencilCuts$Sheet", "wide", "I", false)
  | 1 => ("StencilCuts$Sheet", "high", "I", false)
  | 2 => ("StencilCuts$Sheet", "lines", "[I", true)
  | _ => ("StencilCuts$Sheet", "wishes", "[I", true)
def tyX5 : Nat → FieldType := fun k => match k with
  | 0 => .int
  | 1 => .int
  | 2 => .array .int
  | _ => .array .int
abbrev wsX50 : List Cond := u_ws RX5 TX5 4
theorem nmX5 : ∀ a, a < 4 → ∀ b, b < 4 → a ≠ b → (TX5 a).2.1 ≠ (TX5 b).2.1 := by decide +kernel
theorem tyX5_ok : ∀ k, k < 4 → parseFieldDescriptor (TX5 k).2.2.1 = some (tyX5 k) := by decide +kernel
def RX6 : String := "StencilCuts"
def TX6 : u_T := fun k => match k with
  | 0 => ("StencilCuts", "current", "LStencilCuts$Sheet;", true)
  | 1 => ("StencilCuts", "images", "[LStencilCuts$Sheet;", true)
  | 2 => ("StencilCuts", "plans", "[LStencilCuts$Plan;", true)
  | 3 => ("StencilCuts", "picture", "LStencilCuts$Picture;", true)
  | _ => ("StencilCuts", "keptImages", "I", false)
def tyX6 : Nat → FieldType := fun k => match k with
  | 0 => .object "StencilCuts$Sheet"
  | 1 => .array (.object "StencilCuts$Sheet")
  | 2 => .array (.object "StencilCuts$Plan")
  | 3 => .object "StencilCuts$Picture"
  | _ => .int
abbrev wsX60 : List Cond := u_ws RX6 TX6 5
theorem nmX6 : ∀ a, a < 5 → ∀ b, b < 5 → a ≠ b → (TX6 a).2.1 ≠ (TX6 b).2.1 := by decide +kernel
theorem tyX6_ok : ∀ k, k < 5 → parseFieldDescriptor (TX6 k).2.2.1 = some (tyX6 k) := by decide +kernel
def RX7 : String := "StencilCutsModel"
def TX7 : u_T := fun k => match k with
  | 0 => ("StencilCutsModel", "state", "[I", true)
  | 1 => ("StencilCutsModel", "images", "[I", true)
  | 2 => ("StencilCutsModel", "isKept", "[Z", true)
  | 3 => ("StencilCutsModel", "mark", "[I", true)
  | 4 => ("StencilCutsModel", "islandOf", "[I", true)
  | 5 => ("StencilCutsModel", "holeOf", "[I", true)
  | 6 => ("StencilCutsModel", "islands", "I", false)
  | 7 => ("StencilCutsModel", "holes", "I", false)
  | 8 => ("StencilCutsModel", "runX", "[I", true)
  | 9 => ("StencilCutsModel", "runY", "[I", true)
  | 10 => ("StencilCutsModel", "runLong", "[I", true)
  | 11 => ("StencilCutsModel", "runDown", "[I", true)
  | 12 => ("StencilCutsModel", "runFrom", "[I", true)
  | 13 => ("StencilCutsModel", "runTo", "[I", true)
  | 14 => ("StencilCutsModel", "runs", "I", false)
  | 15 => ("StencilCutsModel", "tie", "[I", true)
  | 16 => ("StencilCutsModel", "bridgeRun", "[I", true)
  | 17 => ("StencilCutsModel", "bridgeOf", "[I", true)
  | 18 => ("StencilCutsModel", "bridges", "I", false)
  | 19 => ("StencilCutsModel", "deep", "[I", true)
  | 20 => ("StencilCutsModel", "stillCut", "[Z", true)
  | 21 => ("StencilCutsModel", "loopOf", "[I", true)
  | 22 => ("StencilCutsModel", "loops", "I", false)
  | 23 => ("StencilCutsModel", "firstCorner", "[I", true)
  | 24 => ("StencilCutsModel", "isDone", "[Z", true)
  | 25 => ("StencilCutsModel", "cutLoop", "[I", true)
  | 26 => ("StencilCutsModel", "cutAt", "[I", true)
  | 27 => ("StencilCutsModel", "air", "I", false)
  | 28 => ("StencilCutsModel", "fewest", "I", false)
  | _ => ("StencilCutsModel", "asFew", "I", false)
def tyX7 : Nat → FieldType := fun k => match k with
  | 0 => .array .int
  | 1 => .array .int
  | 2 => .array .boolean
  | 3 => .array .int
  | 4 => .array .int
  | 5 => .array .int
  | 6 => .int
  | 7 => .int
  | 8 => .array .int
  | 9 => .array .int
  | 10 => .array .int
  | 11 => .array .int
  | 12 => .array .int
  | 13 => .array .int
  | 14 => .int
  | 15 => .array .int
  | 16 => .array .int
  | 17 => .array .int
  | 18 => .int
  | 19 => .array .int
  | 20 => .array .boolean
  | 21 => .array .int
  | 22 => .int
  | 23 => .array .int
  | 24 => .array .boolean
  | 25 => .array .int
  | 26 => .array .int
  | 27 => .int
  | 28 => .int
  | _ => .int
abbrev wsX70 : List Cond := u_ws RX7 TX7 30
theorem nmX7 : ∀ a, a < 30 → ∀ b, b < 30 → a ≠ b → (TX7 a).2.1 ≠ (TX7 b).2.1 := by decide +kernel
theorem tyX7_ok : ∀ k, k < 30 → parseFieldDescriptor (TX7 k).2.2.1 = some (tyX7 k) := by decide +kernel
abbrev vwCl : List vw_C := [(RX0, TX0, 10), (RX1, TX1, 9), (RX2, TX2, 10), (RX3, TX3, 6), (RX4, TX4, 5), (RX5, TX5, 4), (RX6, TX6, 5), (RX7, TX7, 30)]
def ownN (n : Nat) : String := (["StencilCuts$Bridges", "StencilCuts$Knife", "StencilCuts$Parts", "StencilCuts$Picture", "StencilCuts$Plan", "StencilCuts$Sheet", "StencilCuts", "StencilCutsModel", "StencilCutsLaw", "java/lang/Integer", "java/lang/Math", "java/util/Arrays"] : List String).getD n ""
abbrev MR : Type := MethodName × ByteArray × Nat × Option FieldType × Nat × Nat × Nat
def mrec : List MR := [(⟨"StencilCuts", "isWithin", "(III)Z"⟩, prog_1_method_26_code, 3, (some .boolean), 6, 0, 0),
  (⟨"java/util/Arrays", "fill", "([II)V"⟩, prog_13_method_103_code, 4, none, 11, 0, 0),
  (⟨"StencilCuts$Sheet", "reset", "(II)V"⟩, prog_7_method_2_code, 3, none, 5, 1, 23),
  (⟨"StencilCuts$Plan", "forget", "()V"⟩, prog_6_method_2_code, 1, none, 4, 0, 0),
  (⟨"StencilCuts", "forgetLayer", "(I)V"⟩, prog_1_method_20_code, 2, none, 6, 1, 20),
  (⟨"StencilCuts", "forgetAll", "()V"⟩, prog_1_method_21_code, 2, none, 6, 2, 41),
  (⟨"StencilCuts", "sheet", "(II)I"⟩, prog_1_method_2_code, 3, (some .int), 6, 3, 62),
  (⟨"StencilCuts", "isLayer", "(I)Z"⟩, prog_1_method_25_code, 1, (some .boolean), 6, 1, 22),
  (⟨"StencilCuts$Sheet", "hasCell", "(II)Z"⟩, prog_7_method_4_code, 3, (some .boolean), 5, 1, 22),
  (⟨"StencilCuts$Sheet", "setOpen", "(IIIZ)V"⟩, prog_7_method_6_code, 6, none, 5, 0, 0),
  (⟨"java/lang/Integer", "bitCount", "(I)I"⟩, prog_10_method_49_code, 1, (some .int), 9, 0, 0),
  (⟨"StencilCuts$Sheet", "openCells", "(I)I"⟩, prog_7_method_8_code, 4, (some .int), 5, 1, 20),
  (⟨"StencilCuts", "cut", "(IIII)I"⟩, prog_1_method_3_code, 5, (some .int), 6, 2, 44),
  (⟨"StencilCuts$Sheet", "setLine", "(III)V"⟩, prog_7_method_7_code, 4, none, 5, 0, 0),
  (⟨"StencilCuts", "row", "(III)I"⟩, prog_1_method_4_code, 4, (some .int), 6, 2, 43),
  (⟨"StencilCuts$Sheet", "wishAt", "(II)I"⟩, prog_7_method_9_code, 3, (some .int), 5, 0, 0),
  (⟨"StencilCuts$Sheet", "setWish", "(III)V"⟩, prog_7_method_10_code, 4, none, 5, 0, 0),
  (⟨"StencilCuts", "wish", "(III)I"⟩, prog_1_method_5_code, 5, (some .int), 6, 2, 44),
  (⟨"StencilCuts$Sheet", "isOpen", "(III)Z"⟩, prog_7_method_5_code, 4, (some .boolean), 5, 0, 0),
  (⟨"StencilCuts", "xOf", "(I)I"⟩, prog_1_method_29_code, 1, (some .int), 6, 0, 0),
  (⟨"StencilCuts", "yOf", "(I)I"⟩, prog_1_method_30_code, 1, (some .int), 6, 0, 0),
  (⟨"StencilCuts$Parts", "lay", "(LStencilCuts$Sheet;I)V"⟩, prog_4_method_3_code, 6, none, 2, 2, 44),
  (⟨"StencilCuts", "isPlace", "(I)Z"⟩, prog_1_method_27_code, 1, (some .boolean), 6, 0, 0),
  (⟨"StencilCuts$Parts", "spread", "(II)I"⟩, prog_4_method_5_code, 10, (some .int), 2, 1, 20),
  (⟨"StencilCuts$Parts", "addPart", "(I)V"⟩, prog_4_method_4_code, 2, none, 2, 2, 49),
  (⟨"StencilCuts$Parts", "find", "(LStencilCuts$Sheet;I)V"⟩, prog_4_method_2_code, 4, none, 2, 3, 70),
  (⟨"StencilCuts$Parts", "partOf", "(I)I"⟩, prog_4_method_8_code, 3, (some .int), 2, 1, 22),
  (⟨"StencilCuts$Parts", "reachFrom", "(I)Z"⟩, prog_4_method_7_code, 9, (some .boolean), 2, 2, 44),
  (⟨"StencilCuts$Parts", "findDepths", "()V"⟩, prog_4_method_6_code, 3, none, 2, 3, 72),
  (⟨"StencilCuts$Bridges", "lengthFrom", "(II)I"⟩, prog_2_method_9_code, 5, (some .int), 0, 0, 0),
  (⟨"StencilCuts$Bridges", "startOf", "(I)I"⟩, prog_2_method_2_code, 1, (some .int), 0, 0, 0),
  (⟨"StencilCuts$Bridges", "stepOf", "(I)I"⟩, prog_2_method_4_code, 1, (some .int), 0, 0, 0),
  (⟨"StencilCuts$Bridges", "placeBefore", "(I)I"⟩, prog_2_method_6_code, 1, (some .int), 0, 1, 20),
  (⟨"StencilCuts$Bridges", "lengthOf", "(I)I"⟩, prog_2_method_5_code, 1, (some .int), 0, 0, 0),
  (⟨"StencilCuts$Bridges", "placeAfter", "(I)I"⟩, prog_2_method_7_code, 1, (some .int), 0, 1, 20),
  (⟨"StencilCuts$Bridges", "insertRun", "(I)V"⟩, prog_2_method_10_code, 3, none, 0, 0, 0),
  (⟨"StencilCuts$Bridges", "findRuns", "(I)V"⟩, prog_2_method_8_code, 6, none, 0, 2, 44),
  (⟨"StencilCuts$Bridges", "untieAll", "()V"⟩, prog_2_method_14_code, 2, none, 0, 0, 0),
  (⟨"StencilCuts$Bridges", "isUntied", "(I)Z"⟩, prog_2_method_15_code, 4, (some .boolean), 0, 2, 44),
  (⟨"StencilCuts$Bridges", "tieEnds", "(I)V"⟩, prog_2_method_16_code, 5, none, 0, 2, 44),
  (⟨"StencilCuts$Bridges", "findLowerBound", "()V"⟩, prog_2_method_11_code, 2, none, 0, 3, 68),
  (⟨"StencilCuts$Bridges", "removeAll", "()V"⟩, prog_2_method_13_code, 2, none, 0, 0, 0),
  (⟨"StencilCuts$Bridges", "touchesBridge", "(I)Z"⟩, prog_2_method_18_code, 7, (some .boolean), 0, 1, 20),
  (⟨"StencilCuts$Bridges", "isClear", "(I)Z"⟩, prog_2_method_17_code, 5, (some .boolean), 0, 2, 46),
  (⟨"StencilCuts$Bridges", "addBridge", "(I)V"⟩, prog_2_method_19_code, 5, none, 0, 1, 20),
  (⟨"StencilCuts$Bridges", "build", "()V"⟩, prog_2_method_12_code, 2, none, 0, 3, 70),
  (⟨"StencilCuts$Plan", "bridged", "(LStencilCuts$Sheet;I)LStencilCuts$Plan;"⟩, prog_6_method_3_code, 3, (some (.object "StencilCuts$Plan")), 4, 4, 94),
  (⟨"StencilCuts", "placeOf", "(II)I"⟩, prog_1_method_28_code, 2, (some .int), 6, 0, 0),
  (⟨"StencilCuts$Parts", "isOpen", "(I)Z"⟩, prog_4_method_9_code, 2, (some .boolean), 2, 1, 20),
  (⟨"StencilCuts$Parts", "islandAt", "(I)I"⟩, prog_4_method_10_code, 2, (some .int), 2, 2, 44),
  (⟨"StencilCuts$Parts", "holeAt", "(I)I"⟩, prog_4_method_11_code, 2, (some .int), 2, 2, 44),
  (⟨"StencilCuts", "cell", "(IIII)I"⟩, prog_1_method_6_code, 7, (some .int), 6, 5, 116),
  (⟨"StencilCuts$Parts", "isIsland", "(I)Z"⟩, prog_4_method_12_code, 2, (some .boolean), 2, 2, 41),
  (⟨"StencilCuts$Bridges", "isLoose", "(I)Z"⟩, prog_2_method_20_code, 2, (some .boolean), 0, 0, 0),
  (⟨"StencilCuts$Bridges", "looseIslands", "()I"⟩, prog_2_method_21_code, 3, (some .int), 0, 3, 62),
  (⟨"StencilCuts", "layer", "(II)I"⟩, prog_1_method_7_code, 4, (some .int), 6, 5, 116),
  (⟨"StencilCuts$Parts", "partOfIsland", "(I)I"⟩, prog_4_method_13_code, 3, (some .int), 2, 3, 62),
  (⟨"StencilCuts$Bridges", "bridgesOf", "(I)I"⟩, prog_2_method_22_code, 4, (some .int), 0, 2, 44),
  (⟨"StencilCuts", "island", "(III)I"⟩, prog_1_method_8_code, 6, (some .int), 6, 5, 116),
  (⟨"StencilCuts$Bridges", "isVertical", "(I)Z"⟩, prog_2_method_3_code, 1, (some .boolean), 0, 1, 20),
  (⟨"StencilCuts", "bridge", "(III)I"⟩, prog_1_method_9_code, 6, (some .int), 6, 5, 116),
  (⟨"StencilCuts$Knife", "hasEdge", "(II)Z"⟩, prog_3_method_4_code, 5, (some .boolean), 1, 1, 20),
  (⟨"StencilCuts$Knife", "hasAnyEdge", "(I)Z"⟩, prog_3_method_3_code, 3, (some .boolean), 1, 2, 44),
  (⟨"StencilCuts$Knife", "follow", "(II)I"⟩, prog_3_method_5_code, 8, (some .int), 1, 2, 44),
  (⟨"StencilCuts$Knife", "findLoops", "()V"⟩, prog_3_method_2_code, 2, none, 1, 3, 71),
  (⟨"StencilCuts$Knife", "loopOf", "(I)I"⟩, prog_3_method_7_code, 3, (some .int), 1, 1, 22),
  (⟨"StencilCuts$Knife", "distance", "(II)I"⟩, prog_3_method_9_code, 2, (some .int), 1, 1, 21),
  (⟨"StencilCuts$Knife", "nearestFrom", "(I)I"⟩, prog_3_method_8_code, 8, (some .int), 1, 2, 44),
  (⟨"StencilCuts$Knife", "planWay", "()V"⟩, prog_3_method_6_code, 5, none, 1, 3, 71),
  (⟨"StencilCuts$Plan", "routed", "(LStencilCuts$Sheet;I)LStencilCuts$Knife;"⟩, prog_6_method_4_code, 3, (some (.object "StencilCuts$Knife")), 4, 5, 116),
  (⟨"StencilCuts", "knife", "(II)I"⟩, prog_1_method_10_code, 4, (some .int), 6, 6, 138),
  (⟨"StencilCuts", "loop", "(III)I"⟩, prog_1_method_11_code, 7, (some .int), 6, 6, 138),
  (⟨"StencilCuts$Picture", "clear", "()V"⟩, prog_5_method_2_code, 1, none, 3, 1, 23),
  (⟨"StencilCuts", "openLayers", "(I)I"⟩, prog_1_method_23_code, 4, (some .int), 6, 0, 0),
  (⟨"StencilCuts$Picture", "addCell", "(II)V"⟩, prog_5_method_3_code, 3, none, 3, 0, 0),
  (⟨"StencilCuts$Picture", "colourOf", "(II)I"⟩, prog_5_method_4_code, 5, (some .int), 3, 0, 0),
  (⟨"StencilCuts$Picture", "wrongBy", "(I)I"⟩, prog_5_method_5_code, 4, (some .int), 3, 1, 24),
  (⟨"StencilCuts$Picture", "findBest", "()V"⟩, prog_5_method_6_code, 6, none, 3, 2, 47),
  (⟨"StencilCuts", "judgePicture", "()V"⟩, prog_1_method_22_code, 3, none, 6, 5, 116),
  (⟨"StencilCuts", "paint", "(II)I"⟩, prog_1_method_12_code, 3, (some .int), 6, 6, 138),
  (⟨"StencilCuts", "isOrder", "(I)Z"⟩, prog_1_method_24_code, 5, (some .boolean), 6, 0, 0),
  (⟨"StencilCuts", "wrong", "(I)I"⟩, prog_1_method_13_code, 2, (some .int), 6, 6, 138),
  (⟨"StencilCuts", "best", "(I)I"⟩, prog_1_method_14_code, 2, (some .int), 6, 6, 138),
  (⟨"StencilCuts$Sheet", "copyFrom", "(LStencilCuts$Sheet;)V"⟩, prog_7_method_3_code, 2, none, 5, 1, 40),
  (⟨"StencilCuts", "image", "(I)I"⟩, prog_1_method_15_code, 2, (some .int), 6, 2, 61),
  (⟨"StencilCuts", "restore", "(I)I"⟩, prog_1_method_16_code, 2, (some .int), 6, 3, 62),
  (⟨"StencilCuts", "openCellsOfAll", "()I"⟩, prog_1_method_18_code, 3, (some .int), 6, 2, 43),
  (⟨"StencilCuts$Sheet", "wishedCells", "()I"⟩, prog_7_method_11_code, 6, (some .int), 5, 0, 0),
  (⟨"StencilCuts", "looseLayers", "()I"⟩, prog_1_method_19_code, 3, (some .int), 6, 5, 116),
  (⟨"StencilCuts", "count", "(I)I"⟩, prog_1_method_17_code, 2, (some .int), 6, 6, 138),
  (⟨"StencilCutsModel", "in", "(III)Z"⟩, prog_9_method_2_code, 3, (some .boolean), 7, 0, 0),
  (⟨"StencilCutsModel", "isLayer", "(I)Z"⟩, prog_9_method_3_code, 1, (some .boolean), 7, 1, 22),
  (⟨"StencilCutsModel", "isCell", "(II)Z"⟩, prog_9_method_4_code, 3, (some .boolean), 7, 1, 22),
  (⟨"StencilCutsModel", "at", "(II)I"⟩, prog_9_method_5_code, 2, (some .int), 7, 0, 0),
  (⟨"StencilCutsModel", "isCut", "(III)Z"⟩, prog_9_method_6_code, 4, (some .boolean), 7, 2, 44),
  (⟨"StencilCutsModel", "isRim", "(II)Z"⟩, prog_9_method_7_code, 3, (some .boolean), 7, 0, 0),
  (⟨"StencilCutsModel", "cuts", "(I)I"⟩, prog_9_method_8_code, 4, (some .int), 7, 0, 0),
  (⟨"StencilCutsModel", "sheet", "(II)I"⟩, prog_9_method_9_code, 4, (some .int), 7, 1, 22),
  (⟨"StencilCutsModel", "cut", "(IIII)I"⟩, prog_9_method_10_code, 5, (some .int), 7, 2, 44),
  (⟨"StencilCutsModel", "row", "(III)I"⟩, prog_9_method_11_code, 5, (some .int), 7, 2, 42),
  (⟨"StencilCutsModel", "wish", "(III)I"⟩, prog_9_method_12_code, 5, (some .int), 7, 2, 44),
  (⟨"StencilCutsModel", "lesserMark", "(IIIII)I"⟩, prog_9_method_13_code, 7, (some .int), 7, 3, 67),
  (⟨"StencilCutsModel", "spreadOnce", "(I)Z"⟩, prog_9_method_14_code, 6, (some .boolean), 7, 4, 93),
  (⟨"StencilCutsModel", "number", "(III)V"⟩, prog_9_method_16_code, 5, none, 7, 3, 67),
  (⟨"StencilCutsModel", "layPieces", "(I)V"⟩, prog_9_method_15_code, 5, none, 7, 5, 118),
  (⟨"StencilCutsModel", "pieceAt", "(II)I"⟩, prog_9_method_17_code, 3, (some .int), 7, 2, 44),
  (⟨"StencilCutsModel", "lengthFrom", "(IIII)I"⟩, prog_9_method_18_code, 7, (some .int), 7, 3, 67),
  (⟨"StencilCutsModel", "addRun", "(IIII)V"⟩, prog_9_method_19_code, 7, none, 7, 3, 66),
  (⟨"StencilCutsModel", "layRuns", "(I)V"⟩, prog_9_method_20_code, 6, none, 7, 6, 142),
  (⟨"StencilCutsModel", "untie", "()V"⟩, prog_9_method_21_code, 2, none, 7, 0, 0),
  (⟨"StencilCutsModel", "tieBoth", "(II)V"⟩, prog_9_method_22_code, 6, none, 7, 0, 0),
  (⟨"StencilCutsModel", "isTaken", "(II)Z"⟩, prog_9_method_23_code, 3, (some .boolean), 7, 2, 44),
  (⟨"StencilCutsModel", "touches", "(I)Z"⟩, prog_9_method_24_code, 6, (some .boolean), 7, 3, 66),
  (⟨"StencilCutsModel", "take", "(I)V"⟩, prog_9_method_25_code, 3, none, 7, 1, 21),
  (⟨"StencilCutsModel", "layBridges", "(I)V"⟩, prog_9_method_26_code, 3, none, 7, 7, 167),
  (⟨"StencilCutsModel", "least", "()I"⟩, prog_9_method_27_code, 3, (some .int), 7, 1, 25),
  (⟨"StencilCutsModel", "bridgeCells", "()I"⟩, prog_9_method_28_code, 3, (some .int), 7, 0, 0),
  (⟨"StencilCutsModel", "loose", "()I"⟩, prog_9_method_29_code, 3, (some .int), 7, 0, 0),
  (⟨"StencilCutsModel", "cell", "(IIII)I"⟩, prog_9_method_30_code, 6, (some .int), 7, 8, 189),
  (⟨"StencilCutsModel", "layer", "(II)I"⟩, prog_9_method_31_code, 3, (some .int), 7, 8, 189),
  (⟨"StencilCutsModel", "lesserDepth", "(IIIII)I"⟩, prog_9_method_32_code, 8, (some .int), 7, 3, 67),
  (⟨"StencilCutsModel", "deepenOnce", "(I)Z"⟩, prog_9_method_33_code, 6, (some .boolean), 7, 4, 94),
  (⟨"StencilCutsModel", "layDepths", "(I)V"⟩, prog_9_method_34_code, 4, none, 7, 5, 119),
  (⟨"StencilCutsModel", "firstOf", "(I)I"⟩, prog_9_method_35_code, 5, (some .int), 7, 1, 21),
  (⟨"StencilCutsModel", "sizeOf", "(I)I"⟩, prog_9_method_36_code, 5, (some .int), 7, 1, 21),
  (⟨"StencilCutsModel", "endsAt", "(I)I"⟩, prog_9_method_37_code, 4, (some .int), 7, 0, 0),
  (⟨"StencilCutsModel", "depthOf", "(II)I"⟩, prog_9_method_38_code, 3, (some .int), 7, 6, 142),
  (⟨"StencilCutsModel", "island", "(III)I"⟩, prog_9_method_39_code, 5, (some .int), 7, 8, 189),
  (⟨"StencilCutsModel", "asIsland", "(I)I"⟩, prog_9_method_40_code, 1, (some .int), 7, 0, 0),
  (⟨"StencilCutsModel", "bridge", "(III)I"⟩, prog_9_method_41_code, 5, (some .int), 7, 8, 189),
  (⟨"StencilCutsModel", "layBridged", "(I)V"⟩, prog_9_method_42_code, 3, none, 7, 8, 189),
  (⟨"StencilCutsModel", "isStillCut", "(III)Z"⟩, prog_9_method_43_code, 4, (some .boolean), 7, 2, 44),
  (⟨"StencilCutsModel", "corner", "(II)I"⟩, prog_9_method_44_code, 2, (some .int), 7, 0, 0),
  (⟨"StencilCutsModel", "isEdge", "(IIII)Z"⟩, prog_9_method_45_code, 5, (some .boolean), 7, 3, 67),
  (⟨"StencilCutsModel", "hasEdge", "(III)Z"⟩, prog_9_method_46_code, 4, (some .boolean), 7, 4, 91),
  (⟨"StencilCutsModel", "joinBoth", "(II)Z"⟩, prog_9_method_47_code, 5, (some .boolean), 7, 0, 0),
  (⟨"StencilCutsModel", "joinOnce", "(I)Z"⟩, prog_9_method_48_code, 5, (some .boolean), 7, 4, 91),
  (⟨"StencilCutsModel", "layLoops", "(I)V"⟩, prog_9_method_49_code, 4, none, 7, 9, 211),
  (⟨"StencilCutsModel", "edges", "(II)I"⟩, prog_9_method_50_code, 7, (some .int), 7, 4, 91),
  (⟨"StencilCutsModel", "size", "(I)I"⟩, prog_9_method_51_code, 1, (some .int), 7, 0, 0),
  (⟨"StencilCutsModel", "apart", "(II)I"⟩, prog_9_method_52_code, 2, (some .int), 7, 1, 20),
  (⟨"StencilCutsModel", "goOn", "(II)V"⟩, prog_9_method_53_code, 7, none, 7, 2, 41),
  (⟨"StencilCutsModel", "layKnife", "(I)V"⟩, prog_9_method_54_code, 3, none, 7, 10, 234),
  (⟨"StencilCutsModel", "knife", "(II)I"⟩, prog_9_method_55_code, 3, (some .int), 7, 11, 256),
  (⟨"StencilCutsModel", "loop", "(III)I"⟩, prog_9_method_56_code, 4, (some .int), 7, 11, 256),
  (⟨"StencilCutsModel", "figure", "(II)I"⟩, prog_9_method_57_code, 2, (some .int), 7, 0, 0),
  (⟨"StencilCutsModel", "isOrder", "(I)Z"⟩, prog_9_method_58_code, 3, (some .boolean), 7, 1, 22),
  (⟨"StencilCutsModel", "layAll", "()V"⟩, prog_9_method_59_code, 2, none, 7, 9, 211),
  (⟨"StencilCutsModel", "colourBy", "(III)I"⟩, prog_9_method_60_code, 7, (some .int), 7, 3, 67),
  (⟨"StencilCutsModel", "wrongBy", "(I)I"⟩, prog_9_method_61_code, 5, (some .int), 7, 4, 93),
  (⟨"StencilCutsModel", "bestOrder", "()I"⟩, prog_9_method_62_code, 4, (some .int), 7, 5, 117),
  (⟨"StencilCutsModel", "paint", "(II)I"⟩, prog_9_method_63_code, 3, (some .int), 7, 10, 232),
  (⟨"StencilCutsModel", "wrong", "(I)I"⟩, prog_9_method_64_code, 2, (some .int), 7, 10, 232),
  (⟨"StencilCutsModel", "best", "(I)I"⟩, prog_9_method_65_code, 3, (some .int), 7, 10, 232),
  (⟨"StencilCutsModel", "wishes", "()I"⟩, prog_9_method_66_code, 3, (some .int), 7, 0, 0),
  (⟨"StencilCutsModel", "looseLayers", "()I"⟩, prog_9_method_67_code, 3, (some .int), 7, 8, 189),
  (⟨"StencilCutsModel", "allCuts", "()I"⟩, prog_9_method_68_code, 3, (some .int), 7, 1, 23),
  (⟨"StencilCutsModel", "count", "(I)I"⟩, prog_9_method_69_code, 2, (some .int), 7, 9, 211),
  (⟨"StencilCutsModel", "image", "(I)I"⟩, prog_9_method_70_code, 3, (some .int), 7, 1, 22),
  (⟨"StencilCutsModel", "restore", "(I)I"⟩, prog_9_method_71_code, 3, (some .int), 7, 1, 22),
  (⟨"StencilCutsLaw", "law", "([I)Z"⟩, code, 4, (some .boolean), 8, 12, 279)]
def fcp : List (List (Nat × Nat × Nat)) := [[(9, 0, 0), (15, 0, 1), (19, 0, 2), (22, 0, 3), (25, 0, 4), (29, 0, 5), (42, 2, 1), (62, 0, 6), (69, 0, 9), (88, 0, 7), (91, 0, 8), (94, 2, 7)], [(9, 1, 0), (15, 1, 1), (19, 1, 2), (22, 1, 3), (25, 1, 4), (29, 1, 5), (38, 1, 6), (42, 1, 7), (69, 0, 4), (74, 1, 8)], [(9, 2, 0), (15, 2, 1), (19, 2, 2), (22, 2, 3), (25, 2, 4), (28, 2, 5), (31, 2, 6), (44, 2, 7), (48, 2, 8), (51, 2, 9)], [(9, 3, 0), (25, 3, 1), (33, 3, 3), (36, 3, 4), (46, 3, 2)], [(12, 4, 0), (23, 4, 1), (32, 4, 2), (36, 4, 3), (40, 4, 4), (50, 0, 6)], [(9, 5, 0), (15, 5, 1), (18, 5, 2), (22, 5, 3)], [(12, 6, 0), (16, 6, 1), (22, 6, 2), (32, 6, 3), (36, 6, 4), (71, 5, 1), (85, 3, 5), (99, 4, 0), (111, 4, 1), (115, 0, 3), (121, 2, 8), (124, 2, 9), (127, 0, 7), (130, 0, 8), (137, 0, 9), (140, 0, 6), (146, 2, 7), (149, 2, 5), (152, 2, 6), (155, 2, 4), (170, 0, 2), (192, 1, 6), (197, 1, 7), (200, 1, 8), (203, 1, 5), (209, 1, 3), (215, 3, 2), (230, 3, 3), (233, 3, 4), (240, 5, 0), (264, 0, 4)], [(7, 7, 0), (13, 7, 1), (16, 7, 2), (20, 7, 3), (23, 7, 4), (26, 7, 5), (29, 7, 8), (32, 7, 9), (35, 7, 10), (38, 7, 11), (41, 7, 12), (44, 7, 13), (47, 7, 15), (50, 7, 16), (53, 7, 17), (56, 7, 19), (59, 7, 20), (62, 7, 21), (65, 7, 23), (68, 7, 24), (71, 7, 25), (74, 7, 26), (110, 7, 6), (114, 7, 7), (124, 7, 14), (142, 7, 18), (220, 7, 22), (229, 7, 27), (251, 7, 28), (254, 7, 29)], [], [], [], []]
def scp : List (List (Nat × Nat × Nat)) := [[(103, 28, 1)], [(53, 28, 1), (60, 30, 0), (63, 31, 0)], [(79, 28, 1)], [(39, 29, 1)], [], [], [(268, 29, 0)], [], [], [], [], []]
def mcp : List (List (Nat × Nat × Nat)) := [[(32, 31, 1), (36, 30, 1), (39, 33, 1), (45, 29, 0), (49, 32, 1), (52, 26, 0), (55, 34, 1), (58, 35, 0), (66, 37, 0), (72, 38, 0), (76, 39, 0), (79, 41, 0), (82, 43, 0), (85, 44, 0), (97, 42, 0), (100, 22, 3), (106, 52, 0), (109, 53, 0)], [(32, 1, 1), (45, 62, 0), (49, 63, 0), (56, 61, 0), (66, 22, 3), (77, 47, 3), (80, 67, 0), (84, 65, 0), (87, 66, 1), (90, 0, 3), (94, 19, 3), (102, 20, 3)], [(34, 21, 0), (38, 1, 1), (54, 24, 0), (58, 19, 3), (62, 20, 3), (65, 8, 0), (71, 18, 0), (75, 23, 0), (82, 22, 3), (86, 27, 0), (89, 26, 0), (92, 0, 3), (95, 48, 0), (97, 52, 0)], [(19, 1, 1), (29, 75, 1), (42, 76, 0)], [(43, 25, 0), (47, 28, 0), (54, 36, 0), (58, 40, 0), (61, 45, 0), (64, 46, 0), (68, 64, 0), (71, 68, 0)], [(25, 1, 1), (37, 0, 3), (41, 10, 1)], [(40, 0, 1), (44, 2, 0), (48, 5, 0), (51, 7, 1), (55, 8, 0), (59, 9, 0), (63, 4, 0), (67, 11, 0), (74, 13, 0), (78, 15, 0), (82, 16, 0), (89, 18, 0), (92, 46, 0), (96, 47, 1), (103, 49, 0), (108, 50, 0), (133, 54, 0), (143, 56, 0), (158, 19, 1), (161, 20, 1), (164, 53, 0), (167, 57, 0), (173, 30, 1), (176, 33, 1), (179, 59, 1), (182, 32, 1), (185, 34, 1), (188, 69, 0), (206, 65, 0), (212, 78, 0), (218, 73, 0), (221, 75, 1), (224, 80, 1), (227, 76, 0), (236, 83, 0), (243, 86, 0), (246, 87, 0), (249, 88, 0), (252, 3, 0), (255, 72, 0), (258, 74, 0), (261, 77, 0)], [(77, 90, 1), (81, 92, 0), (85, 93, 1), (89, 91, 1), (93, 96, 0), (97, 94, 0), (100, 101, 0), (104, 95, 0), (107, 102, 0), (117, 103, 0), (121, 105, 0), (127, 104, 0), (131, 106, 0), (135, 107, 0), (139, 111, 0), (145, 108, 0), (148, 109, 0), (151, 112, 0), (154, 110, 0), (158, 113, 0), (161, 114, 0), (164, 116, 0), (168, 117, 0), (171, 115, 0), (174, 120, 0), (177, 121, 0), (180, 122, 0), (183, 123, 0), (186, 124, 0), (189, 126, 0), (192, 125, 0), (195, 128, 1), (198, 131, 0), (201, 133, 0), (205, 132, 1), (208, 135, 0), (211, 130, 0), (214, 134, 0), (217, 136, 0), (223, 139, 1), (226, 140, 1), (232, 137, 0), (235, 141, 0), (238, 142, 0), (241, 138, 0), (244, 145, 1), (247, 148, 0), (257, 146, 1), (260, 149, 0), (263, 147, 0), (266, 150, 0), (269, 156, 0), (272, 154, 0), (275, 155, 0)], [(13, 6, 0), (17, 97, 0), (18, 12, 0), (22, 98, 0), (23, 14, 0), (27, 99, 0), (28, 17, 0), (31, 100, 0), (32, 51, 0), (35, 118, 0), (36, 55, 0), (39, 119, 0), (40, 58, 0), (43, 127, 0), (44, 60, 0), (47, 129, 0), (48, 70, 0), (51, 143, 0), (52, 71, 0), (55, 144, 0), (56, 79, 0), (59, 151, 0), (60, 81, 0), (64, 152, 0), (65, 82, 0), (68, 153, 0), (69, 84, 0), (72, 158, 0), (73, 85, 0), (76, 159, 0), (77, 89, 0), (80, 157, 0)], [], [], []]
