/-! the names, as printed -/
def RX0 : String := "QuarryOrders$Bits"
def TX0 : u_T := fun k => match k with
  | _ => ("", "", "", false)
def tyX0 : Nat → FieldType := fun k => match k with
  | _ => .int
abbrev wsX00 : List Cond := u_ws RX0 TX0 0
theorem nmX0 : ∀ a, a < 0 → ∀ b, b < 0 → a ≠ b → (TX0 a).2.1 ≠ (TX0 b).2.1 := by decide +kernel
theorem tyX0_ok : ∀ k, k < 0 → parseFieldDescriptor (TX0 k).2.2.1 = some (tyX0 k) := by decide +kernel
abbrev cX0_ofFloat : ByteArray := prog_2_method_2_code
def yX0_ofFloat : MethodName := ⟨RX0, "ofFloat", "(F)I"⟩
abbrev cX0_ofDouble : ByteArray := prog_2_method_3_code
def yX0_ofDouble : MethodName := ⟨RX0, "ofDouble", "(D)J"⟩
def RX1 : String := "QuarryOrders$Facts"
def TX1 : u_T := fun k => match k with
  | _ => ("QuarryOrders$Facts", "state", "LQuarryOrders$State;", true)
def tyX1 : Nat → FieldType := fun k => match k with
  | _ => .object "QuarryOrders$State"
abbrev wsX10 : List Cond := u_ws RX1 TX1 1
theorem nmX1 : ∀ a, a < 1 → ∀ b, b < 1 → a ≠ b → (TX1 a).2.1 ≠ (TX1 b).2.1 := by decide +kernel
theorem tyX1_ok : ∀ k, k < 1 → parseFieldDescriptor (TX1 k).2.2.1 = some (tyX1 k) := by decide +kernel
abbrev cX1_init : ByteArray := prog_3_method_1_code
def yX1_init : MethodName := ⟨RX1, "<init>", "(LQuarryOrders$State;)V"⟩
abbrev cX1_weightOf : ByteArray := prog_3_method_2_code
def yX1_weightOf : MethodName := ⟨RX1, "weightOf", "(I)I"⟩
abbrev cX1_uncutBlocks : ByteArray := prog_3_method_3_code
def yX1_uncutBlocks : MethodName := ⟨RX1, "uncutBlocks", "()I"⟩
abbrev cX1_uncutWeight : ByteArray := prog_3_method_4_code
def yX1_uncutWeight : MethodName := ⟨RX1, "uncutWeight", "()I"⟩
abbrev cX1_quarriedWeight : ByteArray := prog_3_method_5_code
def yX1_quarriedWeight : MethodName := ⟨RX1, "quarriedWeight", "()I"⟩
abbrev cX1_lostWeight : ByteArray := prog_3_method_6_code
def yX1_lostWeight : MethodName := ⟨RX1, "lostWeight", "()I"⟩
abbrev cX1_allInvoices : ByteArray := prog_3_method_7_code
def yX1_allInvoices : MethodName := ⟨RX1, "allInvoices", "()I"⟩
abbrev cX1_roofHasRoom : ByteArray := prog_3_method_8_code
def yX1_roofHasRoom : MethodName := ⟨RX1, "roofHasRoom", "()Z"⟩
abbrev cX1_isAtHand : ByteArray := prog_3_method_9_code
def yX1_isAtHand : MethodName := ⟨RX1, "isAtHand", "(I)Z"⟩
abbrev cX1_mayBeSawn : ByteArray := prog_3_method_10_code
def yX1_mayBeSawn : MethodName := ⟨RX1, "mayBeSawn", "(I)Z"⟩
abbrev cX1_blocksForFrost : ByteArray := prog_3_method_11_code
def yX1_blocksForFrost : MethodName := ⟨RX1, "blocksForFrost", "()I"⟩
abbrev cX1_isWithinOver : ByteArray := prog_3_method_12_code
def yX1_isWithinOver : MethodName := ⟨RX1, "isWithinOver", "(I)Z"⟩
abbrev cX1_surplus : ByteArray := prog_3_method_13_code
def yX1_surplus : MethodName := ⟨RX1, "surplus", "(IIII)I"⟩
abbrev cX1_surplusToGive : ByteArray := prog_3_method_14_code
def yX1_surplusToGive : MethodName := ⟨RX1, "surplusToGive", "(II)I"⟩
abbrev cX1_blocksToGive : ByteArray := prog_3_method_15_code
def yX1_blocksToGive : MethodName := ⟨RX1, "blocksToGive", "(I)I"⟩
abbrev cX1_nearestBlock : ByteArray := prog_3_method_16_code
def yX1_nearestBlock : MethodName := ⟨RX1, "nearestBlock", "(I)I"⟩
abbrev cX1_fittingLength : ByteArray := prog_3_method_17_code
def yX1_fittingLength : MethodName := ⟨RX1, "fittingLength", "(III)I"⟩
abbrev cX1_blocksOn : ByteArray := prog_3_method_18_code
def yX1_blocksOn : MethodName := ⟨RX1, "blocksOn", "(I)I"⟩
abbrev cX1_isFree : ByteArray := prog_3_method_19_code
def yX1_isFree : MethodName := ⟨RX1, "isFree", "(II)Z"⟩
abbrev cX1_loadOf : ByteArray := prog_3_method_20_code
def yX1_loadOf : MethodName := ⟨RX1, "loadOf", "(I)I"⟩
abbrev cX1_weightAt : ByteArray := prog_3_method_21_code
def yX1_weightAt : MethodName := ⟨RX1, "weightAt", "(IIII)F"⟩
abbrev cX1_front : ByteArray := prog_3_method_22_code
def yX1_front : MethodName := ⟨RX1, "front", "(III)F"⟩
abbrev cX1_rear : ByteArray := prog_3_method_23_code
def yX1_rear : MethodName := ⟨RX1, "rear", "(III)F"⟩
abbrev cX1_reasonToStay : ByteArray := prog_3_method_24_code
def yX1_reasonToStay : MethodName := ⟨RX1, "reasonToStay", "(I)I"⟩
abbrev cX1_greaterShare : ByteArray := prog_3_method_25_code
def yX1_greaterShare : MethodName := ⟨RX1, "greaterShare", "(III)F"⟩
abbrev cX1_shareOf : ByteArray := prog_3_method_26_code
def yX1_shareOf : MethodName := ⟨RX1, "shareOf", "(FI)F"⟩
abbrev cX1_easiestPlace : ByteArray := prog_3_method_27_code
def yX1_easiestPlace : MethodName := ⟨RX1, "easiestPlace", "(II)I"⟩
def RX2 : String := "QuarryOrders$History"
def TX2 : u_T := fun k => match k with
  | 0 => ("QuarryOrders$History", "rows", "[[I", true)
  | 1 => ("QuarryOrders$History", "next", "I", false)
  | _ => ("QuarryOrders$History", "size", "I", false)
def tyX2 : Nat → FieldType := fun k => match k with
  | 0 => .array (.array .int)
  | 1 => .int
  | _ => .int
abbrev wsX20 : List Cond := u_ws RX2 TX2 3
theorem nmX2 : ∀ a, a < 3 → ∀ b, b < 3 → a ≠ b → (TX2 a).2.1 ≠ (TX2 b).2.1 := by decide +kernel
theorem tyX2_ok : ∀ k, k < 3 → parseFieldDescriptor (TX2 k).2.2.1 = some (tyX2 k) := by decide +kernel
abbrev cX2_init : ByteArray := prog_4_method_1_code
def yX2_init : MethodName := ⟨RX2, "<init>", "()V"⟩
abbrev cX2_size : ByteArray := prog_4_method_2_code
def yX2_size : MethodName := ⟨RX2, "size", "()I"⟩
abbrev cX2_nextRow : ByteArray := prog_4_method_3_code
def yX2_nextRow : MethodName := ⟨RX2, "nextRow", "()[I"⟩
abbrev cX2_note : ByteArray := prog_4_method_4_code
def yX2_note : MethodName := ⟨RX2, "note", "(LQuarryOrders$State;)V"⟩
abbrev cX2_settle : ByteArray := prog_4_method_5_code
def yX2_settle : MethodName := ⟨RX2, "settle", "(I)I"⟩
abbrev cX2_goBack : ByteArray := prog_4_method_6_code
def yX2_goBack : MethodName := ⟨RX2, "goBack", "(LQuarryOrders$State;)I"⟩
def RX3 : String := "QuarryOrders$Pad"
def TX3 : u_T := fun k => match k with
  | 0 => ("QuarryOrders$Pad", "signs", "[C", true)
  | 1 => ("QuarryOrders$Pad", "length", "I", false)
  | 2 => ("QuarryOrders$Pad", "at", "I", false)
  | 3 => ("QuarryOrders$Pad", "kind", "I", false)
  | 4 => ("QuarryOrders$Pad", "numbers", "[I", true)
  | 5 => ("QuarryOrders$Pad", "found", "I", false)
  | _ => ("QuarryOrders$Pad", "negative", "Z", false)
def tyX3 : Nat → FieldType := fun k => match k with
  | 0 => .array .char
  | 1 => .int
  | 2 => .int
  | 3 => .int
  | 4 => .array .int
  | 5 => .int
  | _ => .boolean
abbrev wsX30 : List Cond := u_ws RX3 TX3 7
theorem nmX3 : ∀ a, a < 7 → ∀ b, b < 7 → a ≠ b → (TX3 a).2.1 ≠ (TX3 b).2.1 := by decide +kernel
theorem tyX3_ok : ∀ k, k < 7 → parseFieldDescriptor (TX3 k).2.2.1 = some (tyX3 k) := by decide +kernel
abbrev cX3_init : ByteArray := prog_5_method_1_code
def yX3_init : MethodName := ⟨RX3, "<init>", "()V"⟩
abbrev cX3_length : ByteArray := prog_5_method_2_code
def yX3_length : MethodName := ⟨RX3, "length", "()I"⟩
def RX4 : String := "QuarryOrders$Slots"
def TX4 : u_T := fun k => match k with
  | 0 => ("QuarryOrders$Slots", "rows", "[[I", true)
  | _ => ("QuarryOrders$Slots", "filled", "[Z", true)
def tyX4 : Nat → FieldType := fun k => match k with
  | 0 => .array (.array .int)
  | _ => .array .boolean
abbrev wsX40 : List Cond := u_ws RX4 TX4 2
theorem nmX4 : ∀ a, a < 2 → ∀ b, b < 2 → a ≠ b → (TX4 a).2.1 ≠ (TX4 b).2.1 := by decide +kernel
theorem tyX4_ok : ∀ k, k < 2 → parseFieldDescriptor (TX4 k).2.2.1 = some (tyX4 k) := by decide +kernel
abbrev cX4_init : ByteArray := prog_6_method_1_code
def yX4_init : MethodName := ⟨RX4, "<init>", "()V"⟩
def RX5 : String := "QuarryOrders$State"
def TX5 : u_T := fun k => match k with
  | _ => ("QuarryOrders$State", "cells", "[I", true)
def tyX5 : Nat → FieldType := fun k => match k with
  | _ => .array .int
abbrev wsX50 : List Cond := u_ws RX5 TX5 1
theorem nmX5 : ∀ a, a < 1 → ∀ b, b < 1 → a ≠ b → (TX5 a).2.1 ≠ (TX5 b).2.1 := by decide +kernel
theorem tyX5_ok : ∀ k, k < 1 → parseFieldDescriptor (TX5 k).2.2.1 = some (tyX5 k) := by decide +kernel
abbrev cX5_init : ByteArray := prog_7_method_1_code
def yX5_init : MethodName := ⟨RX5, "<init>", "()V"⟩
abbrev cX5_cell : ByteArray := prog_7_method_2_code
def yX5_cell : MethodName := ⟨RX5, "cell", "(I)I"⟩
abbrev cX5_setCell : ByteArray := prog_7_method_3_code
def yX5_setCell : MethodName := ⟨RX5, "setCell", "(II)V"⟩
abbrev cX5_blockCell : ByteArray := prog_7_method_4_code
def yX5_blockCell : MethodName := ⟨RX5, "blockCell", "(II)I"⟩
abbrev cX5_setBlockCell : ByteArray := prog_7_method_5_code
def yX5_setBlockCell : MethodName := ⟨RX5, "setBlockCell", "(III)V"⟩
abbrev cX5_orderCell : ByteArray := prog_7_method_6_code
def yX5_orderCell : MethodName := ⟨RX5, "orderCell", "(II)I"⟩
abbrev cX5_setOrderCell : ByteArray := prog_7_method_7_code
def yX5_setOrderCell : MethodName := ⟨RX5, "setOrderCell", "(III)V"⟩
abbrev cX5_lorryCell : ByteArray := prog_7_method_8_code
def yX5_lorryCell : MethodName := ⟨RX5, "lorryCell", "(II)I"⟩
abbrev cX5_setLorryCell : ByteArray := prog_7_method_9_code
def yX5_setLorryCell : MethodName := ⟨RX5, "setLorryCell", "(III)V"⟩
abbrev cX5_hasBlock : ByteArray := prog_7_method_10_code
def yX5_hasBlock : MethodName := ⟨RX5, "hasBlock", "(I)Z"⟩
abbrev cX5_hasOrder : ByteArray := prog_7_method_11_code
def yX5_hasOrder : MethodName := ⟨RX5, "hasOrder", "(I)Z"⟩
abbrev cX5_blocksWith : ByteArray := prog_7_method_12_code
def yX5_blocksWith : MethodName := ⟨RX5, "blocksWith", "(II)I"⟩
abbrev cX5_copyTo : ByteArray := prog_7_method_13_code
def yX5_copyTo : MethodName := ⟨RX5, "copyTo", "([I)V"⟩
abbrev cX5_copyFrom : ByteArray := prog_7_method_14_code
def yX5_copyFrom : MethodName := ⟨RX5, "copyFrom", "([I)V"⟩
def RX6 : String := "QuarryOrders$Works"
def TX6 : u_T := fun k => match k with
  | 0 => ("QuarryOrders$Works", "state", "LQuarryOrders$State;", true)
  | _ => ("QuarryOrders$Works", "facts", "LQuarryOrders$Facts;", true)
def tyX6 : Nat → FieldType := fun k => match k with
  | 0 => .object "QuarryOrders$State"
  | _ => .object "QuarryOrders$Facts"
abbrev wsX60 : List Cond := u_ws RX6 TX6 2
theorem nmX6 : ∀ a, a < 2 → ∀ b, b < 2 → a ≠ b → (TX6 a).2.1 ≠ (TX6 b).2.1 := by decide +kernel
theorem tyX6_ok : ∀ k, k < 2 → parseFieldDescriptor (TX6 k).2.2.1 = some (tyX6 k) := by decide +kernel
abbrev cX6_init : ByteArray := prog_8_method_1_code
def yX6_init : MethodName := ⟨RX6, "<init>", "(LQuarryOrders$State;LQuarryOrders$Facts;)V"⟩
abbrev cX6_changeSetting : ByteArray := prog_8_method_2_code
def yX6_changeSetting : MethodName := ⟨RX6, "changeSetting", "(II)I"⟩
abbrev cX6_quarryBlock : ByteArray := prog_8_method_3_code
def yX6_quarryBlock : MethodName := ⟨RX6, "quarryBlock", "(IIII)I"⟩
abbrev cX6_addBlock : ByteArray := prog_8_method_4_code
def yX6_addBlock : MethodName := ⟨RX6, "addBlock", "(IIII)I"⟩
abbrev cX6_cutBlock : ByteArray := prog_8_method_5_code
def yX6_cutBlock : MethodName := ⟨RX6, "cutBlock", "(III)I"⟩
abbrev cX6_addPiece : ByteArray := prog_8_method_6_code
def yX6_addPiece : MethodName := ⟨RX6, "addPiece", "(IIIZ)I"⟩
abbrev cX6_moveBlock : ByteArray := prog_8_method_7_code
def yX6_moveBlock : MethodName := ⟨RX6, "moveBlock", "(I)I"⟩
abbrev cX6_takeOrder : ByteArray := prog_8_method_8_code
def yX6_takeOrder : MethodName := ⟨RX6, "takeOrder", "(III)I"⟩
abbrev cX6_giveBlock : ByteArray := prog_8_method_9_code
def yX6_giveBlock : MethodName := ⟨RX6, "giveBlock", "(II)I"⟩
abbrev cX6_takeBlockAway : ByteArray := prog_8_method_10_code
def yX6_takeBlockAway : MethodName := ⟨RX6, "takeBlockAway", "(I)I"⟩
abbrev cX6_isLimit : ByteArray := prog_8_method_11_code
def yX6_isLimit : MethodName := ⟨RX6, "isLimit", "(I)Z"⟩
abbrev cX6_changeLimits : ByteArray := prog_8_method_12_code
def yX6_changeLimits : MethodName := ⟨RX6, "changeLimits", "(IIII)I"⟩
abbrev cX6_loadBlock : ByteArray := prog_8_method_13_code
def yX6_loadBlock : MethodName := ⟨RX6, "loadBlock", "(III)I"⟩
abbrev cX6_unloadBlock : ByteArray := prog_8_method_14_code
def yX6_unloadBlock : MethodName := ⟨RX6, "unloadBlock", "(I)I"⟩
abbrev cX6_sendLorry : ByteArray := prog_8_method_15_code
def yX6_sendLorry : MethodName := ⟨RX6, "sendLorry", "(I)I"⟩
abbrev cX6_deliver : ByteArray := prog_8_method_16_code
def yX6_deliver : MethodName := ⟨RX6, "deliver", "(I)I"⟩
abbrev cX6_passNight : ByteArray := prog_8_method_17_code
def yX6_passNight : MethodName := ⟨RX6, "passNight", "(I)I"⟩
abbrev cX6_crackBlocks : ByteArray := prog_8_method_18_code
def yX6_crackBlocks : MethodName := ⟨RX6, "crackBlocks", "()I"⟩
abbrev cX6_dryBlocks : ByteArray := prog_8_method_19_code
def yX6_dryBlocks : MethodName := ⟨RX6, "dryBlocks", "()V"⟩
def RX7 : String := "QuarryOrders"
def TX7 : u_T := fun k => match k with
  | 0 => ("QuarryOrders", "state", "LQuarryOrders$State;", true)
  | 1 => ("QuarryOrders", "facts", "LQuarryOrders$Facts;", true)
  | 2 => ("QuarryOrders", "works", "LQuarryOrders$Works;", true)
  | 3 => ("QuarryOrders", "history", "LQuarryOrders$History;", true)
  | 4 => ("QuarryOrders", "slots", "LQuarryOrders$Slots;", true)
  | _ => ("QuarryOrders", "pad", "LQuarryOrders$Pad;", true)
def tyX7 : Nat → FieldType := fun k => match k with
  | 0 => .object "QuarryOrders$State"
  | 1 => .object "QuarryOrders$Facts"
  | 2 => .object "QuarryOrders$Works"
  | 3 => .object "QuarryOrders$History"
  | 4 => .object "QuarryOrders$Slots"
  | _ => .object "QuarryOrders$Pad"
abbrev wsX70 : List Cond := u_ws RX7 TX7 6
theorem nmX7 : ∀ a, a < 6 → ∀ b, b < 6 → a ≠ b → (TX7 a).2.1 ≠ (TX7 b).2.1 := by decide +kernel
theorem tyX7_ok : ∀ k, k < 6 → parseFieldDescriptor (TX7 k).2.2.1 = some (tyX7 k) := by decide +kernel
abbrev cX7_init : ByteArray := prog_1_method_1_code
def yX7_init : MethodName := ⟨RX7, "<init>", "()V"⟩
abbrev cX7_set : ByteArray := prog_1_method_2_code
def yX7_set : MethodName := ⟨RX7, "set", "(II)I"⟩
abbrev cX7_quarry : ByteArray := prog_1_method_3_code
def yX7_quarry : MethodName := ⟨RX7, "quarry", "(IIII)I"⟩
abbrev cX7_cut : ByteArray := prog_1_method_4_code
def yX7_cut : MethodName := ⟨RX7, "cut", "(III)I"⟩
abbrev cX7_shelter : ByteArray := prog_1_method_5_code
def yX7_shelter : MethodName := ⟨RX7, "shelter", "(I)I"⟩
abbrev cX7_order : ByteArray := prog_1_method_6_code
def yX7_order : MethodName := ⟨RX7, "order", "(III)I"⟩
abbrev cX7_give : ByteArray := prog_1_method_7_code
def yX7_give : MethodName := ⟨RX7, "give", "(II)I"⟩
abbrev cX7_takeBack : ByteArray := prog_1_method_8_code
def yX7_takeBack : MethodName := ⟨RX7, "takeBack", "(I)I"⟩
abbrev cX7_limits : ByteArray := prog_1_method_9_code
def yX7_limits : MethodName := ⟨RX7, "limits", "(IIII)I"⟩
abbrev cX7_load : ByteArray := prog_1_method_10_code
def yX7_load : MethodName := ⟨RX7, "load", "(III)I"⟩
abbrev cX7_unload : ByteArray := prog_1_method_11_code
def yX7_unload : MethodName := ⟨RX7, "unload", "(I)I"⟩
abbrev cX7_leave : ByteArray := prog_1_method_12_code
def yX7_leave : MethodName := ⟨RX7, "leave", "(I)I"⟩
abbrev cX7_night : ByteArray := prog_1_method_13_code
def yX7_night : MethodName := ⟨RX7, "night", "(I)I"⟩
abbrev cX7_of : ByteArray := prog_1_method_14_code
def yX7_of : MethodName := ⟨RX7, "of", "(II)I"⟩
abbrev cX7_ofOrder : ByteArray := prog_1_method_15_code
def yX7_ofOrder : MethodName := ⟨RX7, "ofOrder", "(II)I"⟩
abbrev cX7_ofLorry : ByteArray := prog_1_method_16_code
def yX7_ofLorry : MethodName := ⟨RX7, "ofLorry", "(II)I"⟩
abbrev cX7_count : ByteArray := prog_1_method_17_code
def yX7_count : MethodName := ⟨RX7, "count", "(I)I"⟩
abbrev cX7_meanWeight : ByteArray := prog_1_method_18_code
def yX7_meanWeight : MethodName := ⟨RX7, "meanWeight", "()J"⟩
abbrev cX7_why : ByteArray := prog_1_method_19_code
def yX7_why : MethodName := ⟨RX7, "why", "(I)I"⟩
abbrev cX7_bestBlock : ByteArray := prog_1_method_20_code
def yX7_bestBlock : MethodName := ⟨RX7, "bestBlock", "(I)I"⟩
abbrev cX7_fittingCut : ByteArray := prog_1_method_21_code
def yX7_fittingCut : MethodName := ⟨RX7, "fittingCut", "(III)I"⟩
abbrev cX7_ifFrost : ByteArray := prog_1_method_22_code
def yX7_ifFrost : MethodName := ⟨RX7, "ifFrost", "()I"⟩
abbrev cX7_bestPlace : ByteArray := prog_1_method_23_code
def yX7_bestPlace : MethodName := ⟨RX7, "bestPlace", "(II)I"⟩
abbrev cX7_undo : ByteArray := prog_1_method_29_code
def yX7_undo : MethodName := ⟨RX7, "undo", "()I"⟩
abbrev cX7_isLorry : ByteArray := prog_1_method_32_code
def yX7_isLorry : MethodName := ⟨RX7, "isLorry", "(I)Z"⟩
abbrev cX7_isSize : ByteArray := prog_1_method_34_code
def yX7_isSize : MethodName := ⟨RX7, "isSize", "(I)Z"⟩
abbrev cX7_greatestOf : ByteArray := prog_1_method_35_code
def yX7_greatestOf : MethodName := ⟨RX7, "greatestOf", "(III)I"⟩
abbrev cX7_leastOf : ByteArray := prog_1_method_36_code
def yX7_leastOf : MethodName := ⟨RX7, "leastOf", "(III)I"⟩
abbrev cX7_middleOf : ByteArray := prog_1_method_37_code
def yX7_middleOf : MethodName := ⟨RX7, "middleOf", "(III)I"⟩
abbrev cX7_copyRow : ByteArray := prog_1_method_38_code
def yX7_copyRow : MethodName := ⟨RX7, "copyRow", "([I[I)V"⟩
def RX8 : String := "QuarryOrdersModel"
def TX8 : u_T := fun k => match k with
  | _ => ("", "", "", false)
def tyX8 : Nat → FieldType := fun k => match k with
  | _ => .int
abbrev wsX80 : List Cond := u_ws RX8 TX8 0
theorem nmX8 : ∀ a, a < 0 → ∀ b, b < 0 → a ≠ b → (TX8 a).2.1 ≠ (TX8 b).2.1 := by decide +kernel
theorem tyX8_ok : ∀ k, k < 0 → parseFieldDescriptor (TX8 k).2.2.1 = some (tyX8 k) := by decide +kernel
def RJ6 : String := "java/lang/Integer"
def TJ6 : u_T := fun k => match k with
  | _ => ("", "", "", false)
def tyJ6 : Nat → FieldType := fun k => match k with
  | _ => .int
abbrev wsJ60 : List Cond := u_ws RJ6 TJ6 0
theorem nmJ6 : ∀ a, a < 0 → ∀ b, b < 0 → a ≠ b → (TJ6 a).2.1 ≠ (TJ6 b).2.1 := by decide +kernel
theorem tyJ6_ok : ∀ k, k < 0 → parseFieldDescriptor (TJ6 k).2.2.1 = some (tyJ6 k) := by decide +kernel
abbrev cJ6_bitCount_0f7a4 : ByteArray := prog_11_method_49_code
def yJ6_bitCount_0f7a4 : MethodName := ⟨RJ6, "bitCount", "(I)I"⟩
def RJ9 : String := "java/lang/Math"
def TJ9 : u_T := fun k => match k with
  | _ => ("", "", "", false)
def tyJ9 : Nat → FieldType := fun k => match k with
  | _ => .int
abbrev wsJ90 : List Cond := u_ws RJ9 TJ9 0
theorem nmJ9 : ∀ a, a < 0 → ∀ b, b < 0 → a ≠ b → (TJ9 a).2.1 ≠ (TJ9 b).2.1 := by decide +kernel
theorem tyJ9_ok : ∀ k, k < 0 → parseFieldDescriptor (TJ9 k).2.2.1 = some (tyJ9 k) := by decide +kernel
abbrev cJ9_max_7cf53 : ByteArray := prog_12_method_65_code
def yJ9_max_7cf53 : MethodName := ⟨RJ9, "max", "(II)I"⟩
abbrev cJ9_min_7cf53 : ByteArray := prog_12_method_69_code
def yJ9_min_7cf53 : MethodName := ⟨RJ9, "min", "(II)I"⟩
def RJ10 : String := "java/lang/System"
def TJ10 : u_T := fun k => match k with
  | _ => ("", "", "", false)
def tyJ10 : Nat → FieldType := fun k => match k with
  | _ => .int
abbrev wsJ100 : List Cond := u_ws RJ10 TJ10 0
theorem nmJ10 : ∀ a, a < 0 → ∀ b, b < 0 → a ≠ b → (TJ10 a).2.1 ≠ (TJ10 b).2.1 := by decide +kernel
theorem tyJ10_ok : ∀ k, k < 0 → parseFieldDescriptor (TJ10 k).2.2.1 = some (tyJ10 k) := by decide +kernel
def RL : String := "QuarryOrdersLaw"
abbrev cL_cell : ByteArray := method_2_code
def yL_cell : MethodName := ⟨RL, "cell", "([II)I"⟩
abbrev cL_low : ByteArray := method_3_code
def yL_low : MethodName := ⟨RL, "low", "(II)I"⟩
abbrev cL_change : ByteArray := method_4_code
def yL_change : MethodName := ⟨RL, "change", "(LQuarryOrders;III)I"⟩
abbrev cL_isBlock : ByteArray := method_5_code
def yL_isBlock : MethodName := ⟨RL, "isBlock", "(LQuarryOrders;I)Z"⟩
abbrev cL_isOrder : ByteArray := method_6_code
def yL_isOrder : MethodName := ⟨RL, "isOrder", "(LQuarryOrders;I)Z"⟩
abbrev cL_axle : ByteArray := method_7_code
def yL_axle : MethodName := ⟨RL, "axle", "(LQuarryOrders;IZ)I"⟩
abbrev cL_bitsOf : ByteArray := method_8_code
def yL_bitsOf : MethodName := ⟨RL, "bitsOf", "(I)I"⟩
abbrev cL_isLorry : ByteArray := method_9_code
def yL_isLorry : MethodName := ⟨RL, "isLorry", "(LQuarryOrders;I)Z"⟩
abbrev cL_holds : ByteArray := method_10_code
def yL_holds : MethodName := ⟨RL, "holds", "(LQuarryOrders;)Z"⟩
abbrev cL_bits : ByteArray := method_11_code
def yL_bits : MethodName := ⟨RL, "bits", "(I)I"⟩
abbrev cL_tries : ByteArray := method_12_code
def yL_tries : MethodName := ⟨RL, "tries", "(LQuarryOrders;I)Z"⟩
abbrev cL_share : ByteArray := method_13_code
def yL_share : MethodName := ⟨RL, "share", "(LQuarryOrders;III)J"⟩
abbrev cL_law : ByteArray := code
def yL_law : MethodName := ⟨RL, "law", "([I)Z"⟩
abbrev vwCl : List vw_C := [(RX1, TX1, 1), (RX2, TX2, 3), (RX3, TX3, 7), (RX4, TX4, 2), (RX5, TX5, 1), (RX6, TX6, 2), (RX7, TX7, 6)]
