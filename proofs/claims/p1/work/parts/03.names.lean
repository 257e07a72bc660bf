/-! ===== BEGIN printed: names, fields, word lists, decode rows ===== -/
def RX0 : String := "Tenonyard$Cutting"
def TX0 : u_T := fun k => match k with
  | 0 => ("Tenonyard$Cutting", "count", "I", false)
  | 1 => ("Tenonyard$Cutting", "isFound", "Z", false)
  | 2 => ("Tenonyard$Cutting", "canCut", "Z", false)
  | 3 => ("Tenonyard$Cutting", "usedLength", "I", false)
  | 4 => ("Tenonyard$Cutting", "chosen", "[I", true)
  | 5 => ("Tenonyard$Cutting", "lengths", "[I", true)
  | 6 => ("Tenonyard$Cutting", "breadths", "[I", true)
  | 7 => ("Tenonyard$Cutting", "grades", "[I", true)
  | 8 => ("Tenonyard$Cutting", "spans", "[I", true)
  | 9 => ("Tenonyard$Cutting", "weights", "[I", true)
  | _ => ("Tenonyard$Cutting", "costs", "[J", true)
def tyX0 : Nat → FieldType := fun k => match k with
  | 0 => .int
  | 1 => .boolean
  | 2 => .boolean
  | 3 => .int
  | 4 => .array .int
  | 5 => .array .int
  | 6 => .array .int
  | 7 => .array .int
  | 8 => .array .int
  | 9 => .array .int
  | _ => .array .long
abbrev wsX00 : List Cond := u_ws RX0 TX0 11
theorem nmX0 : ∀ a, a < 11 → ∀ b, b < 11 → a ≠ b → (TX0 a).2.1 ≠ (TX0 b).2.1 := by decide +kernel
theorem tyX0_ok : ∀ k, k < 11 → parseFieldDescriptor (TX0 k).2.2.1 = some (tyX0 k) := by decide +kernel
abbrev cX0_init : ByteArray := prog_2_method_1_code
def yX0_init : MethodName := ⟨RX0, "<init>", "()V"⟩
abbrev cX0_add : ByteArray := prog_2_method_2_code
def yX0_add : MethodName := ⟨RX0, "add", "(III)I"⟩
abbrev cX0_pieceLength : ByteArray := prog_2_method_3_code
def yX0_pieceLength : MethodName := ⟨RX0, "pieceLength", "(ILTenonyard$Frame;LTenonyard$Joinery;)I"⟩
abbrev cX0_find : ByteArray := prog_2_method_4_code
def yX0_find : MethodName := ⟨RX0, "find", "(LTenonyard$Frame;LTenonyard$Joinery;)V"⟩
abbrev cX0_measure : ByteArray := prog_2_method_5_code
def yX0_measure : MethodName := ⟨RX0, "measure", "(LTenonyard$Frame;LTenonyard$Joinery;)V"⟩
abbrev cX0_fitting : ByteArray := prog_2_method_6_code
def yX0_fitting : MethodName := ⟨RX0, "fitting", "(ILTenonyard$Frame;)I"⟩
abbrev cX0_offer : ByteArray := prog_2_method_7_code
def yX0_offer : MethodName := ⟨RX0, "offer", "(III)V"⟩
abbrev cX0_choose : ByteArray := prog_2_method_8_code
def yX0_choose : MethodName := ⟨RX0, "choose", "(J)V"⟩
abbrev cX0_leftOf : ByteArray := prog_2_method_9_code
def yX0_leftOf : MethodName := ⟨RX0, "leftOf", "(II)I"⟩
def RX1 : String := "Tenonyard$Forces"
def TX1 : u_T := fun k => match k with
  | 0 => ("Tenonyard$Forces", "isFound", "Z", false)
  | 1 => ("Tenonyard$Forces", "outcome", "C", false)
  | 2 => ("Tenonyard$Forces", "divisor", "J", false)
  | 3 => ("Tenonyard$Forces", "wholes", "[J", true)
  | 4 => ("Tenonyard$Forces", "rests", "[J", true)
  | 5 => ("Tenonyard$Forces", "amounts", "[J", true)
  | 6 => ("Tenonyard$Forces", "ways", "[I", true)
  | 7 => ("Tenonyard$Forces", "highAsked", "[I", true)
  | 8 => ("Tenonyard$Forces", "lowAsked", "[I", true)
  | 9 => ("Tenonyard$Forces", "plain", "[J", true)
  | 10 => ("Tenonyard$Forces", "high", "[J", true)
  | 11 => ("Tenonyard$Forces", "low", "[J", true)
  | 12 => ("Tenonyard$Forces", "factor", "LTenonyard$Wide;", true)
  | 13 => ("Tenonyard$Forces", "wideDivisor", "LTenonyard$Wide;", true)
  | 14 => ("Tenonyard$Forces", "product", "LTenonyard$Wide;", true)
  | 15 => ("Tenonyard$Forces", "square", "LTenonyard$Wide;", true)
  | _ => ("Tenonyard$Forces", "greatestSquare", "LTenonyard$Wide;", true)
def tyX1 : Nat → FieldType := fun k => match k with
  | 0 => .boolean
  | 1 => .char
  | 2 => .long
  | 3 => .array .long
  | 4 => .array .long
  | 5 => .array .long
  | 6 => .array .int
  | 7 => .array .int
  | 8 => .array .int
  | 9 => .array .long
  | 10 => .array .long
  | 11 => .array .long
  | 12 => .object "Tenonyard$Wide"
  | 13 => .object "Tenonyard$Wide"
  | 14 => .object "Tenonyard$Wide"
  | 15 => .object "Tenonyard$Wide"
  | _ => .object "Tenonyard$Wide"
abbrev wsX10 : List Cond := u_ws RX1 TX1 17
theorem nmX1 : ∀ a, a < 17 → ∀ b, b < 17 → a ≠ b → (TX1 a).2.1 ≠ (TX1 b).2.1 := by decide +kernel
theorem tyX1_ok : ∀ k, k < 17 → parseFieldDescriptor (TX1 k).2.2.1 = some (tyX1 k) := by decide +kernel
abbrev cX1_init : ByteArray := prog_3_method_1_code
def yX1_init : MethodName := ⟨RX1, "<init>", "()V"⟩
abbrev cX1_bearingIndex : ByteArray := prog_3_method_2_code
def yX1_bearingIndex : MethodName := ⟨RX1, "bearingIndex", "(II)I"⟩
abbrev cX1_find : ByteArray := prog_3_method_3_code
def yX1_find : MethodName := ⟨RX1, "find", "(LTenonyard$Frame;)V"⟩
abbrev cX1_findPulls : ByteArray := prog_3_method_4_code
def yX1_findPulls : MethodName := ⟨RX1, "findPulls", "(LTenonyard$Frame;)C"⟩
abbrev cX1_fillRows : ByteArray := prog_3_method_5_code
def yX1_fillRows : MethodName := ⟨RX1, "fillRows", "(LTenonyard$Frame;)V"⟩
abbrev cX1_findDeterminants : ByteArray := prog_3_method_6_code
def yX1_findDeterminants : MethodName := ⟨RX1, "findDeterminants", "(I)V"⟩
abbrev cX1_expanded : ByteArray := prog_3_method_7_code
def yX1_expanded : MethodName := ⟨RX1, "expanded", "([JII)J"⟩
abbrev cX1_setPull : ByteArray := prog_3_method_8_code
def yX1_setPull : MethodName := ⟨RX1, "setPull", "(III)V"⟩
abbrev cX1_carry : ByteArray := prog_3_method_9_code
def yX1_carry : MethodName := ⟨RX1, "carry", "(I)V"⟩
abbrev cX1_findBearings : ByteArray := prog_3_method_10_code
def yX1_findBearings : MethodName := ⟨RX1, "findBearings", "(LTenonyard$Frame;)V"⟩
abbrev cX1_findAmounts : ByteArray := prog_3_method_11_code
def yX1_findAmounts : MethodName := ⟨RX1, "findAmounts", "(LTenonyard$Frame;)V"⟩
abbrev cX1_timesLength : ByteArray := prog_3_method_12_code
def yX1_timesLength : MethodName := ⟨RX1, "timesLength", "(JJI)J"⟩
abbrev cX1_thousandths : ByteArray := prog_3_method_13_code
def yX1_thousandths : MethodName := ⟨RX1, "thousandths", "(I)J"⟩
abbrev cX1_restInThousandths : ByteArray := prog_3_method_14_code
def yX1_restInThousandths : MethodName := ⟨RX1, "restInThousandths", "(I)J"⟩
abbrev cX1_sumOfThousandths : ByteArray := prog_3_method_15_code
def yX1_sumOfThousandths : MethodName := ⟨RX1, "sumOfThousandths", "(I)D"⟩
abbrev cX1_holdsAt : ByteArray := prog_3_method_16_code
def yX1_holdsAt : MethodName := ⟨RX1, "holdsAt", "(LTenonyard$Frame;I)Z"⟩
abbrev cX1_holdsAlong : ByteArray := prog_3_method_17_code
def yX1_holdsAlong : MethodName := ⟨RX1, "holdsAlong", "(LTenonyard$Frame;II)Z"⟩
def RX2 : String := "Tenonyard$Frame"
def TX2 : u_T := fun k => match k with
  | 0 => ("Tenonyard$Frame", "nodes", "I", false)
  | 1 => ("Tenonyard$Frame", "members", "I", false)
  | 2 => ("Tenonyard$Frame", "places", "[I", true)
  | 3 => ("Tenonyard$Frame", "loads", "[I", true)
  | 4 => ("Tenonyard$Frame", "loadCounts", "[I", true)
  | 5 => ("Tenonyard$Frame", "kinds", "[C", true)
  | 6 => ("Tenonyard$Frame", "firstNodes", "[I", true)
  | 7 => ("Tenonyard$Frame", "secondNodes", "[I", true)
  | 8 => ("Tenonyard$Frame", "breadths", "[I", true)
  | 9 => ("Tenonyard$Frame", "grades", "[I", true)
  | 10 => ("Tenonyard$Frame", "cutMoistures", "[I", true)
  | _ => ("Tenonyard$Frame", "driedMoistures", "[I", true)
def tyX2 : Nat → FieldType := fun k => match k with
  | 0 => .int
  | 1 => .int
  | 2 => .array .int
  | 3 => .array .int
  | 4 => .array .int
  | 5 => .array .char
  | 6 => .array .int
  | 7 => .array .int
  | 8 => .array .int
  | 9 => .array .int
  | 10 => .array .int
  | _ => .array .int
abbrev wsX20 : List Cond := u_ws RX2 TX2 12
theorem nmX2 : ∀ a, a < 12 → ∀ b, b < 12 → a ≠ b → (TX2 a).2.1 ≠ (TX2 b).2.1 := by decide +kernel
theorem tyX2_ok : ∀ k, k < 12 → parseFieldDescriptor (TX2 k).2.2.1 = some (tyX2 k) := by decide +kernel
abbrev cX2_init : ByteArray := prog_4_method_1_code
def yX2_init : MethodName := ⟨RX2, "<init>", "()V"⟩
abbrev cX2_addNode : ByteArray := prog_4_method_2_code
def yX2_addNode : MethodName := ⟨RX2, "addNode", "(IIC)I"⟩
abbrev cX2_addMember : ByteArray := prog_4_method_3_code
def yX2_addMember : MethodName := ⟨RX2, "addMember", "(IIII)I"⟩
abbrev cX2_addLoad : ByteArray := prog_4_method_4_code
def yX2_addLoad : MethodName := ⟨RX2, "addLoad", "(III)I"⟩
abbrev cX2_isOnePlace : ByteArray := prog_4_method_5_code
def yX2_isOnePlace : MethodName := ⟨RX2, "isOnePlace", "(II)Z"⟩
abbrev cX2_isBorne : ByteArray := prog_4_method_6_code
def yX2_isBorne : MethodName := ⟨RX2, "isBorne", "(II)Z"⟩
abbrev cX2_otherEnd : ByteArray := prog_4_method_7_code
def yX2_otherEnd : MethodName := ⟨RX2, "otherEnd", "(II)I"⟩
abbrev cX2_haveCommonNode : ByteArray := prog_4_method_8_code
def yX2_haveCommonNode : MethodName := ⟨RX2, "haveCommonNode", "(II)Z"⟩
abbrev cX2_wayAlong : ByteArray := prog_4_method_9_code
def yX2_wayAlong : MethodName := ⟨RX2, "wayAlong", "(III)I"⟩
abbrev cX2_lengthSquare : ByteArray := prog_4_method_10_code
def yX2_lengthSquare : MethodName := ⟨RX2, "lengthSquare", "(I)I"⟩
abbrev cX2_isOnGround : ByteArray := prog_4_method_11_code
def yX2_isOnGround : MethodName := ⟨RX2, "isOnGround", "(I)Z"⟩
def RX3 : String := "Tenonyard$Joinery"
def TX3 : u_T := fun k => match k with
  | 0 => ("Tenonyard$Joinery", "count", "I", false)
  | 1 => ("Tenonyard$Joinery", "goingIn", "[I", true)
  | 2 => ("Tenonyard$Joinery", "receiving", "[I", true)
  | 3 => ("Tenonyard$Joinery", "ways", "[I", true)
  | 4 => ("Tenonyard$Joinery", "thicknesses", "[I", true)
  | _ => ("Tenonyard$Joinery", "marks", "[I", true)
def tyX3 : Nat → FieldType := fun k => match k with
  | 0 => .int
  | 1 => .array .int
  | 2 => .array .int
  | 3 => .array .int
  | 4 => .array .int
  | _ => .array .int
abbrev wsX30 : List Cond := u_ws RX3 TX3 6
theorem nmX3 : ∀ a, a < 6 → ∀ b, b < 6 → a ≠ b → (TX3 a).2.1 ≠ (TX3 b).2.1 := by decide +kernel
theorem tyX3_ok : ∀ k, k < 6 → parseFieldDescriptor (TX3 k).2.2.1 = some (tyX3 k) := by decide +kernel
abbrev cX3_init : ByteArray := prog_5_method_1_code
def yX3_init : MethodName := ⟨RX3, "<init>", "()V"⟩
abbrev cX3_wayIndex : ByteArray := prog_5_method_2_code
def yX3_wayIndex : MethodName := ⟨RX3, "wayIndex", "(C)I"⟩
abbrev cX3_add : ByteArray := prog_5_method_3_code
def yX3_add : MethodName := ⟨RX3, "add", "(IIIII)I"⟩
abbrev cX3_areJoined : ByteArray := prog_5_method_4_code
def yX3_areJoined : MethodName := ⟨RX3, "areJoined", "(II)Z"⟩
abbrev cX3_partner : ByteArray := prog_5_method_5_code
def yX3_partner : MethodName := ⟨RX3, "partner", "(II)I"⟩
abbrev cX3_wayFor : ByteArray := prog_5_method_6_code
def yX3_wayFor : MethodName := ⟨RX3, "wayFor", "(II)I"⟩
abbrev cX3_joinsGoingIn : ByteArray := prog_5_method_7_code
def yX3_joinsGoingIn : MethodName := ⟨RX3, "joinsGoingIn", "(I)I"⟩
abbrev cX3_isThinEnough : ByteArray := prog_5_method_8_code
def yX3_isThinEnough : MethodName := ⟨RX3, "isThinEnough", "(ILTenonyard$Frame;)Z"⟩
abbrev cX3_misreadMark : ByteArray := prog_5_method_9_code
def yX3_misreadMark : MethodName := ⟨RX3, "misreadMark", "(I)I"⟩
abbrev cX3_canBeConfused : ByteArray := prog_5_method_10_code
def yX3_canBeConfused : MethodName := ⟨RX3, "canBeConfused", "(II)Z"⟩
abbrev cX3_opening : ByteArray := prog_5_method_11_code
def yX3_opening : MethodName := ⟨RX3, "opening", "(ILTenonyard$Frame;)I"⟩
def RX4 : String := "Tenonyard$Raising"
def TX4 : u_T := fun k => match k with
  | 0 => ("Tenonyard$Raising", "limit", "I", false)
  | 1 => ("Tenonyard$Raising", "isFound", "Z", false)
  | 2 => ("Tenonyard$Raising", "all", "I", false)
  | 3 => ("Tenonyard$Raising", "hanging", "I", false)
  | 4 => ("Tenonyard$Raising", "asking", "[I", true)
  | 5 => ("Tenonyard$Raising", "joined", "[I", true)
  | 6 => ("Tenonyard$Raising", "orderCounts", "[I", true)
  | 7 => ("Tenonyard$Raising", "leadsToAll", "[Z", true)
  | _ => ("Tenonyard$Raising", "order", "[I", true)
def tyX4 : Nat → FieldType := fun k => match k with
  | 0 => .int
  | 1 => .boolean
  | 2 => .int
  | 3 => .int
  | 4 => .array .int
  | 5 => .array .int
  | 6 => .array .int
  | 7 => .array .boolean
  | _ => .array .int
abbrev wsX40 : List Cond := u_ws RX4 TX4 9
theorem nmX4 : ∀ a, a < 9 → ∀ b, b < 9 → a ≠ b → (TX4 a).2.1 ≠ (TX4 b).2.1 := by decide +kernel
theorem tyX4_ok : ∀ k, k < 9 → parseFieldDescriptor (TX4 k).2.2.1 = some (tyX4 k) := by decide +kernel
abbrev cX4_init : ByteArray := prog_6_method_1_code
def yX4_init : MethodName := ⟨RX4, "<init>", "()V"⟩
abbrev cX4_orderCount : ByteArray := prog_6_method_2_code
def yX4_orderCount : MethodName := ⟨RX4, "orderCount", "()I"⟩
abbrev cX4_find : ByteArray := prog_6_method_3_code
def yX4_find : MethodName := ⟨RX4, "find", "(LTenonyard$Frame;LTenonyard$Joinery;)V"⟩
abbrev cX4_gather : ByteArray := prog_6_method_4_code
def yX4_gather : MethodName := ⟨RX4, "gather", "(LTenonyard$Frame;LTenonyard$Joinery;)V"⟩
abbrev cX4_canMoveIn : ByteArray := prog_6_method_5_code
def yX4_canMoveIn : MethodName := ⟨RX4, "canMoveIn", "(II)Z"⟩
abbrev cX4_propsFor : ByteArray := prog_6_method_6_code
def yX4_propsFor : MethodName := ⟨RX4, "propsFor", "(I)I"⟩
abbrev cX4_goForward : ByteArray := prog_6_method_7_code
def yX4_goForward : MethodName := ⟨RX4, "goForward", "(I)V"⟩
abbrev cX4_goBackward : ByteArray := prog_6_method_8_code
def yX4_goBackward : MethodName := ⟨RX4, "goBackward", "(I)V"⟩
abbrev cX4_findOrder : ByteArray := prog_6_method_9_code
def yX4_findOrder : MethodName := ⟨RX4, "findOrder", "(I)V"⟩
abbrev cX4_firstThatLeads : ByteArray := prog_6_method_10_code
def yX4_firstThatLeads : MethodName := ⟨RX4, "firstThatLeads", "(II)I"⟩
abbrev cX4_lowestStuck : ByteArray := prog_6_method_11_code
def yX4_lowestStuck : MethodName := ⟨RX4, "lowestStuck", "()I"⟩
def RX5 : String := "Tenonyard$Wide"
def TX5 : u_T := fun k => match k with
  | _ => ("Tenonyard$Wide", "parts", "[J", true)
def tyX5 : Nat → FieldType := fun k => match k with
  | _ => .array .long
abbrev wsX50 : List Cond := u_ws RX5 TX5 1
theorem nmX5 : ∀ a, a < 1 → ∀ b, b < 1 → a ≠ b → (TX5 a).2.1 ≠ (TX5 b).2.1 := by decide +kernel
theorem tyX5_ok : ∀ k, k < 1 → parseFieldDescriptor (TX5 k).2.2.1 = some (tyX5 k) := by decide +kernel
abbrev cX5_init : ByteArray := prog_7_method_1_code
def yX5_init : MethodName := ⟨RX5, "<init>", "()V"⟩
abbrev cX5_set : ByteArray := prog_7_method_2_code
def yX5_set : MethodName := ⟨RX5, "set", "(J)V"⟩
abbrev cX5_add : ByteArray := prog_7_method_3_code
def yX5_add : MethodName := ⟨RX5, "add", "(J)V"⟩
abbrev cX5_setProduct : ByteArray := prog_7_method_4_code
def yX5_setProduct : MethodName := ⟨RX5, "setProduct", "(LTenonyard$Wide;LTenonyard$Wide;)V"⟩
abbrev cX5_isAtMost : ByteArray := prog_7_method_5_code
def yX5_isAtMost : MethodName := ⟨RX5, "isAtMost", "(LTenonyard$Wide;)Z"⟩
def RX6 : String := "Tenonyard"
def TX6 : u_T := fun k => match k with
  | 0 => ("Tenonyard", "frame", "LTenonyard$Frame;", true)
  | 1 => ("Tenonyard", "forces", "LTenonyard$Forces;", true)
  | 2 => ("Tenonyard", "joinery", "LTenonyard$Joinery;", true)
  | 3 => ("Tenonyard", "cutting", "LTenonyard$Cutting;", true)
  | _ => ("Tenonyard", "raising", "LTenonyard$Raising;", true)
def tyX6 : Nat → FieldType := fun k => match k with
  | 0 => .object "Tenonyard$Frame"
  | 1 => .object "Tenonyard$Forces"
  | 2 => .object "Tenonyard$Joinery"
  | 3 => .object "Tenonyard$Cutting"
  | _ => .object "Tenonyard$Raising"
abbrev wsX60 : List Cond := u_ws RX6 TX6 5
theorem nmX6 : ∀ a, a < 5 → ∀ b, b < 5 → a ≠ b → (TX6 a).2.1 ≠ (TX6 b).2.1 := by decide +kernel
theorem tyX6_ok : ∀ k, k < 5 → parseFieldDescriptor (TX6 k).2.2.1 = some (tyX6 k) := by decide +kernel
abbrev cX6_init : ByteArray := prog_1_method_1_code
def yX6_init : MethodName := ⟨RX6, "<init>", "()V"⟩
abbrev cX6_node : ByteArray := prog_1_method_2_code
def yX6_node : MethodName := ⟨RX6, "node", "(IIC)I"⟩
abbrev cX6_member : ByteArray := prog_1_method_3_code
def yX6_member : MethodName := ⟨RX6, "member", "(IIII)I"⟩
abbrev cX6_load : ByteArray := prog_1_method_4_code
def yX6_load : MethodName := ⟨RX6, "load", "(III)I"⟩
abbrev cX6_state : ByteArray := prog_1_method_5_code
def yX6_state : MethodName := ⟨RX6, "state", "()C"⟩
abbrev cX6_force : ByteArray := prog_1_method_6_code
def yX6_force : MethodName := ⟨RX6, "force", "(I)J"⟩
abbrev cX6_pull : ByteArray := prog_1_method_7_code
def yX6_pull : MethodName := ⟨RX6, "pull", "(I)J"⟩
abbrev cX6_bearing : ByteArray := prog_1_method_8_code
def yX6_bearing : MethodName := ⟨RX6, "bearing", "(IZ)J"⟩
abbrev cX6_isBalanced : ByteArray := prog_1_method_9_code
def yX6_isBalanced : MethodName := ⟨RX6, "isBalanced", "(I)Z"⟩
abbrev cX6_weakest : ByteArray := prog_1_method_10_code
def yX6_weakest : MethodName := ⟨RX6, "weakest", "()I"⟩
abbrev cX6_joint : ByteArray := prog_1_method_11_code
def yX6_joint : MethodName := ⟨RX6, "joint", "(IICII)I"⟩
abbrev cX6_isRight : ByteArray := prog_1_method_12_code
def yX6_isRight : MethodName := ⟨RX6, "isRight", "(I)Z"⟩
abbrev cX6_misread : ByteArray := prog_1_method_13_code
def yX6_misread : MethodName := ⟨RX6, "misread", "(I)I"⟩
abbrev cX6_clashes : ByteArray := prog_1_method_14_code
def yX6_clashes : MethodName := ⟨RX6, "clashes", "()I"⟩
abbrev cX6_cutAt : ByteArray := prog_1_method_15_code
def yX6_cutAt : MethodName := ⟨RX6, "cutAt", "(II)I"⟩
abbrev cX6_dry : ByteArray := prog_1_method_16_code
def yX6_dry : MethodName := ⟨RX6, "dry", "(II)I"⟩
abbrev cX6_gap : ByteArray := prog_1_method_17_code
def yX6_gap : MethodName := ⟨RX6, "gap", "(I)I"⟩
abbrev cX6_widest : ByteArray := prog_1_method_18_code
def yX6_widest : MethodName := ⟨RX6, "widest", "()I"⟩
abbrev cX6_stick : ByteArray := prog_1_method_19_code
def yX6_stick : MethodName := ⟨RX6, "stick", "(III)I"⟩
abbrev cX6_piece : ByteArray := prog_1_method_20_code
def yX6_piece : MethodName := ⟨RX6, "piece", "(I)I"⟩
abbrev cX6_stickOf : ByteArray := prog_1_method_21_code
def yX6_stickOf : MethodName := ⟨RX6, "stickOf", "(I)I"⟩
abbrev cX6_wood : ByteArray := prog_1_method_22_code
def yX6_wood : MethodName := ⟨RX6, "wood", "()I"⟩
abbrev cX6_waste : ByteArray := prog_1_method_23_code
def yX6_waste : MethodName := ⟨RX6, "waste", "(I)I"⟩
abbrev cX6_setProps : ByteArray := prog_1_method_24_code
def yX6_setProps : MethodName := ⟨RX6, "setProps", "(I)I"⟩
abbrev cX6_raised : ByteArray := prog_1_method_25_code
def yX6_raised : MethodName := ⟨RX6, "raised", "(I)I"⟩
abbrev cX6_canRaise : ByteArray := prog_1_method_26_code
def yX6_canRaise : MethodName := ⟨RX6, "canRaise", "()Z"⟩
abbrev cX6_canTakeAway : ByteArray := prog_1_method_27_code
def yX6_canTakeAway : MethodName := ⟨RX6, "canTakeAway", "()Z"⟩
abbrev cX6_orders : ByteArray := prog_1_method_28_code
def yX6_orders : MethodName := ⟨RX6, "orders", "()I"⟩
abbrev cX6_props : ByteArray := prog_1_method_29_code
def yX6_props : MethodName := ⟨RX6, "props", "(I)I"⟩
abbrev cX6_stuck : ByteArray := prog_1_method_30_code
def yX6_stuck : MethodName := ⟨RX6, "stuck", "()I"⟩
abbrev cX6_allForce : ByteArray := prog_1_method_31_code
def yX6_allForce : MethodName := ⟨RX6, "allForce", "()J"⟩
abbrev cX6_rightShare : ByteArray := prog_1_method_32_code
def yX6_rightShare : MethodName := ⟨RX6, "rightShare", "()F"⟩
abbrev cX6_meanPull : ByteArray := prog_1_method_33_code
def yX6_meanPull : MethodName := ⟨RX6, "meanPull", "()D"⟩
abbrev cX6_isSound : ByteArray := prog_1_method_34_code
def yX6_isSound : MethodName := ⟨RX6, "isSound", "()Z"⟩
abbrev cX6_isWithin : ByteArray := prog_1_method_35_code
def yX6_isWithin : MethodName := ⟨RX6, "isWithin", "(III)Z"⟩
abbrev cX6_isSection : ByteArray := prog_1_method_36_code
def yX6_isSection : MethodName := ⟨RX6, "isSection", "(II)Z"⟩
abbrev cX6_checkNode : ByteArray := prog_1_method_37_code
def yX6_checkNode : MethodName := ⟨RX6, "checkNode", "(I)V"⟩
abbrev cX6_checkMember : ByteArray := prog_1_method_38_code
def yX6_checkMember : MethodName := ⟨RX6, "checkMember", "(I)V"⟩
abbrev cX6_checkJoint : ByteArray := prog_1_method_39_code
def yX6_checkJoint : MethodName := ⟨RX6, "checkJoint", "(I)V"⟩
abbrev cX6_checkMoisture : ByteArray := prog_1_method_40_code
def yX6_checkMoisture : MethodName := ⟨RX6, "checkMoisture", "(I)V"⟩
abbrev cX6_checkStanding : ByteArray := prog_1_method_41_code
def yX6_checkStanding : MethodName := ⟨RX6, "checkStanding", "()V"⟩
abbrev cX6_checkCut : ByteArray := prog_1_method_42_code
def yX6_checkCut : MethodName := ⟨RX6, "checkCut", "()V"⟩
abbrev cX6_checkPlaceInOrder : ByteArray := prog_1_method_43_code
def yX6_checkPlaceInOrder : MethodName := ⟨RX6, "checkPlaceInOrder", "(I)V"⟩
def RX7 : String := "TenonyardModel$Joint"
def TX7 : u_T := fun k => match k with
  | 0 => ("TenonyardModel$Joint", "member", "I", true)
  | 1 => ("TenonyardModel$Joint", "into", "I", true)
  | 2 => ("TenonyardModel$Joint", "thickness", "I", true)
  | 3 => ("TenonyardModel$Joint", "mark", "I", true)
  | _ => ("TenonyardModel$Joint", "way", "C", true)
def tyX7 : Nat → FieldType := fun k => match k with
  | 0 => .int
  | 1 => .int
  | 2 => .int
  | 3 => .int
  | _ => .char
abbrev wsX70 : List Cond := u_ws RX7 TX7 5
theorem nmX7 : ∀ a, a < 5 → ∀ b, b < 5 → a ≠ b → (TX7 a).2.1 ≠ (TX7 b).2.1 := by decide +kernel
theorem tyX7_ok : ∀ k, k < 5 → parseFieldDescriptor (TX7 k).2.2.1 = some (tyX7 k) := by decide +kernel
abbrev cX7_init : ByteArray := prog_10_method_1_code
def yX7_init : MethodName := ⟨RX7, "<init>", "(IICII)V"⟩
abbrev cX7_other : ByteArray := prog_10_method_2_code
def yX7_other : MethodName := ⟨RX7, "other", "(I)I"⟩
abbrev cX7_wayFor : ByteArray := prog_10_method_3_code
def yX7_wayFor : MethodName := ⟨RX7, "wayFor", "(I)C"⟩
abbrev cX7_turned : ByteArray := prog_10_method_4_code
def yX7_turned : MethodName := ⟨RX7, "turned", "()I"⟩
def RX8 : String := "TenonyardModel$Member"
def TX8 : u_T := fun k => match k with
  | 0 => ("TenonyardModel$Member", "from", "I", true)
  | 1 => ("TenonyardModel$Member", "to", "I", true)
  | 2 => ("TenonyardModel$Member", "breadth", "I", true)
  | 3 => ("TenonyardModel$Member", "grade", "I", true)
  | 4 => ("TenonyardModel$Member", "cut", "I", false)
  | _ => ("TenonyardModel$Member", "dry", "I", false)
def tyX8 : Nat → FieldType := fun k => match k with
  | 0 => .int
  | 1 => .int
  | 2 => .int
  | 3 => .int
  | 4 => .int
  | _ => .int
abbrev wsX80 : List Cond := u_ws RX8 TX8 6
theorem nmX8 : ∀ a, a < 6 → ∀ b, b < 6 → a ≠ b → (TX8 a).2.1 ≠ (TX8 b).2.1 := by decide +kernel
theorem tyX8_ok : ∀ k, k < 6 → parseFieldDescriptor (TX8 k).2.2.1 = some (tyX8 k) := by decide +kernel
abbrev cX8_init : ByteArray := prog_11_method_1_code
def yX8_init : MethodName := ⟨RX8, "<init>", "(IIII)V"⟩
abbrev cX8_meets : ByteArray := prog_11_method_2_code
def yX8_meets : MethodName := ⟨RX8, "meets", "(LTenonyardModel$Member;)Z"⟩
def RX9 : String := "TenonyardModel$Node"
def TX9 : u_T := fun k => match k with
  | 0 => ("TenonyardModel$Node", "x", "I", true)
  | 1 => ("TenonyardModel$Node", "y", "I", true)
  | 2 => ("TenonyardModel$Node", "kind", "C", true)
  | 3 => ("TenonyardModel$Node", "right", "J", false)
  | 4 => ("TenonyardModel$Node", "up", "J", false)
  | _ => ("TenonyardModel$Node", "loads", "I", false)
def tyX9 : Nat → FieldType := fun k => match k with
  | 0 => .int
  | 1 => .int
  | 2 => .char
  | 3 => .long
  | 4 => .long
  | _ => .int
abbrev wsX90 : List Cond := u_ws RX9 TX9 6
theorem nmX9 : ∀ a, a < 6 → ∀ b, b < 6 → a ≠ b → (TX9 a).2.1 ≠ (TX9 b).2.1 := by decide +kernel
theorem tyX9_ok : ∀ k, k < 6 → parseFieldDescriptor (TX9 k).2.2.1 = some (tyX9 k) := by decide +kernel
abbrev cX9_init : ByteArray := prog_12_method_1_code
def yX9_init : MethodName := ⟨RX9, "<init>", "(IIC)V"⟩
def RX10 : String := "TenonyardModel$Stick"
def TX10 : u_T := fun k => match k with
  | 0 => ("TenonyardModel$Stick", "length", "I", true)
  | 1 => ("TenonyardModel$Stick", "breadth", "I", true)
  | _ => ("TenonyardModel$Stick", "grade", "I", true)
def tyX10 : Nat → FieldType := fun k => match k with
  | 0 => .int
  | 1 => .int
  | _ => .int
abbrev wsX100 : List Cond := u_ws RX10 TX10 3
theorem nmX10 : ∀ a, a < 3 → ∀ b, b < 3 → a ≠ b → (TX10 a).2.1 ≠ (TX10 b).2.1 := by decide +kernel
theorem tyX10_ok : ∀ k, k < 3 → parseFieldDescriptor (TX10 k).2.2.1 = some (tyX10 k) := by decide +kernel
abbrev cX10_init : ByteArray := prog_13_method_1_code
def yX10_init : MethodName := ⟨RX10, "<init>", "(III)V"⟩
def RX11 : String := "TenonyardModel$Wide"
def TX11 : u_T := fun k => match k with
  | _ => ("TenonyardModel$Wide", "limbs", "[I", true)
def tyX11 : Nat → FieldType := fun k => match k with
  | _ => .array .int
abbrev wsX110 : List Cond := u_ws RX11 TX11 1
theorem nmX11 : ∀ a, a < 1 → ∀ b, b < 1 → a ≠ b → (TX11 a).2.1 ≠ (TX11 b).2.1 := by decide +kernel
theorem tyX11_ok : ∀ k, k < 1 → parseFieldDescriptor (TX11 k).2.2.1 = some (tyX11 k) := by decide +kernel
abbrev cX11_init : ByteArray := prog_14_method_1_code
def yX11_init : MethodName := ⟨RX11, "<init>", "(J)V"⟩
abbrev cX11_times : ByteArray := prog_14_method_2_code
def yX11_times : MethodName := ⟨RX11, "times", "(LTenonyardModel$Wide;)LTenonyardModel$Wide;"⟩
abbrev cX11_isMore : ByteArray := prog_14_method_3_code
def yX11_isMore : MethodName := ⟨RX11, "isMore", "(LTenonyardModel$Wide;)Z"⟩
def RX12 : String := "TenonyardModel"
def TX12 : u_T := fun k => match k with
  | 0 => ("TenonyardModel", "nodes", "Ljava/util/ArrayList;", true)
  | 1 => ("TenonyardModel", "members", "Ljava/util/ArrayList;", true)
  | 2 => ("TenonyardModel", "joints", "Ljava/util/ArrayList;", true)
  | 3 => ("TenonyardModel", "sticks", "Ljava/util/ArrayList;", true)
  | 4 => ("TenonyardModel", "minors", "[J", true)
  | 5 => ("TenonyardModel", "pulls", "[J", true)
  | 6 => ("TenonyardModel", "forces", "[J", true)
  | 7 => ("TenonyardModel", "isEnd", "[Z", true)
  | 8 => ("TenonyardModel", "canCut", "[Z", true)
  | 9 => ("TenonyardModel", "ways", "[I", true)
  | 10 => ("TenonyardModel", "order", "[I", true)
  | 11 => ("TenonyardModel", "best", "[I", true)
  | 12 => ("TenonyardModel", "tried", "[I", true)
  | 13 => ("TenonyardModel", "left", "[I", true)
  | 14 => ("TenonyardModel", "needs", "[I", true)
  | 15 => ("TenonyardModel", "lengths", "[I", true)
  | 16 => ("TenonyardModel", "breadths", "[I", true)
  | 17 => ("TenonyardModel", "grades", "[I", true)
  | 18 => ("TenonyardModel", "base", "J", false)
  | 19 => ("TenonyardModel", "thrown", "I", false)
  | 20 => ("TenonyardModel", "props", "I", false)
  | 21 => ("TenonyardModel", "wood", "I", false)
  | 22 => ("TenonyardModel", "isReckoned", "Z", false)
  | 23 => ("TenonyardModel", "isForced", "Z", false)
  | 24 => ("TenonyardModel", "isRaised", "Z", false)
  | 25 => ("TenonyardModel", "isCut", "Z", false)
  | _ => ("TenonyardModel", "state", "C", false)
def tyX12 : Nat → FieldType := fun k => match k with
  | 0 => .object "java/util/ArrayList"
  | 1 => .object "java/util/ArrayList"
  | 2 => .object "java/util/ArrayList"
  | 3 => .object "java/util/ArrayList"
  | 4 => .array .long
  | 5 => .array .long
  | 6 => .array .long
  | 7 => .array .boolean
  | 8 => .array .boolean
  | 9 => .array .int
  | 10 => .array .int
  | 11 => .array .int
  | 12 => .array .int
  | 13 => .array .int
  | 14 => .array .int
  | 15 => .array .int
  | 16 => .array .int
  | 17 => .array .int
  | 18 => .long
  | 19 => .int
  | 20 => .int
  | 21 => .int
  | 22 => .boolean
  | 23 => .boolean
  | 24 => .boolean
  | 25 => .boolean
  | _ => .char
abbrev wsX120 : List Cond := u_ws RX12 TX12 27
theorem nmX12 : ∀ a, a < 27 → ∀ b, b < 27 → a ≠ b → (TX12 a).2.1 ≠ (TX12 b).2.1 := by decide +kernel
theorem tyX12_ok : ∀ k, k < 27 → parseFieldDescriptor (TX12 k).2.2.1 = some (tyX12 k) := by decide +kernel
abbrev cX12_init : ByteArray := prog_9_method_1_code
def yX12_init : MethodName := ⟨RX12, "<init>", "()V"⟩
abbrev cX12_thrown : ByteArray := prog_9_method_2_code
def yX12_thrown : MethodName := ⟨RX12, "thrown", "()I"⟩
abbrev cX12_fails : ByteArray := prog_9_method_3_code
def yX12_fails : MethodName := ⟨RX12, "fails", "(I)I"⟩
abbrev cX12_tell : ByteArray := prog_9_method_4_code
def yX12_tell : MethodName := ⟨RX12, "tell", "(I)I"⟩
abbrev cX12_tellLong : ByteArray := prog_9_method_5_code
def yX12_tellLong : MethodName := ⟨RX12, "tellLong", "(J)J"⟩
abbrev cX12_failsLong : ByteArray := prog_9_method_6_code
def yX12_failsLong : MethodName := ⟨RX12, "failsLong", "(I)J"⟩
abbrev cX12_refuses : ByteArray := prog_9_method_7_code
def yX12_refuses : MethodName := ⟨RX12, "refuses", "(I)Z"⟩
abbrev cX12_tells : ByteArray := prog_9_method_8_code
def yX12_tells : MethodName := ⟨RX12, "tells", "(Z)Z"⟩
abbrev cX12_in : ByteArray := prog_9_method_9_code
def yX12_in : MethodName := ⟨RX12, "in", "(JII)Z"⟩
abbrev cX12_changes : ByteArray := prog_9_method_10_code
def yX12_changes : MethodName := ⟨RX12, "changes", "()V"⟩
abbrev cX12_wayX : ByteArray := prog_9_method_11_code
def yX12_wayX : MethodName := ⟨RX12, "wayX", "(LTenonyardModel$Member;I)I"⟩
abbrev cX12_wayY : ByteArray := prog_9_method_12_code
def yX12_wayY : MethodName := ⟨RX12, "wayY", "(LTenonyardModel$Member;I)I"⟩
abbrev cX12_isBorne : ByteArray := prog_9_method_13_code
def yX12_isBorne : MethodName := ⟨RX12, "isBorne", "(IZ)Z"⟩
abbrev cX12_draws : ByteArray := prog_9_method_14_code
def yX12_draws : MethodName := ⟨RX12, "draws", "(II)I"⟩
abbrev cX12_loadIn : ByteArray := prog_9_method_15_code
def yX12_loadIn : MethodName := ⟨RX12, "loadIn", "(I)J"⟩
abbrev cX12_determinant : ByteArray := prog_9_method_16_code
def yX12_determinant : MethodName := ⟨RX12, "determinant", "(I)J"⟩
abbrev cX12_expanded : ByteArray := prog_9_method_17_code
def yX12_expanded : MethodName := ⟨RX12, "expanded", "(III)J"⟩
abbrev cX12_unknowns : ByteArray := prog_9_method_18_code
def yX12_unknowns : MethodName := ⟨RX12, "unknowns", "()I"⟩
abbrev cX12_reckons : ByteArray := prog_9_method_19_code
def yX12_reckons : MethodName := ⟨RX12, "reckons", "()V"⟩
abbrev cX12_stands : ByteArray := prog_9_method_20_code
def yX12_stands : MethodName := ⟨RX12, "stands", "()Z"⟩
abbrev cX12_thousandths : ByteArray := prog_9_method_21_code
def yX12_thousandths : MethodName := ⟨RX12, "thousandths", "(J)J"⟩
abbrev cX12_bearingOf : ByteArray := prog_9_method_22_code
def yX12_bearingOf : MethodName := ⟨RX12, "bearingOf", "(IZ)J"⟩
abbrev cX12_divisor : ByteArray := prog_9_method_23_code
def yX12_divisor : MethodName := ⟨RX12, "divisor", "(JJ)J"⟩
abbrev cX12_isAtMost : ByteArray := prog_9_method_24_code
def yX12_isAtMost : MethodName := ⟨RX12, "isAtMost", "(JJJJ)Z"⟩
abbrev cX12_forceOf : ByteArray := prog_9_method_25_code
def yX12_forceOf : MethodName := ⟨RX12, "forceOf", "(I)J"⟩
abbrev cX12_reckonsForce : ByteArray := prog_9_method_26_code
def yX12_reckonsForce : MethodName := ⟨RX12, "reckonsForce", "(I)J"⟩
abbrev cX12_canGoIn : ByteArray := prog_9_method_27_code
def yX12_canGoIn : MethodName := ⟨RX12, "canGoIn", "(II)Z"⟩
abbrev cX12_propsFor : ByteArray := prog_9_method_28_code
def yX12_propsFor : MethodName := ⟨RX12, "propsFor", "(I)I"⟩
abbrev cX12_canFollow : ByteArray := prog_9_method_29_code
def yX12_canFollow : MethodName := ⟨RX12, "canFollow", "(II)Z"⟩
abbrev cX12_raises : ByteArray := prog_9_method_30_code
def yX12_raises : MethodName := ⟨RX12, "raises", "()V"⟩
abbrev cX12_isTakenAway : ByteArray := prog_9_method_31_code
def yX12_isTakenAway : MethodName := ⟨RX12, "isTakenAway", "(I)Z"⟩
abbrev cX12_pieceOf : ByteArray := prog_9_method_32_code
def yX12_pieceOf : MethodName := ⟨RX12, "pieceOf", "(I)I"⟩
abbrev cX12_cuts : ByteArray := prog_9_method_33_code
def yX12_cuts : MethodName := ⟨RX12, "cuts", "(II)Z"⟩
abbrev cX12_sums : ByteArray := prog_9_method_34_code
def yX12_sums : MethodName := ⟨RX12, "sums", "()V"⟩
abbrev cX12_areEnough : ByteArray := prog_9_method_35_code
def yX12_areEnough : MethodName := ⟨RX12, "areEnough", "(I)Z"⟩
abbrev cX12_isFilled : ByteArray := prog_9_method_36_code
def yX12_isFilled : MethodName := ⟨RX12, "isFilled", "(ILTenonyardModel$Stick;)Z"⟩
abbrev cX12_isBefore : ByteArray := prog_9_method_37_code
def yX12_isBefore : MethodName := ⟨RX12, "isBefore", "()Z"⟩
abbrev cX12_saws : ByteArray := prog_9_method_38_code
def yX12_saws : MethodName := ⟨RX12, "saws", "()V"⟩
abbrev cX12_areCut : ByteArray := prog_9_method_39_code
def yX12_areCut : MethodName := ⟨RX12, "areCut", "()Z"⟩
abbrev cX12_isNode : ByteArray := prog_9_method_40_code
def yX12_isNode : MethodName := ⟨RX12, "isNode", "(I)Z"⟩
abbrev cX12_isMember : ByteArray := prog_9_method_41_code
def yX12_isMember : MethodName := ⟨RX12, "isMember", "(I)Z"⟩
abbrev cX12_node : ByteArray := prog_9_method_42_code
def yX12_node : MethodName := ⟨RX12, "node", "(IIC)I"⟩
abbrev cX12_member : ByteArray := prog_9_method_43_code
def yX12_member : MethodName := ⟨RX12, "member", "(IIII)I"⟩
abbrev cX12_load : ByteArray := prog_9_method_44_code
def yX12_load : MethodName := ⟨RX12, "load", "(III)I"⟩
abbrev cX12_state : ByteArray := prog_9_method_45_code
def yX12_state : MethodName := ⟨RX12, "state", "()C"⟩
abbrev cX12_force : ByteArray := prog_9_method_46_code
def yX12_force : MethodName := ⟨RX12, "force", "(I)J"⟩
abbrev cX12_pull : ByteArray := prog_9_method_47_code
def yX12_pull : MethodName := ⟨RX12, "pull", "(I)J"⟩
abbrev cX12_bearing : ByteArray := prog_9_method_48_code
def yX12_bearing : MethodName := ⟨RX12, "bearing", "(IZ)J"⟩
abbrev cX12_restOf : ByteArray := prog_9_method_49_code
def yX12_restOf : MethodName := ⟨RX12, "restOf", "(II)J"⟩
abbrev cX12_isBalanced : ByteArray := prog_9_method_50_code
def yX12_isBalanced : MethodName := ⟨RX12, "isBalanced", "(I)Z"⟩
abbrev cX12_weakest : ByteArray := prog_9_method_51_code
def yX12_weakest : MethodName := ⟨RX12, "weakest", "()I"⟩
abbrev cX12_joint : ByteArray := prog_9_method_52_code
def yX12_joint : MethodName := ⟨RX12, "joint", "(IICII)I"⟩
abbrev cX12_isJoint : ByteArray := prog_9_method_53_code
def yX12_isJoint : MethodName := ⟨RX12, "isJoint", "(I)Z"⟩
abbrev cX12_isGood : ByteArray := prog_9_method_54_code
def yX12_isGood : MethodName := ⟨RX12, "isGood", "(LTenonyardModel$Joint;)Z"⟩
abbrev cX12_isRight : ByteArray := prog_9_method_55_code
def yX12_isRight : MethodName := ⟨RX12, "isRight", "(I)Z"⟩
abbrev cX12_misread : ByteArray := prog_9_method_56_code
def yX12_misread : MethodName := ⟨RX12, "misread", "(I)I"⟩
abbrev cX12_clashes : ByteArray := prog_9_method_57_code
def yX12_clashes : MethodName := ⟨RX12, "clashes", "()I"⟩
abbrev cX12_cutAt : ByteArray := prog_9_method_58_code
def yX12_cutAt : MethodName := ⟨RX12, "cutAt", "(II)I"⟩
abbrev cX12_dry : ByteArray := prog_9_method_59_code
def yX12_dry : MethodName := ⟨RX12, "dry", "(II)I"⟩
abbrev cX12_gapOf : ByteArray := prog_9_method_60_code
def yX12_gapOf : MethodName := ⟨RX12, "gapOf", "(LTenonyardModel$Joint;)I"⟩
abbrev cX12_gap : ByteArray := prog_9_method_61_code
def yX12_gap : MethodName := ⟨RX12, "gap", "(I)I"⟩
abbrev cX12_widest : ByteArray := prog_9_method_62_code
def yX12_widest : MethodName := ⟨RX12, "widest", "()I"⟩
abbrev cX12_stick : ByteArray := prog_9_method_63_code
def yX12_stick : MethodName := ⟨RX12, "stick", "(III)I"⟩
abbrev cX12_piece : ByteArray := prog_9_method_64_code
def yX12_piece : MethodName := ⟨RX12, "piece", "(I)I"⟩
abbrev cX12_stickOf : ByteArray := prog_9_method_65_code
def yX12_stickOf : MethodName := ⟨RX12, "stickOf", "(I)I"⟩
abbrev cX12_wood : ByteArray := prog_9_method_66_code
def yX12_wood : MethodName := ⟨RX12, "wood", "()I"⟩
abbrev cX12_waste : ByteArray := prog_9_method_67_code
def yX12_waste : MethodName := ⟨RX12, "waste", "(I)I"⟩
abbrev cX12_setProps : ByteArray := prog_9_method_68_code
def yX12_setProps : MethodName := ⟨RX12, "setProps", "(I)I"⟩
abbrev cX12_hasOrder : ByteArray := prog_9_method_69_code
def yX12_hasOrder : MethodName := ⟨RX12, "hasOrder", "()Z"⟩
abbrev cX12_raised : ByteArray := prog_9_method_70_code
def yX12_raised : MethodName := ⟨RX12, "raised", "(I)I"⟩
abbrev cX12_canRaise : ByteArray := prog_9_method_71_code
def yX12_canRaise : MethodName := ⟨RX12, "canRaise", "()Z"⟩
abbrev cX12_canTakeAway : ByteArray := prog_9_method_72_code
def yX12_canTakeAway : MethodName := ⟨RX12, "canTakeAway", "()Z"⟩
abbrev cX12_orders : ByteArray := prog_9_method_73_code
def yX12_orders : MethodName := ⟨RX12, "orders", "()I"⟩
abbrev cX12_props : ByteArray := prog_9_method_74_code
def yX12_props : MethodName := ⟨RX12, "props", "(I)I"⟩
abbrev cX12_stuck : ByteArray := prog_9_method_75_code
def yX12_stuck : MethodName := ⟨RX12, "stuck", "()I"⟩
abbrev cX12_allForce : ByteArray := prog_9_method_76_code
def yX12_allForce : MethodName := ⟨RX12, "allForce", "()J"⟩
abbrev cX12_rightShare : ByteArray := prog_9_method_77_code
def yX12_rightShare : MethodName := ⟨RX12, "rightShare", "()F"⟩
abbrev cX12_meanPull : ByteArray := prog_9_method_78_code
def yX12_meanPull : MethodName := ⟨RX12, "meanPull", "()D"⟩
abbrev cX12_isSound : ByteArray := prog_9_method_79_code
def yX12_isSound : MethodName := ⟨RX12, "isSound", "()Z"⟩
def RJx145de : String := "java/io/Serializable"
def TJx145de : u_T := fun k => match k with
  | _ => ("", "", "", false)
def tyJx145de : Nat → FieldType := fun k => match k with
  | _ => .int
abbrev wsJx145de0 : List Cond := u_ws RJx145de TJx145de 0
theorem nmJx145de : ∀ a, a < 0 → ∀ b, b < 0 → a ≠ b → (TJx145de a).2.1 ≠ (TJx145de b).2.1 := by decide +kernel
theorem tyJx145de_ok : ∀ k, k < 0 → parseFieldDescriptor (TJx145de k).2.2.1 = some (tyJx145de k) := by decide +kernel
def RJx00060 : String := "java/lang/ArrayIndexOutOfBoundsException"
def TJx00060 : u_T := fun k => match k with
  | 0 => ("java/lang/Throwable", "backtrace", "Ljava/lang/Object;", false)
  | 1 => ("java/lang/Throwable", "detailMessage", "Ljava/lang/String;", false)
  | 2 => ("java/lang/Throwable", "cause", "Ljava/lang/Throwable;", false)
  | 3 => ("java/lang/Throwable", "stackTrace", "[Ljava/lang/StackTraceElement;", false)
  | 4 => ("java/lang/Throwable", "depth", "I", false)
  | _ => ("java/lang/Throwable", "suppressedExceptions", "Ljava/util/List;", false)
def tyJx00060 : Nat → FieldType := fun k => match k with
  | 0 => .object "java/lang/Object"
  | 1 => .object "java/lang/String"
  | 2 => .object "java/lang/Throwable"
  | 3 => .array (.object "java/lang/StackTraceElement")
  | 4 => .int
  | _ => .object "java/util/List"
abbrev wsJx000600 : List Cond := u_ws RJx00060 TJx00060 6
theorem nmJx00060 : ∀ a, a < 6 → ∀ b, b < 6 → a ≠ b → (TJx00060 a).2.1 ≠ (TJx00060 b).2.1 := by decide +kernel
theorem tyJx00060_ok : ∀ k, k < 6 → parseFieldDescriptor (TJx00060 k).2.2.1 = some (tyJx00060 k) := by decide +kernel
abbrev cJx00060_init_a7421 : ByteArray := prog_17_method_2_code
def yJx00060_init_a7421 : MethodName := ⟨RJx00060, "<init>", "(Ljava/lang/String;)V"⟩
def RJx9f9b0 : String := "java/lang/CharSequence"
def TJx9f9b0 : u_T := fun k => match k with
  | _ => ("", "", "", false)
def tyJx9f9b0 : Nat → FieldType := fun k => match k with
  | _ => .int
abbrev wsJx9f9b00 : List Cond := u_ws RJx9f9b0 TJx9f9b0 0
theorem nmJx9f9b0 : ∀ a, a < 0 → ∀ b, b < 0 → a ≠ b → (TJx9f9b0 a).2.1 ≠ (TJx9f9b0 b).2.1 := by decide +kernel
theorem tyJx9f9b0_ok : ∀ k, k < 0 → parseFieldDescriptor (TJx9f9b0 k).2.2.1 = some (tyJx9f9b0 k) := by decide +kernel
def RJ11 : String := "java/lang/Character"
def TJ11 : u_T := fun k => match k with
  | _ => ("", "", "", false)
def tyJ11 : Nat → FieldType := fun k => match k with
  | _ => .int
abbrev wsJ110 : List Cond := u_ws RJ11 TJ11 0
theorem nmJ11 : ∀ a, a < 0 → ∀ b, b < 0 → a ≠ b → (TJ11 a).2.1 ≠ (TJ11 b).2.1 := by decide +kernel
theorem tyJ11_ok : ∀ k, k < 0 → parseFieldDescriptor (TJ11 k).2.2.1 = some (tyJ11 k) := by decide +kernel
abbrev cJ11_isValidCodePoint_9a6ad : ByteArray := prog_19_method_11_code
def yJ11_isValidCodePoint_9a6ad : MethodName := ⟨RJ11, "isValidCodePoint", "(I)Z"⟩
abbrev cJ11_highSurrogate_5068e : ByteArray := prog_19_method_28_code
def yJ11_highSurrogate_5068e : MethodName := ⟨RJ11, "highSurrogate", "(I)C"⟩
abbrev cJ11_lowSurrogate_5068e : ByteArray := prog_19_method_29_code
def yJ11_lowSurrogate_5068e : MethodName := ⟨RJ11, "lowSurrogate", "(I)C"⟩
def RJx8e188 : String := "java/lang/Cloneable"
def TJx8e188 : u_T := fun k => match k with
  | _ => ("", "", "", false)
def tyJx8e188 : Nat → FieldType := fun k => match k with
  | _ => .int
abbrev wsJx8e1880 : List Cond := u_ws RJx8e188 TJx8e188 0
theorem nmJx8e188 : ∀ a, a < 0 → ∀ b, b < 0 → a ≠ b → (TJx8e188 a).2.1 ≠ (TJx8e188 b).2.1 := by decide +kernel
theorem tyJx8e188_ok : ∀ k, k < 0 → parseFieldDescriptor (TJx8e188 k).2.2.1 = some (tyJx8e188 k) := by decide +kernel
def RJxb160c : String := "java/lang/Comparable"
def TJxb160c : u_T := fun k => match k with
  | _ => ("", "", "", false)
def tyJxb160c : Nat → FieldType := fun k => match k with
  | _ => .int
abbrev wsJxb160c0 : List Cond := u_ws RJxb160c TJxb160c 0
theorem nmJxb160c : ∀ a, a < 0 → ∀ b, b < 0 → a ≠ b → (TJxb160c a).2.1 ≠ (TJxb160c b).2.1 := by decide +kernel
theorem tyJxb160c_ok : ∀ k, k < 0 → parseFieldDescriptor (TJxb160c k).2.2.1 = some (tyJxb160c k) := by decide +kernel
def RJ6 : String := "java/lang/Integer"
def TJ6 : u_T := fun k => match k with
  | _ => ("", "", "", false)
def tyJ6 : Nat → FieldType := fun k => match k with
  | _ => .int
abbrev wsJ60 : List Cond := u_ws RJ6 TJ6 0
theorem nmJ6 : ∀ a, a < 0 → ∀ b, b < 0 → a ≠ b → (TJ6 a).2.1 ≠ (TJ6 b).2.1 := by decide +kernel
theorem tyJ6_ok : ∀ k, k < 0 → parseFieldDescriptor (TJ6 k).2.2.1 = some (tyJ6 k) := by decide +kernel
abbrev cJ6_numberOfTrailingZeros_0f7a4 : ByteArray := prog_26_method_48_code
def yJ6_numberOfTrailingZeros_0f7a4 : MethodName := ⟨RJ6, "numberOfTrailingZeros", "(I)I"⟩
abbrev cJ6_bitCount_0f7a4 : ByteArray := prog_26_method_49_code
def yJ6_bitCount_0f7a4 : MethodName := ⟨RJ6, "bitCount", "(I)I"⟩
def RJxab1ab : String := "java/lang/Iterable"
def TJxab1ab : u_T := fun k => match k with
  | _ => ("", "", "", false)
def tyJxab1ab : Nat → FieldType := fun k => match k with
  | _ => .int
abbrev wsJxab1ab0 : List Cond := u_ws RJxab1ab TJxab1ab 0
theorem nmJxab1ab : ∀ a, a < 0 → ∀ b, b < 0 → a ≠ b → (TJxab1ab a).2.1 ≠ (TJxab1ab b).2.1 := by decide +kernel
theorem tyJxab1ab_ok : ∀ k, k < 0 → parseFieldDescriptor (TJxab1ab k).2.2.1 = some (tyJxab1ab k) := by decide +kernel
def RJ9 : String := "java/lang/Math"
def TJ9 : u_T := fun k => match k with
  | _ => ("", "", "", false)
def tyJ9 : Nat → FieldType := fun k => match k with
  | _ => .int
abbrev wsJ90 : List Cond := u_ws RJ9 TJ9 0
theorem nmJ9 : ∀ a, a < 0 → ∀ b, b < 0 → a ≠ b → (TJ9 a).2.1 ≠ (TJ9 b).2.1 := by decide +kernel
theorem tyJ9_ok : ∀ k, k < 0 → parseFieldDescriptor (TJ9 k).2.2.1 = some (tyJ9 k) := by decide +kernel
abbrev cJ9_floorDiv_f86c9 : ByteArray := prog_28_method_49_code
def yJ9_floorDiv_f86c9 : MethodName := ⟨RJ9, "floorDiv", "(JJ)J"⟩
abbrev cJ9_floorMod_f86c9 : ByteArray := prog_28_method_52_code
def yJ9_floorMod_f86c9 : MethodName := ⟨RJ9, "floorMod", "(JJ)J"⟩
abbrev cJ9_abs_067f4 : ByteArray := prog_28_method_61_code
def yJ9_abs_067f4 : MethodName := ⟨RJ9, "abs", "(J)J"⟩
abbrev cJ9_max_7cf53 : ByteArray := prog_28_method_65_code
def yJ9_max_7cf53 : MethodName := ⟨RJ9, "max", "(II)I"⟩
abbrev cJ9_min_7cf53 : ByteArray := prog_28_method_69_code
def yJ9_min_7cf53 : MethodName := ⟨RJ9, "min", "(II)I"⟩
abbrev cJ9_min_f86c9 : ByteArray := prog_28_method_70_code
def yJ9_min_f86c9 : MethodName := ⟨RJ9, "min", "(JJ)J"⟩
def RJ0 : String := "java/lang/String"
def TJ0 : u_T := fun k => match k with
  | 0 => ("java/lang/String", "value", "[B", true)
  | _ => ("java/lang/String", "coder", "B", true)
def tyJ0 : Nat → FieldType := fun k => match k with
  | 0 => .array .byte
  | _ => .byte
abbrev wsJ00 : List Cond := u_ws RJ0 TJ0 2
theorem nmJ0 : ∀ a, a < 2 → ∀ b, b < 2 → a ≠ b → (TJ0 a).2.1 ≠ (TJ0 b).2.1 := by decide +kernel
theorem tyJ0_ok : ∀ k, k < 2 → parseFieldDescriptor (TJ0 k).2.2.1 = some (tyJ0 k) := by decide +kernel
abbrev cJ0_length_8abf5 : ByteArray := prog_30_method_54_code
def yJ0_length_8abf5 : MethodName := ⟨RJ0, "length", "()I"⟩
abbrev cJ0_indexOf_0f7a4 : ByteArray := prog_30_method_79_code
def yJ0_indexOf_0f7a4 : MethodName := ⟨RJ0, "indexOf", "(I)I"⟩
abbrev cJ0_indexOf_7cf53 : ByteArray := prog_30_method_80_code
def yJ0_indexOf_7cf53 : MethodName := ⟨RJ0, "indexOf", "(II)I"⟩
abbrev cJ0_coder_7d493 : ByteArray := prog_30_method_152_code
def yJ0_coder_7d493 : MethodName := ⟨RJ0, "coder", "()B"⟩
abbrev cJ0_isLatin1_aae02 : ByteArray := prog_30_method_154_code
def yJ0_isLatin1_aae02 : MethodName := ⟨RJ0, "isLatin1", "()Z"⟩
abbrev cJ0_checkBoundsBeginEnd_23922 : ByteArray := prog_30_method_158_code
def yJ0_checkBoundsBeginEnd_23922 : MethodName := ⟨RJ0, "checkBoundsBeginEnd", "(III)V"⟩
def RJ1 : String := "java/lang/StringLatin1"
def TJ1 : u_T := fun k => match k with
  | _ => ("", "", "", false)
def tyJ1 : Nat → FieldType := fun k => match k with
  | _ => .int
abbrev wsJ10 : List Cond := u_ws RJ1 TJ1 0
theorem nmJ1 : ∀ a, a < 0 → ∀ b, b < 0 → a ≠ b → (TJ1 a).2.1 ≠ (TJ1 b).2.1 := by decide +kernel
theorem tyJ1_ok : ∀ k, k < 0 → parseFieldDescriptor (TJ1 k).2.2.1 = some (tyJ1 k) := by decide +kernel
abbrev cJ1_canEncode_9a6ad : ByteArray := prog_31_method_4_code
def yJ1_canEncode_9a6ad : MethodName := ⟨RJ1, "canEncode", "(I)Z"⟩
abbrev cJ1_indexOf_4cfef : ByteArray := prog_31_method_22_code
def yJ1_indexOf_4cfef : MethodName := ⟨RJ1, "indexOf", "([BIII)I"⟩
abbrev cJ1_indexOfChar_4cfef : ByteArray := prog_31_method_23_code
def yJ1_indexOfChar_4cfef : MethodName := ⟨RJ1, "indexOfChar", "([BIII)I"⟩
def RJ2 : String := "java/lang/StringUTF16"
def TJ2 : u_T := fun k => match k with
  | _ => ("", "", "", false)
def tyJ2 : Nat → FieldType := fun k => match k with
  | _ => .int
abbrev wsJ20 : List Cond := u_ws RJ2 TJ2 0
theorem nmJ2 : ∀ a, a < 0 → ∀ b, b < 0 → a ≠ b → (TJ2 a).2.1 ≠ (TJ2 b).2.1 := by decide +kernel
theorem tyJ2_ok : ∀ k, k < 0 → parseFieldDescriptor (TJ2 k).2.2.1 = some (tyJ2 k) := by decide +kernel
abbrev cJ2_getChar_3b067 : ByteArray := prog_32_method_5_code
def yJ2_getChar_3b067 : MethodName := ⟨RJ2, "getChar", "([BI)C"⟩
abbrev cJ2_length_9d52b : ByteArray := prog_32_method_6_code
def yJ2_length_9d52b : MethodName := ⟨RJ2, "length", "([B)I"⟩
abbrev cJ2_indexOf_4cfef : ByteArray := prog_32_method_40_code
def yJ2_indexOf_4cfef : MethodName := ⟨RJ2, "indexOf", "([BIII)I"⟩
abbrev cJ2_indexOfChar_4cfef : ByteArray := prog_32_method_47_code
def yJ2_indexOfChar_4cfef : MethodName := ⟨RJ2, "indexOfChar", "([BIII)I"⟩
abbrev cJ2_indexOfCharUnsafe_4cfef : ByteArray := prog_32_method_48_code
def yJ2_indexOfCharUnsafe_4cfef : MethodName := ⟨RJ2, "indexOfCharUnsafe", "([BIII)I"⟩
abbrev cJ2_indexOfSupplementary_4cfef : ByteArray := prog_32_method_49_code
def yJ2_indexOfSupplementary_4cfef : MethodName := ⟨RJ2, "indexOfSupplementary", "([BIII)I"⟩
abbrev cJ2_checkBoundsBeginEnd_d044e : ByteArray := prog_32_method_93_code
def yJ2_checkBoundsBeginEnd_d044e : MethodName := ⟨RJ2, "checkBoundsBeginEnd", "(II[B)V"⟩
def RJ10 : String := "java/lang/System"
def TJ10 : u_T := fun k => match k with
  | _ => ("", "", "", false)
def tyJ10 : Nat → FieldType := fun k => match k with
  | _ => .int
abbrev wsJ100 : List Cond := u_ws RJ10 TJ10 0
theorem nmJ10 : ∀ a, a < 0 → ∀ b, b < 0 → a ≠ b → (TJ10 a).2.1 ≠ (TJ10 b).2.1 := by decide +kernel
theorem tyJ10_ok : ∀ k, k < 0 → parseFieldDescriptor (TJ10 k).2.2.1 = some (tyJ10 k) := by decide +kernel
def RJxfd54e : String := "java/lang/constant/Constable"
def TJxfd54e : u_T := fun k => match k with
  | _ => ("", "", "", false)
def tyJxfd54e : Nat → FieldType := fun k => match k with
  | _ => .int
abbrev wsJxfd54e0 : List Cond := u_ws RJxfd54e TJxfd54e 0
theorem nmJxfd54e : ∀ a, a < 0 → ∀ b, b < 0 → a ≠ b → (TJxfd54e a).2.1 ≠ (TJxfd54e b).2.1 := by decide +kernel
theorem tyJxfd54e_ok : ∀ k, k < 0 → parseFieldDescriptor (TJxfd54e k).2.2.1 = some (tyJxfd54e k) := by decide +kernel
def RJx3cf43 : String := "java/lang/constant/ConstantDesc"
def TJx3cf43 : u_T := fun k => match k with
  | _ => ("", "", "", false)
def tyJx3cf43 : Nat → FieldType := fun k => match k with
  | _ => .int
abbrev wsJx3cf430 : List Cond := u_ws RJx3cf43 TJx3cf43 0
theorem nmJx3cf43 : ∀ a, a < 0 → ∀ b, b < 0 → a ≠ b → (TJx3cf43 a).2.1 ≠ (TJx3cf43 b).2.1 := by decide +kernel
theorem tyJx3cf43_ok : ∀ k, k < 0 → parseFieldDescriptor (TJx3cf43 k).2.2.1 = some (tyJx3cf43 k) := by decide +kernel
def RJxa1e45 : String := "java/util/AbstractCollection"
def TJxa1e45 : u_T := fun k => match k with
  | _ => ("", "", "", false)
def tyJxa1e45 : Nat → FieldType := fun k => match k with
  | _ => .int
abbrev wsJxa1e450 : List Cond := u_ws RJxa1e45 TJxa1e45 0
theorem nmJxa1e45 : ∀ a, a < 0 → ∀ b, b < 0 → a ≠ b → (TJxa1e45 a).2.1 ≠ (TJxa1e45 b).2.1 := by decide +kernel
theorem tyJxa1e45_ok : ∀ k, k < 0 → parseFieldDescriptor (TJxa1e45 k).2.2.1 = some (tyJxa1e45 k) := by decide +kernel
abbrev cJxa1e45_init_da8c8 : ByteArray := prog_38_method_1_code
def yJxa1e45_init_da8c8 : MethodName := ⟨RJxa1e45, "<init>", "()V"⟩
def RJxc12de : String := "java/util/AbstractList"
def TJxc12de : u_T := fun k => match k with
  | _ => ("", "", "", false)
def tyJxc12de : Nat → FieldType := fun k => match k with
  | _ => .int
abbrev wsJxc12de0 : List Cond := u_ws RJxc12de TJxc12de 0
theorem nmJxc12de : ∀ a, a < 0 → ∀ b, b < 0 → a ≠ b → (TJxc12de a).2.1 ≠ (TJxc12de b).2.1 := by decide +kernel
theorem tyJxc12de_ok : ∀ k, k < 0 → parseFieldDescriptor (TJxc12de k).2.2.1 = some (tyJxc12de k) := by decide +kernel
abbrev cJxc12de_init_da8c8 : ByteArray := prog_39_method_1_code
def yJxc12de_init_da8c8 : MethodName := ⟨RJxc12de, "<init>", "()V"⟩
def RJx4a65c : String := "java/util/ArrayList"
def TJx4a65c : u_T := fun k => match k with
  | 0 => ("java/util/AbstractList", "modCount", "I", false)
  | 1 => ("java/util/ArrayList", "elementData", "[Ljava/lang/Object;", false)
  | _ => ("java/util/ArrayList", "size", "I", false)
def tyJx4a65c : Nat → FieldType := fun k => match k with
  | 0 => .int
  | 1 => .array (.object "java/lang/Object")
  | _ => .int
abbrev wsJx4a65c0 : List Cond := u_ws RJx4a65c TJx4a65c 3
theorem nmJx4a65c : ∀ a, a < 3 → ∀ b, b < 3 → a ≠ b → (TJx4a65c a).2.1 ≠ (TJx4a65c b).2.1 := by decide +kernel
theorem tyJx4a65c_ok : ∀ k, k < 3 → parseFieldDescriptor (TJx4a65c k).2.2.1 = some (tyJx4a65c k) := by decide +kernel
abbrev cJx4a65c_init_da8c8 : ByteArray := prog_40_method_2_code
def yJx4a65c_init_da8c8 : MethodName := ⟨RJx4a65c, "<init>", "()V"⟩
abbrev cJx4a65c_grow_92f84 : ByteArray := prog_40_method_6_code
def yJx4a65c_grow_92f84 : MethodName := ⟨RJx4a65c, "grow", "(I)[Ljava/lang/Object;"⟩
abbrev cJx4a65c_grow_d5877 : ByteArray := prog_40_method_7_code
def yJx4a65c_grow_d5877 : MethodName := ⟨RJx4a65c, "grow", "()[Ljava/lang/Object;"⟩
abbrev cJx4a65c_size_8abf5 : ByteArray := prog_40_method_8_code
def yJx4a65c_size_8abf5 : MethodName := ⟨RJx4a65c, "size", "()I"⟩
abbrev cJx4a65c_isEmpty_aae02 : ByteArray := prog_40_method_9_code
def yJx4a65c_isEmpty_aae02 : MethodName := ⟨RJx4a65c, "isEmpty", "()Z"⟩
abbrev cJx4a65c_elementData_915e3 : ByteArray := prog_40_method_18_code
def yJx4a65c_elementData_915e3 : MethodName := ⟨RJx4a65c, "elementData", "(I)Ljava/lang/Object;"⟩
abbrev cJx4a65c_get_915e3 : ByteArray := prog_40_method_20_code
def yJx4a65c_get_915e3 : MethodName := ⟨RJx4a65c, "get", "(I)Ljava/lang/Object;"⟩
abbrev cJx4a65c_add_72be8 : ByteArray := prog_40_method_24_code
def yJx4a65c_add_72be8 : MethodName := ⟨RJx4a65c, "add", "(Ljava/lang/Object;[Ljava/lang/Object;I)V"⟩
abbrev cJx4a65c_add_9ea2d : ByteArray := prog_40_method_25_code
def yJx4a65c_add_9ea2d : MethodName := ⟨RJx4a65c, "add", "(Ljava/lang/Object;)Z"⟩
def RJ7 : String := "java/util/Arrays"
def TJ7 : u_T := fun k => match k with
  | _ => ("", "", "", false)
def tyJ7 : Nat → FieldType := fun k => match k with
  | _ => .int
abbrev wsJ70 : List Cond := u_ws RJ7 TJ7 0
theorem nmJ7 : ∀ a, a < 0 → ∀ b, b < 0 → a ≠ b → (TJ7 a).2.1 ≠ (TJ7 b).2.1 := by decide +kernel
theorem tyJ7_ok : ∀ k, k < 0 → parseFieldDescriptor (TJ7 k).2.2.1 = some (tyJ7 k) := by decide +kernel
abbrev cJ7_copyOf_1904c : ByteArray := prog_41_method_119_code
def yJ7_copyOf_1904c : MethodName := ⟨RJ7, "copyOf", "([Ljava/lang/Object;I)[Ljava/lang/Object;"⟩
abbrev cJ7_copyOf_6403c : ByteArray := prog_41_method_120_code
def yJ7_copyOf_6403c : MethodName := ⟨RJ7, "copyOf", "([Ljava/lang/Object;ILjava/lang/Class;)[Ljava/lang/Object;"⟩
def RJx5ef63 : String := "java/util/Collection"
def TJx5ef63 : u_T := fun k => match k with
  | _ => ("", "", "", false)
def tyJx5ef63 : Nat → FieldType := fun k => match k with
  | _ => .int
abbrev wsJx5ef630 : List Cond := u_ws RJx5ef63 TJx5ef63 0
theorem nmJx5ef63 : ∀ a, a < 0 → ∀ b, b < 0 → a ≠ b → (TJx5ef63 a).2.1 ≠ (TJx5ef63 b).2.1 := by decide +kernel
theorem tyJx5ef63_ok : ∀ k, k < 0 → parseFieldDescriptor (TJx5ef63 k).2.2.1 = some (tyJx5ef63 k) := by decide +kernel
def RJxbd725 : String := "java/util/List"
def TJxbd725 : u_T := fun k => match k with
  | _ => ("", "", "", false)
def tyJxbd725 : Nat → FieldType := fun k => match k with
  | _ => .int
abbrev wsJxbd7250 : List Cond := u_ws RJxbd725 TJxbd725 0
theorem nmJxbd725 : ∀ a, a < 0 → ∀ b, b < 0 → a ≠ b → (TJxbd725 a).2.1 ≠ (TJxbd725 b).2.1 := by decide +kernel
theorem tyJxbd725_ok : ∀ k, k < 0 → parseFieldDescriptor (TJxbd725 k).2.2.1 = some (tyJxbd725 k) := by decide +kernel
def RJ15 : String := "java/util/Objects"
def TJ15 : u_T := fun k => match k with
  | _ => ("", "", "", false)
def tyJ15 : Nat → FieldType := fun k => match k with
  | _ => .int
abbrev wsJ150 : List Cond := u_ws RJ15 TJ15 0
theorem nmJ15 : ∀ a, a < 0 → ∀ b, b < 0 → a ≠ b → (TJ15 a).2.1 ≠ (TJ15 b).2.1 := by decide +kernel
theorem tyJ15_ok : ∀ k, k < 0 → parseFieldDescriptor (TJ15 k).2.2.1 = some (tyJ15 k) := by decide +kernel
abbrev cJ15_checkIndex_7cf53 : ByteArray := prog_45_method_17_code
def yJ15_checkIndex_7cf53 : MethodName := ⟨RJ15, "checkIndex", "(II)I"⟩
def RJxf0a74 : String := "java/util/RandomAccess"
def TJxf0a74 : u_T := fun k => match k with
  | _ => ("", "", "", false)
def tyJxf0a74 : Nat → FieldType := fun k => match k with
  | _ => .int
abbrev wsJxf0a740 : List Cond := u_ws RJxf0a74 TJxf0a74 0
theorem nmJxf0a74 : ∀ a, a < 0 → ∀ b, b < 0 → a ≠ b → (TJxf0a74 a).2.1 ≠ (TJxf0a74 b).2.1 := by decide +kernel
theorem tyJxf0a74_ok : ∀ k, k < 0 → parseFieldDescriptor (TJxf0a74 k).2.2.1 = some (tyJxf0a74 k) := by decide +kernel
def RJxa66e6 : String := "java/util/SequencedCollection"
def TJxa66e6 : u_T := fun k => match k with
  | _ => ("", "", "", false)
def tyJxa66e6 : Nat → FieldType := fun k => match k with
  | _ => .int
abbrev wsJxa66e60 : List Cond := u_ws RJxa66e6 TJxa66e6 0
theorem nmJxa66e6 : ∀ a, a < 0 → ∀ b, b < 0 → a ≠ b → (TJxa66e6 a).2.1 ≠ (TJxa66e6 b).2.1 := by decide +kernel
theorem tyJxa66e6_ok : ∀ k, k < 0 → parseFieldDescriptor (TJxa66e6 k).2.2.1 = some (tyJxa66e6 k) := by decide +kernel
def RJ8 : String := "jdk/internal/util/ArraysSupport"
def TJ8 : u_T := fun k => match k with
  | _ => ("", "", "", false)
def tyJ8 : Nat → FieldType := fun k => match k with
  | _ => .int
abbrev wsJ80 : List Cond := u_ws RJ8 TJ8 0
theorem nmJ8 : ∀ a, a < 0 → ∀ b, b < 0 → a ≠ b → (TJ8 a).2.1 ≠ (TJ8 b).2.1 := by decide +kernel
theorem tyJ8_ok : ∀ k, k < 0 → parseFieldDescriptor (TJ8 k).2.2.1 = some (tyJ8 k) := by decide +kernel
abbrev cJ8_newLength_cabcc : ByteArray := prog_48_method_27_code
def yJ8_newLength_cabcc : MethodName := ⟨RJ8, "newLength", "(III)I"⟩
abbrev cJ8_hugeLength_7cf53 : ByteArray := prog_48_method_28_code
def yJ8_hugeLength_7cf53 : MethodName := ⟨RJ8, "hugeLength", "(II)I"⟩
def RJ3 : String := "jdk/internal/util/Preconditions"
def TJ3 : u_T := fun k => match k with
  | _ => ("", "", "", false)
def tyJ3 : Nat → FieldType := fun k => match k with
  | _ => .int
abbrev wsJ30 : List Cond := u_ws RJ3 TJ3 0
theorem nmJ3 : ∀ a, a < 0 → ∀ b, b < 0 → a ≠ b → (TJ3 a).2.1 ≠ (TJ3 b).2.1 := by decide +kernel
theorem tyJ3_ok : ∀ k, k < 0 → parseFieldDescriptor (TJ3 k).2.2.1 = some (tyJ3 k) := by decide +kernel
abbrev cJ3_checkIndex_8e157 : ByteArray := prog_49_method_11_code
def yJ3_checkIndex_8e157 : MethodName := ⟨RJ3, "checkIndex", "(IILjava/util/function/BiFunction;)I"⟩
abbrev cJ3_checkFromToIndex_8c36e : ByteArray := prog_49_method_12_code
def yJ3_checkFromToIndex_8c36e : MethodName := ⟨RJ3, "checkFromToIndex", "(IIILjava/util/function/BiFunction;)I"⟩
def RL : String := "TenonyardLaw"
abbrev cL_node : ByteArray := method_3_code
def yL_node : MethodName := ⟨RL, "node", "(LTenonyard;IIC[J)I"⟩
abbrev cL_member : ByteArray := method_4_code
def yL_member : MethodName := ⟨RL, "member", "(LTenonyard;IIII[J)I"⟩
abbrev cL_load : ByteArray := method_5_code
def yL_load : MethodName := ⟨RL, "load", "(LTenonyard;III[J)I"⟩
abbrev cL_force : ByteArray := method_6_code
def yL_force : MethodName := ⟨RL, "force", "(LTenonyard;I[J)I"⟩
abbrev cL_pull : ByteArray := method_7_code
def yL_pull : MethodName := ⟨RL, "pull", "(LTenonyard;I[J)I"⟩
abbrev cL_bearing : ByteArray := method_8_code
def yL_bearing : MethodName := ⟨RL, "bearing", "(LTenonyard;IZ[J)I"⟩
abbrev cL_isBalanced : ByteArray := method_9_code
def yL_isBalanced : MethodName := ⟨RL, "isBalanced", "(LTenonyard;I[J)I"⟩
abbrev cL_weakest : ByteArray := method_10_code
def yL_weakest : MethodName := ⟨RL, "weakest", "(LTenonyard;[J)I"⟩
abbrev cL_joint : ByteArray := method_11_code
def yL_joint : MethodName := ⟨RL, "joint", "(LTenonyard;IICII[J)I"⟩
abbrev cL_isRight : ByteArray := method_12_code
def yL_isRight : MethodName := ⟨RL, "isRight", "(LTenonyard;I[J)I"⟩
abbrev cL_misread : ByteArray := method_13_code
def yL_misread : MethodName := ⟨RL, "misread", "(LTenonyard;I[J)I"⟩
abbrev cL_cutAt : ByteArray := method_14_code
def yL_cutAt : MethodName := ⟨RL, "cutAt", "(LTenonyard;II[J)I"⟩
abbrev cL_dry : ByteArray := method_15_code
def yL_dry : MethodName := ⟨RL, "dry", "(LTenonyard;II[J)I"⟩
abbrev cL_gap : ByteArray := method_16_code
def yL_gap : MethodName := ⟨RL, "gap", "(LTenonyard;I[J)I"⟩
abbrev cL_widest : ByteArray := method_17_code
def yL_widest : MethodName := ⟨RL, "widest", "(LTenonyard;[J)I"⟩
abbrev cL_stick : ByteArray := method_18_code
def yL_stick : MethodName := ⟨RL, "stick", "(LTenonyard;III[J)I"⟩
abbrev cL_piece : ByteArray := method_19_code
def yL_piece : MethodName := ⟨RL, "piece", "(LTenonyard;I[J)I"⟩
abbrev cL_stickOf : ByteArray := method_20_code
def yL_stickOf : MethodName := ⟨RL, "stickOf", "(LTenonyard;I[J)I"⟩
abbrev cL_wood : ByteArray := method_21_code
def yL_wood : MethodName := ⟨RL, "wood", "(LTenonyard;[J)I"⟩
abbrev cL_waste : ByteArray := method_22_code
def yL_waste : MethodName := ⟨RL, "waste", "(LTenonyard;I[J)I"⟩
abbrev cL_setProps : ByteArray := method_23_code
def yL_setProps : MethodName := ⟨RL, "setProps", "(LTenonyard;I[J)I"⟩
abbrev cL_raised : ByteArray := method_24_code
def yL_raised : MethodName := ⟨RL, "raised", "(LTenonyard;I[J)I"⟩
abbrev cL_props : ByteArray := method_25_code
def yL_props : MethodName := ⟨RL, "props", "(LTenonyard;I[J)I"⟩
abbrev cL_stuck : ByteArray := method_26_code
def yL_stuck : MethodName := ⟨RL, "stuck", "(LTenonyard;[J)I"⟩
abbrev cL_allForce : ByteArray := method_27_code
def yL_allForce : MethodName := ⟨RL, "allForce", "(LTenonyard;[J)I"⟩
abbrev cL_rightShare : ByteArray := method_28_code
def yL_rightShare : MethodName := ⟨RL, "rightShare", "(LTenonyard;[D)I"⟩
abbrev cL_meanPull : ByteArray := method_29_code
def yL_meanPull : MethodName := ⟨RL, "meanPull", "(LTenonyard;[D)I"⟩
abbrev cL_law : ByteArray := code
def yL_law : MethodName := ⟨RL, "law", "([I)Z"⟩
abbrev vwCl : List vw_C := [(RJ0, TJ0, 2), (RJx00060, TJx00060, 6), (RJx4a65c, TJx4a65c, 3), (RX0, TX0, 11), (RX1, TX1, 17), (RX2, TX2, 12), (RX3, TX3, 6), (RX4, TX4, 9), (RX5, TX5, 1), (RX6, TX6, 5), (RX7, TX7, 5), (RX8, TX8, 6), (RX9, TX9, 6), (RX10, TX10, 3), (RX11, TX11, 1), (RX12, TX12, 27)]
