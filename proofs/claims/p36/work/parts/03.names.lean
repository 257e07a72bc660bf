/-! ===== BEGIN printed: names, fields, word lists, decode rows ===== -/
def RX0 : String := "Tenonyard$Cutting"
def TX0 : u_T := fun k => match k with
  | 0 => ("Tenonyard$Cutting", "count", "I", false)
  | 1 => ("Tenonyard$Cutting", "isFound", "Z", false)
  | 2 => ("Tenonyard$Cutting", "canCut", "Z", false)
  | 3 => ("Tenonyard$Cutting", "usedLength", "I", false)
  | 4 => ("Tenonyard$Cutting", "chosen", "[I", true)
  | 5 => ("Tenonyard$Cutting", "lengths", "[I", true)
  | 6 => ("Tenonyard$Cutting", "breadths", "[I", true)
  | 7 => ("Tenonyard$Cutting", "grades", "[I", true)
  | 8 => ("Tenonyard$Cutting", "spans", "[I", true)
  | 9 => ("Tenonyard$Cutting", "weights", "[I", true)
  | _ => ("Tenonyard$Cutting", "costs", "[J", true)
def tyX0 : Nat → FieldType := fun k => match k with
  | 0 => .int
  | 1 => .boolean
  | 2 => .boolean
  | 3 => .int
  | 4 => .array .int
  | 5 => .array .int
  | 6 => .array .int
  | 7 => .array .int
  | 8 => .array .int
  | 9 => .array .int
  | _ => .array .long
abbrev wsX00 : List Cond := u_ws RX0 TX0 11
theorem nmX0 : ∀ a, a < 11 → ∀ b, b < 11 → a ≠ b → (TX0 a).2.1 ≠ (TX0 b).2.1 := by decide +kernel
theorem tyX0_ok : ∀ k, k < 11 → parseFieldDescriptor (TX0 k).2.2.1 = some (tyX0 k) := by decide +kernel
abbrev cX0_init : ByteArray := prog_2_method_1_code
def yX0_init : MethodName := ⟨RX0, "<init>", "()V"⟩
abbrev cX0_add : ByteArray := prog_2_method_2_code
def yX0_add : MethodName := ⟨RX0, "add", "(III)I"⟩
abbrev cX0_pieceLength : ByteArray := prog_2_method_3_code
def yX0_pieceLength : MethodName := ⟨RX0, "pieceLength", "(ILTenonyard$Frame;LTenonyard$Joinery;)I"⟩
abbrev cX0_find : ByteArray := prog_2_method_4_code
def yX0_find : MethodName := ⟨RX0, "find", "(LTenonyard$Frame;LTenonyard$Joinery;)V"⟩
abbrev cX0_measure : ByteArray := prog_2_method_5_code
def yX0_measure : MethodName := ⟨RX0, "measure", "(LTenonyard$Frame;LTenonyard$Joinery;)V"⟩
abbrev cX0_fitting : ByteArray := prog_2_method_6_code
def yX0_fitting : MethodName := ⟨RX0, "fitting", "(ILTenonyard$Frame;)I"⟩
abbrev cX0_offer : ByteArray := prog_2_method_7_code
def yX0_offer : MethodName := ⟨RX0, "offer", "(III)V"⟩
abbrev cX0_choose : ByteArray := prog_2_method_8_code
def yX0_choose : MethodName := ⟨RX0, "choose", "(J)V"⟩
abbrev cX0_leftOf : ByteArray := prog_2_method_9_code
def yX0_leftOf : MethodName := ⟨RX0, "leftOf", "(II)I"⟩
def RX1 : String := "Tenonyard$Forces"
def TX1 : u_T := fun k => match k with
  | 0 => ("Tenonyard$Forces", "isFound", "Z", false)
  | 1 => ("Tenonyard$Forces", "outcome", "C", false)
  | 2 => ("Tenonyard$Forces", "divisor", "J", false)
  | 3 => ("Tenonyard$Forces", "wholes", "[J", true)
  | 4 => ("Tenonyard$Forces", "rests", "[J", true)
  | 5 => ("Tenonyard$Forces", "amounts", "[J", true)
  | 6 => ("Tenonyard$Forces", "ways", "[I", true)
  | 7 => ("Tenonyard$Forces", "highAsked", "[I", true)
  | 8 => ("Tenonyard$Forces", "lowAsked", "[I", true)
  | 9 => ("Tenonyard$Forces", "plain", "[J", true)
  | 10 => ("Tenonyard$Forces", "high", "[J", true)
  | 11 => ("Tenonyard$Forces", "low", "[J", true)
  | 12 => ("Tenonyard$Forces", "factor", "LTenonyard$Wide;", true)
  | 13 => ("Tenonyard$Forces", "wideDivisor", "LTenonyard$Wide;", true)
  | 14 => ("Tenonyard$Forces", "product", "LTenonyard$Wide;", true)
  | 15 => ("Tenonyard$Forces", "square", "LTenonyard$Wide;", true)
  | _ => ("Tenonyard$Forces", "greatestSquare", "LTenonyard$Wide;", true)
def tyX1 : Nat → FieldType := fun k => match k with
  | 0 => .boolean
  | 1 => .char
  | 2 => .long
  | 3 => .array .long
  | 4 => .array .long
  | 5 => .array .long
  | 6 => .array .int
  | 7 => .array .int
  | 8 => .array .int
  | 9 => .array .long
  | 10 => .array .long
  | 11 => .array .long
  | 12 => .object "Tenonyard$Wide"
  | 13 => .object "Tenonyard$Wide"
  | 14 => .object "Tenonyard$Wide"
  | 15 => .object "Tenonyard$Wide"
  | _ => .object "Tenonyard$Wide"
abbrev wsX10 : List Cond := u_ws RX1 TX1 17
theorem nmX1 : ∀ a, a < 17 → ∀ b, b < 17 → a ≠ b → (TX1 a).2.1 ≠ (TX1 b).2.1 := by decide +kernel
theorem tyX1_ok : ∀ k, k < 17 → parseFieldDescriptor (TX1 k).2.2.1 = some (tyX1 k) := by decide +kernel
abbrev cX1_init : ByteArray := prog_3_method_1_code
def yX1_init : MethodName := ⟨RX1, "<init>", "()V"⟩
abbrev cX1_bearingIndex : ByteArray := prog_3_method_2_code
def yX1_bearingIndex : MethodName := ⟨RX1, "bearingIndex", "(II)I"⟩
abbrev cX1_find : ByteArray := prog_3_method_3_code
def yX1_find : MethodName := ⟨RX1, "find", "(LTenonyard$Frame;)V"⟩
abbrev cX1_findPulls : ByteArray := prog_3_method_4_code
def yX1_findPulls : MethodName := ⟨RX1, "findPulls", "(LTenonyard$Frame;)C"⟩
abbrev cX1_fillRows : ByteArray := prog_3_method_5_code
def yX1_fillRows : MethodName := ⟨RX1, "fillRows", "(LTenonyard$Frame;)V"⟩
abbrev cX1_findDeterminants : ByteArray := prog_3_method_6_code
def yX1_findDeterminants : MethodName := ⟨RX1, "findDeterminants", "(I)V"⟩
abbrev cX1_expanded : ByteArray := prog_3_method_7_code
def yX1_expanded : MethodName := ⟨RX1, "expanded", "([JII)J"⟩
abbrev cX1_setPull : ByteArray := prog_3_method_8_code
def yX1_setPull : MethodName := ⟨RX1, "setPull", "(III)V"⟩
abbrev cX1_carry : ByteArray := prog_3_method_9_code
def yX1_carry : MethodName := ⟨RX1, "carry", "(I)V"⟩
abbrev cX1_findBearings : ByteArray := prog_3_method_10_code
def yX1_findBearings : MethodName := ⟨RX1, "findBearings", "(LTenonyard$Frame;)V"⟩
abbrev cX1_findAmounts : ByteArray := prog_3_method_11_code
def yX1_findAmounts : MethodName := ⟨RX1, "findAmounts", "(LTenonyard$Frame;)V"⟩
abbrev cX1_timesLength : ByteArray := prog_3_method_12_code
def yX1_timesLength : MethodName := ⟨RX1, "timesLength", "(JJI)J"⟩
abbrev cX1_thousandths : ByteArray := prog_3_method_13_code
def yX1_thousandths : MethodName := ⟨RX1, "thousandths", "(I)J"⟩
abbrev cX1_restInThousandths : ByteArray := prog_3_method_14_code
def yX1_restInThousandths : MethodName := ⟨RX1, "restInThousandths", "(I)J"⟩
abbrev cX1_sumOfThousandths : ByteArray := prog_3_method_15_code
def yX1_sumOfThousandths : MethodName := ⟨RX1, "sumOfThousandths", "(I)D"⟩
abbrev cX1_holdsAt : ByteArray := prog_3_method_16_code
def yX1_holdsAt : MethodName := ⟨RX1, "holdsAt", "(LTenonyard$Frame;I)Z"⟩
abbrev cX1_holdsAlong : ByteArray := prog_3_method_17_code
def yX1_holdsAlong : MethodName := ⟨RX1, "holdsAlong", "(LTenonyard$Frame;II)Z"⟩
def RX2 : String := "Tenonyard$Frame"
def TX2 : u_T := fun k => match k with
  | 0 => ("Tenonyard$Frame", "nodes", "I", false)
  | 1 => ("Tenonyard$Frame", "members", "I", false)
  | 2 => ("Tenonyard$Frame", "places", "[I", true)
  | 3 => ("Tenonyard$Frame", "loads", "[I", true)
  | 4 => ("Tenonyard$Frame", "loadCounts", "[I", true)
  | 5 => ("Tenonyard$Frame", "kinds", "[C", true)
  | 6 => ("Tenonyard$Frame", "firstNodes", "[I", true)
  | 7 => ("Tenonyard$Frame", "secondNodes", "[I", true)
  | 8 => ("Tenonyard$Frame", "breadths", "[I", true)
  | 9 => ("Tenonyard$Frame", "grades", "[I", true)
  | 10 => ("Tenonyard$Frame", "cutMoistures", "[I", true)
  | _ => ("Tenonyard$Frame", "driedMoistures", "[I", true)
def tyX2 : Nat → FieldType := fun k => match k with
  | 0 => .int
  | 1 => .int
  | 2 => .array .int
  | 3 => .array .int
  | 4 => .array .int
  | 5 => .array .char
  | 6 => .array .int
  | 7 => .array .int
  | 8 => .array .int
  | 9 => .array .int
  | 10 => .array .int
  | _ => .array .int
abbrev wsX20 : List Cond := u_ws RX2 TX2 12
theorem nmX2 : ∀ a, a < 12 → ∀ b, b < 12 → a ≠ b → (TX2 a).2.1 ≠ (TX2 b).2.1 := by decide +kernel
theorem tyX2_ok : ∀ k, k < 12 → parseFieldDescriptor (TX2 k).2.2.1 = some (tyX2 k) := by decide +kernel
abbrev cX2_init : ByteArray := prog_4_method_1_code
def yX2_init : MethodName := ⟨RX2, "<init>", "()V"⟩
abbrev cX2_addNode : ByteArray := prog_4_method_2_code
def yX2_addNode : MethodName := ⟨RX2, "addNode", "(IIC)I"⟩
abbrev cX2_addMember : ByteArray := prog_4_method_3_code
def yX2_addMember : MethodName := ⟨RX2, "addMember", "(IIII)I"⟩
abbrev cX2_addLoad : ByteArray := prog_4_method_4_code
def yX2_addLoad : MethodName := ⟨RX2, "addLoad", "(III)I"⟩
abbrev cX2_isOnePlace : ByteArray := prog_4_method_5_code
def yX2_isOnePlace : MethodName := ⟨RX2, "isOnePlace", "(II)Z"⟩
abbrev cX2_isBorne : ByteArray := prog_4_method_6_code
def yX2_isBorne : MethodName := ⟨RX2, "isBorne", "(II)Z"⟩
abbrev cX2_otherEnd : ByteArray := prog_4_method_7_code
def yX2_otherEnd : MethodName := ⟨RX2, "otherEnd", "(II)I"⟩
abbrev cX2_haveCommonNode : ByteArray := prog_4_method_8_code
def yX2_haveCommonNode : MethodName := ⟨RX2, "haveCommonNode", "(II)Z"⟩
abbrev cX2_wayAlong : ByteArray := prog_4_method_9_code
def yX2_wayAlong : MethodName := ⟨RX2, "wayAlong", "(III)I"⟩
abbrev cX2_lengthSquare : ByteArray := prog_4_method_10_code
def yX2_lengthSquare : MethodName := ⟨RX2, "lengthSquare", "(I)I"⟩
abbrev cX2_isOnGround : ByteArray := prog_4_method_11_code
def yX2_isOnGround : MethodName := ⟨RX2, "isOnGround", "(I)Z"⟩
def RX3 : String := "Tenonyard$Joinery"
def TX3 : u_T := fun k => match k with
  | 0 => ("Tenonyard$Joinery", "count", "I", false)
  | 1 => ("Tenonyard$Joinery", "goingIn", "[I", true)
  | 2 => ("Tenonyard$Joinery", "receiving", "[I", true)
  | 3 => ("Tenonyard$Joinery", "ways", "[I", true)
  | 4 => ("Tenonyard$Joinery", "thicknesses", "[I", true)
  | _ => ("Tenonyard$Joinery", "marks", "[I", true)
def tyX3 : Nat → FieldType := fun k => match k with
  | 0 => .int
  | 1 => .array .int
  | 2 => .array .int
  | 3 => .array .int
  | 4 => .array .int
  | _ => .array .int
abbrev wsX30 : List Cond := u_ws RX3 TX3 6
theorem nmX3 : ∀ a, a < 6 → ∀ b, b < 6 → a ≠ b → (TX3 a).2.1 ≠ (TX3 b).2.1 := by decide +kernel
theorem tyX3_ok : ∀ k, k < 6 → parseFieldDescriptor (TX3 k).2.2.1 = some (tyX3 k) := by decide +kernel
abbrev cX3_init : ByteArray := prog_5_method_1_code
def yX3_init : MethodName := ⟨RX3, "<init>", "()V"⟩
abbrev cX3_wayIndex : ByteArray := prog_5_method_2_code
def yX3_wayIndex : MethodName := ⟨RX3, "wayIndex", "(C)I"⟩
abbrev cX3_add : ByteArray := prog_5_method_3_code
def yX3_add : MethodName := ⟨RX3, "add", "(IIIII)I"⟩
abbrev cX3_areJoined : ByteArray := prog_5_method_4_code
def yX3_areJoined : MethodName := ⟨RX3, "areJoined", "(II)Z"⟩
abbrev cX3_partner : ByteArray := prog_5_method_5_code
def yX3_partner : MethodName := ⟨RX3, "partner", "(II)I"⟩
abbrev cX3_wayFor : ByteArray := prog_5_method_6_code
def yX3_wayFor : MethodName := ⟨RX3, "wayFor", "(II)I"⟩
abbrev cX3_joinsGoingIn : ByteArray := prog_5_method_7_code
def yX3_joinsGoingIn : MethodName := ⟨RX3, "joinsGoingIn", "(I)I"⟩
abbrev cX3_isThinEnough : ByteArray := prog_5_method_8_code
def yX3_isThinEnough : MethodName := ⟨RX3, "isThinEnough", "(ILTenonyard$Frame;)Z"⟩
abbrev cX3_misreadMark : ByteArray := prog_5_method_9_code
def yX3_misreadMark : MethodName := ⟨RX3, "misreadMark", "(I)I"⟩
abbrev cX3_canBeConfused : ByteArray := prog_5_method_10_code
def yX3_canBeConfused : MethodName := ⟨RX3, "canBeConfused", "(II)Z"⟩
abbrev cX3_opening : ByteArray := prog_5_method_11_code
def yX3_opening : MethodName := ⟨RX3, "opening", "(ILTenonyard$Frame;)I"⟩
def RX4 : String := "Tenonyard$Raising"
def TX4 : u_T := fun k => match k with
  | 0 => ("Tenonyard$Raising", "limit", "I", false)
  | 1 => ("Tenonyard$Raising", "isFound", "Z", false)
  | 2 => ("Tenonyard$Raising", "all", "I", false)
  | 3 => ("Tenonyard$Raising", "hanging", "I", false)
  | 4 => ("Tenonyard$Raising", "asking", "[I", true)
  | 5 => ("Tenonyard$Raising", "joined", "[I", true)
  | 6 => ("Tenonyard$Raising", "orderCounts", "[I", true)
  | 7 => ("Tenonyard$Raising", "leadsToAll", "[Z", true)
  | _ => ("Tenonyard$Raising", "order", "[I", true)
def tyX4 : Nat → FieldType := fun k => match k with
  | 0 => .int
  | 1 => .boolean
  | 2 => .int
  | 3 => .int
  | 4 => .array .int
  | 5 => .array .int
  | 6 => .array .int
  | 7 => .array .boolean
  | _ => .array .int
abbrev wsX40 : List Cond := u_ws RX4 TX4 9
theorem nmX4 : ∀ a, a < 9 → ∀ b, b < 9 → a ≠ b → (TX4 a).2.1 ≠ (TX4 b).2.1 := by decide +kernel
theorem tyX4_ok : ∀ k, k < 9 → parseFieldDescriptor (TX4 k).2.2.1 = some (tyX4 k) := by decide +kernel
abbrev cX4_init : ByteArray := prog_6_method_1_code
def yX4_init : MethodName := ⟨RX4, "<init>", "()V"⟩
abbrev cX4_orderCount : ByteArray := prog_6_method_2_code
def yX4_orderCount : MethodName := ⟨RX4, "orderCount", "()I"⟩
abbrev cX4_find : ByteArray := prog_6_method_3_code
def yX4_find : MethodName := ⟨RX4, "find", "(LTenonyard$Frame;LTenonyard$Joinery;)V"⟩
abbrev cX4_gather : ByteArray := prog_6_method_4_code
def yX4_gather : MethodName := ⟨RX4, "gather", "(LTenonyard$Frame;LTenonyard$Joinery;)V"⟩
abbrev cX4_canMoveIn : ByteArray := prog_6_method_5_code
def yX4_canMoveIn : MethodName := ⟨RX4, "canMoveIn", "(II)Z"⟩
abbrev cX4_propsFor : ByteArray := prog_6_method_6_code
def yX4_propsFor : MethodName := ⟨RX4, "propsFor", "(I)I"⟩
abbrev cX4_goForward : ByteArray := prog_6_method_7_code
def yX4_goForward : MethodName := ⟨RX4, "goForward", "(I)V"⟩
abbrev cX4_goBackward : ByteArray := prog_6_method_8_code
def yX4_goBackward : MethodName := ⟨RX4, "goBackward", "(I)V"⟩
abbrev cX4_findOrder : ByteArray := prog_6_method_9_code
def yX4_findOrder : MethodName := ⟨RX4, "findOrder", "(I)V"⟩
abbrev cX4_firstThatLeads : ByteArray := prog_6_method_10_code
def yX4_firstThatLeads : MethodName := ⟨RX4, "firstThatLeads", "(II)I"⟩
abbrev cX4_lowestStuck : ByteArray := prog_6_method_11_code
def yX4_lowestStuck : MethodName := ⟨RX4, "lowestStuck", "()I"⟩
def RX5 : String := "Tenonyard$Wide"
def TX5 : u_T := fun k => match k with
  | _ => ("Tenonyard$Wide", "parts", "[J", true)
def tyX5 : Nat → FieldType := fun k => match k with
  | _ => .array .long
abbrev wsX50 : List Cond := u_ws RX5 TX5 1
theorem nmX5 : ∀ a, a < 1 → ∀ b, b < 1 → a ≠ b → (TX5 a).2.1 ≠ (TX5 b).2.1 := by decide +kernel
theorem tyX5_ok : ∀ k, k < 1 → parseFieldDescriptor (TX5 k).2.2.1 = some (tyX5 k) := by decide +kernel
abbrev cX5_init : ByteArray := prog_7_method_1_code
def yX5_init : MethodName := ⟨RX5, "<init>", "()V"⟩
abbrev cX5_set : ByteArray := prog_7_method_2_code
def yX5_set : MethodName := ⟨RX5, "set", "(J)V"⟩
abbrev cX5_add : ByteArray := prog_7_method_3_code
def yX5_add : MethodName := ⟨RX5, "add", "(J)V"⟩
abbrev cX5_setProduct : ByteArray := prog_7_method_4_code
def yX5_setProduct : MethodName := ⟨RX5, "setProduct", "(LTenonyard$Wide;LTenonyard$Wide;)V"⟩
abbrev cX5_isAtMost : ByteArray := prog_7_method_5_code
def yX5_isAtMost : MethodName := ⟨RX5, "isAtMost", "(LTenonyard$Wide;)Z"⟩
def RX6 : String := "Tenonyard"
def TX6 : u_T := fun k => match k with
  | 0 => ("Tenonyard", "frame", "LTenonyard$Frame;", true)
  | 1 => ("Tenonyard", "forces", "LTenonyard$Forces;", true)
  | 2 => ("Tenonyard", "joinery", "LTenonyard$Joinery;", true)
  | 3 => ("Tenonyard", "cutting", "LTenonyard$Cutting;", true)
  | _ => ("Tenonyard", "raising", "LTenonyard$Raising;", true)
def tyX6 : Nat → FieldType := fun k => match k with
  | 0 => .object "Tenonyard$Frame"
  | 1 => .object "Tenonyard$Forces"
  | 2 => .object "Tenonyard$Joinery"
  | 3 => .object "Tenonyard$Cutting"
  | _ => .object "Tenonyard$Raising"
abbrev wsX60 : List Cond := u_ws RX6 TX6 5
theorem nmX6 : ∀ a, a < 5 → ∀ b, b < 5 → a ≠ b → (TX6 a).2.1 ≠ (TX6 b).2.1 := by decide +kernel
theorem tyX6_ok : ∀ k, k < 5 → parseFieldDescriptor (TX6 k).2.2.1 = some (tyX6 k) := by decide +kernel
abbrev cX6_init : ByteArray := prog_1_method_1_code
def yX6_init : MethodName := ⟨RX6, "<init>", "()V"⟩
abbrev cX6_node : ByteArray := prog_1_method_2_code
def yX6_node : MethodName := ⟨RX6, "node", "(IIC)I"⟩
abbrev cX6_member : ByteArray := prog_1_method_3_code
def yX6_member : MethodName := ⟨RX6, "member", "(IIII)I"⟩
abbrev cX6_load : ByteArray := prog_1_method_4_code
def yX6_load : MethodName := ⟨RX6, "load", "(III)I"⟩
abbrev cX6_state : ByteArray := prog_1_method_5_code
def yX6_state : MethodName := ⟨RX6, "state", "()C"⟩
abbrev cX6_force : ByteArray := prog_1_method_6_code
def yX6_force : MethodName := ⟨RX6, "force", "(I)J"⟩
abbrev cX6_pull : ByteArray := prog_1_method_7_code
def yX6_pull : MethodName := ⟨RX6, "pull", "(I)J"⟩
abbrev cX6_isBalanced : ByteArray := prog_1_method_9_code
def yX6_isBalanced : MethodName := ⟨RX6, "isBalanced", "(I)Z"⟩
abbrev cX6_weakest : ByteArray := prog_1_method_10_code
def yX6_weakest : MethodName := ⟨RX6, "weakest", "()I"⟩
abbrev cX6_joint : ByteArray := prog_1_method_11_code
def yX6_joint : MethodName := ⟨RX6, "joint", "(IICII)I"⟩
abbrev cX6_isRight : ByteArray := prog_1_method_12_code
def yX6_isRight : MethodName := ⟨RX6, "isRight", "(I)Z"⟩
abbrev cX6_misread : ByteArray := prog_1_method_13_code
def yX6_misread : MethodName := ⟨RX6, "misread", "(I)I"⟩
abbrev cX6_clashes : ByteArray := prog_1_method_14_code
def yX6_clashes : MethodName := ⟨RX6, "clashes", "()I"⟩
abbrev cX6_cutAt : ByteArray := prog_1_method_15_code
def yX6_cutAt : MethodName := ⟨RX6, "cutAt", "(II)I"⟩
abbrev cX6_dry : ByteArray := prog_1_method_16_code
def yX6_dry : MethodName := ⟨RX6, "dry", "(II)I"⟩
abbrev cX6_gap : ByteArray := prog_1_method_17_code
def yX6_gap : MethodName := ⟨RX6, "gap", "(I)I"⟩
abbrev cX6_widest : ByteArray := prog_1_method_18_code
def yX6_widest : MethodName := ⟨RX6, "widest", "()I"⟩
abbrev cX6_stick : ByteArray := prog_1_method_19_code
def yX6_stick : MethodName := ⟨RX6, "stick", "(III)I"⟩
abbrev cX6_piece : ByteArray := prog_1_method_20_code
def yX6_piece : MethodName := ⟨RX6, "piece", "(I)I"⟩
abbrev cX6_stickOf : ByteArray := prog_1_method_21_code
def yX6_stickOf : MethodName := ⟨RX6, "stickOf", "(I)I"⟩
abbrev cX6_wood : ByteArray := prog_1_method_22_code
def yX6_wood : MethodName := ⟨RX6, "wood", "()I"⟩
abbrev cX6_waste : ByteArray := prog_1_method_23_code
def yX6_waste : MethodName := ⟨RX6, "waste", "(I)I"⟩
abbrev cX6_setProps : ByteArray := prog_1_method_24_code
def yX6_setProps : MethodName := ⟨RX6, "setProps", "(I)I"⟩
abbrev cX6_raised : ByteArray := prog_1_method_25_code
def yX6_raised : MethodName := ⟨RX6, "raised", "(I)I"⟩
abbrev cX6_canRaise : ByteArray := prog_1_method_26_code
def yX6_canRaise : MethodName := ⟨RX6, "canRaise", "()Z"⟩
abbrev cX6_canTakeAway : ByteArray := prog_1_method_27_code
def yX6_canTakeAway : MethodName := ⟨RX6, "canTakeAway", "()Z"⟩
abbrev cX6_orders : ByteArray := prog_1_method_28_code
def yX6_orders : MethodName := ⟨RX6, "orders", "()I"⟩
abbrev cX6_props : ByteArray := prog_1_method_29_code
def yX6_props : MethodName := ⟨RX6, "props", "(I)I"⟩
abbrev cX6_stuck : ByteArray := prog_1_method_30_code
def yX6_stuck : MethodName := ⟨RX6, "stuck", "()I"⟩
abbrev cX6_allForce : ByteArray := prog_1_method_31_code
def yX6_allForce : MethodName := ⟨RX6, "allForce", "()J"⟩
abbrev cX6_rightShare : ByteArray := prog_1_method_32_code
def yX6_rightShare : MethodName := ⟨RX6, "rightShare", "()F"⟩
abbrev cX6_meanPull : ByteArray := prog_1_method_33_code
def yX6_meanPull : MethodName := ⟨RX6, "meanPull", "()D"⟩
abbrev cX6_isSound : ByteArray := prog_1_method_34_code
def yX6_isSound : MethodName := ⟨RX6, "isSound", "()Z"⟩
abbrev cX6_isWithin : ByteArray := prog_1_method_35_code
def yX6_isWithin : MethodName := ⟨RX6, "isWithin", "(III)Z"⟩
abbrev cX6_isSection : ByteArray := prog_1_method_36_code
def yX6_isSection : MethodName := ⟨RX6, "isSection", "(II)Z"⟩
abbrev cX6_checkNode : ByteArray := prog_1_method_37_code
def yX6_checkNode : MethodName := ⟨RX6, "checkNode", "(I)V"⟩
abbrev cX6_checkMember : ByteArray := prog_1_method_38_code
def yX6_checkMember : MethodName := ⟨RX6, "checkMember", "(I)V"⟩
abbrev cX6_checkJoint : ByteArray := prog_1_method_39_code
def yX6_checkJoint : MethodName := ⟨RX6, "checkJoint", "(I)V"⟩
abbrev cX6_checkMoisture : ByteArray := prog_1_method_40_code
def yX6_checkMoisture : MethodName := ⟨RX6, "checkMoisture", "(I)V"⟩
abbrev cX6_checkStanding : ByteArray := prog_1_method_41_code
def yX6_checkStanding : MethodName := ⟨RX6, "checkStanding", "()V"⟩
abbrev cX6_checkCut : ByteArray := prog_1_method_42_code
def yX6_checkCut : MethodName := ⟨RX6, "checkCut", "()V"⟩
abbrev cX6_checkPlaceInOrder : ByteArray := prog_1_method_43_code
def yX6_checkPlaceInOrder : MethodName := ⟨RX6, "checkPlaceInOrder", "(I)V"⟩
def RX7 : String := "TenonyardModel$Joint"
def TX7 : u_T := fun k => match k with
  | _ => ("", "", "", false)
def tyX7 : Nat → FieldType := fun k => match k with
  | _ => .int
abbrev wsX70 : List Cond := u_ws RX7 TX7 0
theorem nmX7 : ∀ a, a < 0 → ∀ b, b < 0 → a ≠ b → (TX7 a).2.1 ≠ (TX7 b).2.1 := by decide +kernel
theorem tyX7_ok : ∀ k, k < 0 → parseFieldDescriptor (TX7 k).2.2.1 = some (tyX7 k) := by decide +kernel
def RX8 : String := "TenonyardModel$Member"
def TX8 : u_T := fun k => match k with
  | _ => ("", "", "", false)
def tyX8 : Nat → FieldType := fun k => match k with
  | _ => .int
abbrev wsX80 : List Cond := u_ws RX8 TX8 0
theorem nmX8 : ∀ a, a < 0 → ∀ b, b < 0 → a ≠ b → (TX8 a).2.1 ≠ (TX8 b).2.1 := by decide +kernel
theorem tyX8_ok : ∀ k, k < 0 → parseFieldDescriptor (TX8 k).2.2.1 = some (tyX8 k) := by decide +kernel
def RX9 : String := "TenonyardModel$Node"
def TX9 : u_T := fun k => match k with
  | _ => ("", "", "", false)
def tyX9 : Nat → FieldType := fun k => match k with
  | _ => .int
abbrev wsX90 : List Cond := u_ws RX9 TX9 0
theorem nmX9 : ∀ a, a < 0 → ∀ b, b < 0 → a ≠ b → (TX9 a).2.1 ≠ (TX9 b).2.1 := by decide +kernel
theorem tyX9_ok : ∀ k, k < 0 → parseFieldDescriptor (TX9 k).2.2.1 = some (tyX9 k) := by decide +kernel
def RX10 : String := "TenonyardModel$Stick"
def TX10 : u_T := fun k => match k with
  | _ => ("", "", "", false)
def tyX10 : Nat → FieldType := fun k => match k with
  | _ => .int
abbrev wsX100 : List Cond := u_ws RX10 TX10 0
theorem nmX10 : ∀ a, a < 0 → ∀ b, b < 0 → a ≠ b → (TX10 a).2.1 ≠ (TX10 b).2.1 := by decide +kernel
theorem tyX10_ok : ∀ k, k < 0 → parseFieldDescriptor (TX10 k).2.2.1 = some (tyX10 k) := by decide +kernel
def RX11 : String := "TenonyardModel$Wide"
def TX11 : u_T := fun k => match k with
  | _ => ("", "", "", false)
def tyX11 : Nat → FieldType := fun k => match k with
  | _ => .int
abbrev wsX110 : List Cond := u_ws RX11 TX11 0
theorem nmX11 : ∀ a, a < 0 → ∀ b, b < 0 → a ≠ b → (TX11 a).2.1 ≠ (TX11 b).2.1 := by decide +kernel
theorem tyX11_ok : ∀ k, k < 0 → parseFieldDescriptor (TX11 k).2.2.1 = some (tyX11 k) := by decide +kernel
def RX12 : String := "TenonyardModel"
def TX12 : u_T := fun k => match k with
  | _ => ("", "", "", false)
def tyX12 : Nat → FieldType := fun k => match k with
  | _ => .int
abbrev wsX120 : List Cond := u_ws RX12 TX12 0
theorem nmX12 : ∀ a, a < 0 → ∀ b, b < 0 → a ≠ b → (TX12 a).2.1 ≠ (TX12 b).2.1 := by decide +kernel
theorem tyX12_ok : ∀ k, k < 0 → parseFieldDescriptor (TX12 k).2.2.1 = some (tyX12 k) := by decide +kernel
def RJx145de : String := "java/io/Serializable"
def TJx145de : u_T := fun k => match k with
  | _ => ("", "", "", false)
def tyJx145de : Nat → FieldType := fun k => match k with
  | _ => .int
abbrev wsJx145de0 : List Cond := u_ws RJx145de TJx145de 0
theorem nmJx145de : ∀ a, a < 0 → ∀ b, b < 0 → a ≠ b → (TJx145de a).2.1 ≠ (TJx145de b).2.1 := by decide +kernel
theorem tyJx145de_ok : ∀ k, k < 0 → parseFieldDescriptor (TJx145de k).2.2.1 = some (tyJx145de k) := by decide +kernel
def RJx00060 : String := "java/lang/ArrayIndexOutOfBoundsException"
def TJx00060 : u_T := fun k => match k with
  | 0 => ("java/lang/Throwable", "backtrace", "Ljava/lang/Object;", false)
  | 1 => ("java/lang/Throwable", "detailMessage", "Ljava/lang/String;", false)
  | 2 => ("java/lang/Throwable", "cause", "Ljava/lang/Throwable;", false)
  | 3 => ("java/lang/Throwable", "stackTrace", "[Ljava/lang/StackTraceElement;", false)
  | 4 => ("java/lang/Throwable", "depth", "I", false)
  | _ => ("java/lang/Throwable", "suppressedExceptions", "Ljava/util/List;", false)
def tyJx00060 : Nat → FieldType := fun k => match k with
  | 0 => .object "java/lang/Object"
  | 1 => .object "java/lang/String"
  | 2 => .object "java/lang/Throwable"
  | 3 => .array (.object "java/lang/StackTraceElement")
  | 4 => .int
  | _ => .object "java/util/List"
abbrev wsJx000600 : List Cond := u_ws RJx00060 TJx00060 6
theorem nmJx00060 : ∀ a, a < 6 → ∀ b, b < 6 → a ≠ b → (TJx00060 a).2.1 ≠ (TJx00060 b).2.1 := by decide +kernel
theorem tyJx00060_ok : ∀ k, k < 6 → parseFieldDescriptor (TJx00060 k).2.2.1 = some (tyJx00060 k) := by decide +kernel
abbrev cJx00060_init_a7421 : ByteArray := prog_17_method_2_code
def yJx00060_init_a7421 : MethodName := ⟨RJx00060, "<init>", "(Ljava/lang/String;)V"⟩
def RJx9f9b0 : String := "java/lang/CharSequence"
def TJx9f9b0 : u_T := fun k => match k with
  | _ => ("", "", "", false)
def tyJx9f9b0 : Nat → FieldType := fun k => match k with
  | _ => .int
abbrev wsJx9f9b00 : List Cond := u_ws RJx9f9b0 TJx9f9b0 0
theorem nmJx9f9b0 : ∀ a, a < 0 → ∀ b, b < 0 → a ≠ b → (TJx9f9b0 a).2.1 ≠ (TJx9f9b0 b).2.1 := by decide +kernel
theorem tyJx9f9b0_ok : ∀ k, k < 0 → parseFieldDescriptor (TJx9f9b0 k).2.2.1 = some (tyJx9f9b0 k) := by decide +kernel
def RJ11 : String := "java/lang/Character"
def TJ11 : u_T := fun k => match k with
  | _ => ("", "", "", false)
def tyJ11 : Nat → FieldType := fun k => match k with
  | _ => .int
abbrev wsJ110 : List Cond := u_ws RJ11 TJ11 0
theorem nmJ11 : ∀ a, a < 0 → ∀ b, b < 0 → a ≠ b → (TJ11 a).2.1 ≠ (TJ11 b).2.1 := by decide +kernel
theorem tyJ11_ok : ∀ k, k < 0 → parseFieldDescriptor (TJ11 k).2.2.1 = some (tyJ11 k) := by decide +kernel
abbrev cJ11_isValidCodePoint_9a6ad : ByteArray := prog_19_method_11_code
def yJ11_isValidCodePoint_9a6ad : MethodName := ⟨RJ11, "isValidCodePoint", "(I)Z"⟩
abbrev cJ11_highSurrogate_5068e : ByteArray := prog_19_method_28_code
def yJ11_highSurrogate_5068e : MethodName := ⟨RJ11, "highSurrogate", "(I)C"⟩
abbrev cJ11_lowSurrogate_5068e : ByteArray := prog_19_method_29_code
def yJ11_lowSurrogate_5068e : MethodName := ⟨RJ11, "lowSurrogate", "(I)C"⟩
def RJxb160c : String := "java/lang/Comparable"
def TJxb160c : u_T := fun k => match k with
  | _ => ("", "", "", false)
def tyJxb160c : Nat → FieldType := fun k => match k with
  | _ => .int
abbrev wsJxb160c0 : List Cond := u_ws RJxb160c TJxb160c 0
theorem nmJxb160c : ∀ a, a < 0 → ∀ b, b < 0 → a ≠ b → (TJxb160c a).2.1 ≠ (TJxb160c b).2.1 := by decide +kernel
theorem tyJxb160c_ok : ∀ k, k < 0 → parseFieldDescriptor (TJxb160c k).2.2.1 = some (tyJxb160c k) := by decide +kernel
def RJ6 : String := "java/lang/Integer"
def TJ6 : u_T := fun k => match k with
  | _ => ("", "", "", false)
def tyJ6 : Nat → FieldType := fun k => match k with
  | _ => .int
abbrev wsJ60 : List Cond := u_ws RJ6 TJ6 0
theorem nmJ6 : ∀ a, a < 0 → ∀ b, b < 0 → a ≠ b → (TJ6 a).2.1 ≠ (TJ6 b).2.1 := by decide +kernel
theorem tyJ6_ok : ∀ k, k < 0 → parseFieldDescriptor (TJ6 k).2.2.1 = some (tyJ6 k) := by decide +kernel
abbrev cJ6_bitCount_0f7a4 : ByteArray := prog_25_method_49_code
def yJ6_bitCount_0f7a4 : MethodName := ⟨RJ6, "bitCount", "(I)I"⟩
def RJ9 : String := "java/lang/Math"
def TJ9 : u_T := fun k => match k with
  | _ => ("", "", "", false)
def tyJ9 : Nat → FieldType := fun k => match k with
  | _ => .int
abbrev wsJ90 : List Cond := u_ws RJ9 TJ9 0
theorem nmJ9 : ∀ a, a < 0 → ∀ b, b < 0 → a ≠ b → (TJ9 a).2.1 ≠ (TJ9 b).2.1 := by decide +kernel
theorem tyJ9_ok : ∀ k, k < 0 → parseFieldDescriptor (TJ9 k).2.2.1 = some (tyJ9 k) := by decide +kernel
abbrev cJ9_floorDiv_f86c9 : ByteArray := prog_26_method_49_code
def yJ9_floorDiv_f86c9 : MethodName := ⟨RJ9, "floorDiv", "(JJ)J"⟩
abbrev cJ9_floorMod_f86c9 : ByteArray := prog_26_method_52_code
def yJ9_floorMod_f86c9 : MethodName := ⟨RJ9, "floorMod", "(JJ)J"⟩
abbrev cJ9_abs_067f4 : ByteArray := prog_26_method_61_code
def yJ9_abs_067f4 : MethodName := ⟨RJ9, "abs", "(J)J"⟩
abbrev cJ9_max_7cf53 : ByteArray := prog_26_method_65_code
def yJ9_max_7cf53 : MethodName := ⟨RJ9, "max", "(II)I"⟩
abbrev cJ9_max_f86c9 : ByteArray := prog_26_method_66_code
def yJ9_max_f86c9 : MethodName := ⟨RJ9, "max", "(JJ)J"⟩
abbrev cJ9_min_7cf53 : ByteArray := prog_26_method_69_code
def yJ9_min_7cf53 : MethodName := ⟨RJ9, "min", "(II)I"⟩
abbrev cJ9_min_f86c9 : ByteArray := prog_26_method_70_code
def yJ9_min_f86c9 : MethodName := ⟨RJ9, "min", "(JJ)J"⟩
def RJ0 : String := "java/lang/String"
def TJ0 : u_T := fun k => match k with
  | 0 => ("java/lang/String", "value", "[B", true)
  | _ => ("java/lang/String", "coder", "B", true)
def tyJ0 : Nat → FieldType := fun k => match k with
  | 0 => .array .byte
  | _ => .byte
abbrev wsJ00 : List Cond := u_ws RJ0 TJ0 2
theorem nmJ0 : ∀ a, a < 2 → ∀ b, b < 2 → a ≠ b → (TJ0 a).2.1 ≠ (TJ0 b).2.1 := by decide +kernel
theorem tyJ0_ok : ∀ k, k < 2 → parseFieldDescriptor (TJ0 k).2.2.1 = some (tyJ0 k) := by decide +kernel
abbrev cJ0_length_8abf5 : ByteArray := prog_28_method_54_code
def yJ0_length_8abf5 : MethodName := ⟨RJ0, "length", "()I"⟩
abbrev cJ0_charAt_5068e : ByteArray := prog_28_method_56_code
def yJ0_charAt_5068e : MethodName := ⟨RJ0, "charAt", "(I)C"⟩
abbrev cJ0_indexOf_0f7a4 : ByteArray := prog_28_method_79_code
def yJ0_indexOf_0f7a4 : MethodName := ⟨RJ0, "indexOf", "(I)I"⟩
abbrev cJ0_indexOf_7cf53 : ByteArray := prog_28_method_80_code
def yJ0_indexOf_7cf53 : MethodName := ⟨RJ0, "indexOf", "(II)I"⟩
abbrev cJ0_coder_7d493 : ByteArray := prog_28_method_152_code
def yJ0_coder_7d493 : MethodName := ⟨RJ0, "coder", "()B"⟩
abbrev cJ0_isLatin1_aae02 : ByteArray := prog_28_method_154_code
def yJ0_isLatin1_aae02 : MethodName := ⟨RJ0, "isLatin1", "()Z"⟩
abbrev cJ0_checkIndex_df160 : ByteArray := prog_28_method_155_code
def yJ0_checkIndex_df160 : MethodName := ⟨RJ0, "checkIndex", "(II)V"⟩
abbrev cJ0_checkBoundsBeginEnd_23922 : ByteArray := prog_28_method_158_code
def yJ0_checkBoundsBeginEnd_23922 : MethodName := ⟨RJ0, "checkBoundsBeginEnd", "(III)V"⟩
def RJ1 : String := "java/lang/StringLatin1"
def TJ1 : u_T := fun k => match k with
  | _ => ("", "", "", false)
def tyJ1 : Nat → FieldType := fun k => match k with
  | _ => .int
abbrev wsJ10 : List Cond := u_ws RJ1 TJ1 0
theorem nmJ1 : ∀ a, a < 0 → ∀ b, b < 0 → a ≠ b → (TJ1 a).2.1 ≠ (TJ1 b).2.1 := by decide +kernel
theorem tyJ1_ok : ∀ k, k < 0 → parseFieldDescriptor (TJ1 k).2.2.1 = some (tyJ1 k) := by decide +kernel
abbrev cJ1_charAt_3b067 : ByteArray := prog_29_method_2_code
def yJ1_charAt_3b067 : MethodName := ⟨RJ1, "charAt", "([BI)C"⟩
abbrev cJ1_canEncode_9a6ad : ByteArray := prog_29_method_4_code
def yJ1_canEncode_9a6ad : MethodName := ⟨RJ1, "canEncode", "(I)Z"⟩
abbrev cJ1_indexOf_4cfef : ByteArray := prog_29_method_22_code
def yJ1_indexOf_4cfef : MethodName := ⟨RJ1, "indexOf", "([BIII)I"⟩
abbrev cJ1_indexOfChar_4cfef : ByteArray := prog_29_method_23_code
def yJ1_indexOfChar_4cfef : MethodName := ⟨RJ1, "indexOfChar", "([BIII)I"⟩
def RJ2 : String := "java/lang/StringUTF16"
def TJ2 : u_T := fun k => match k with
  | _ => ("", "", "", false)
def tyJ2 : Nat → FieldType := fun k => match k with
  | _ => .int
abbrev wsJ20 : List Cond := u_ws RJ2 TJ2 0
theorem nmJ2 : ∀ a, a < 0 → ∀ b, b < 0 → a ≠ b → (TJ2 a).2.1 ≠ (TJ2 b).2.1 := by decide +kernel
theorem tyJ2_ok : ∀ k, k < 0 → parseFieldDescriptor (TJ2 k).2.2.1 = some (tyJ2 k) := by decide +kernel
abbrev cJ2_getChar_3b067 : ByteArray := prog_30_method_5_code
def yJ2_getChar_3b067 : MethodName := ⟨RJ2, "getChar", "([BI)C"⟩
abbrev cJ2_length_9d52b : ByteArray := prog_30_method_6_code
def yJ2_length_9d52b : MethodName := ⟨RJ2, "length", "([B)I"⟩
abbrev cJ2_indexOf_4cfef : ByteArray := prog_30_method_40_code
def yJ2_indexOf_4cfef : MethodName := ⟨RJ2, "indexOf", "([BIII)I"⟩
abbrev cJ2_indexOfChar_4cfef : ByteArray := prog_30_method_47_code
def yJ2_indexOfChar_4cfef : MethodName := ⟨RJ2, "indexOfChar", "([BIII)I"⟩
abbrev cJ2_indexOfCharUnsafe_4cfef : ByteArray := prog_30_method_48_code
def yJ2_indexOfCharUnsafe_4cfef : MethodName := ⟨RJ2, "indexOfCharUnsafe", "([BIII)I"⟩
abbrev cJ2_indexOfSupplementary_4cfef : ByteArray := prog_30_method_49_code
def yJ2_indexOfSupplementary_4cfef : MethodName := ⟨RJ2, "indexOfSupplementary", "([BIII)I"⟩
abbrev cJ2_charAt_3b067 : ByteArray := prog_30_method_83_code
def yJ2_charAt_3b067 : MethodName := ⟨RJ2, "charAt", "([BI)C"⟩
abbrev cJ2_checkIndex_2214a : ByteArray := prog_30_method_91_code
def yJ2_checkIndex_2214a : MethodName := ⟨RJ2, "checkIndex", "(I[B)V"⟩
abbrev cJ2_checkBoundsBeginEnd_d044e : ByteArray := prog_30_method_93_code
def yJ2_checkBoundsBeginEnd_d044e : MethodName := ⟨RJ2, "checkBoundsBeginEnd", "(II[B)V"⟩
def RJxfd54e : String := "java/lang/constant/Constable"
def TJxfd54e : u_T := fun k => match k with
  | _ => ("", "", "", false)
def tyJxfd54e : Nat → FieldType := fun k => match k with
  | _ => .int
abbrev wsJxfd54e0 : List Cond := u_ws RJxfd54e TJxfd54e 0
theorem nmJxfd54e : ∀ a, a < 0 → ∀ b, b < 0 → a ≠ b → (TJxfd54e a).2.1 ≠ (TJxfd54e b).2.1 := by decide +kernel
theorem tyJxfd54e_ok : ∀ k, k < 0 → parseFieldDescriptor (TJxfd54e k).2.2.1 = some (tyJxfd54e k) := by decide +kernel
def RJx3cf43 : String := "java/lang/constant/ConstantDesc"
def TJx3cf43 : u_T := fun k => match k with
  | _ => ("", "", "", false)
def tyJx3cf43 : Nat → FieldType := fun k => match k with
  | _ => .int
abbrev wsJx3cf430 : List Cond := u_ws RJx3cf43 TJx3cf43 0
theorem nmJx3cf43 : ∀ a, a < 0 → ∀ b, b < 0 → a ≠ b → (TJx3cf43 a).2.1 ≠ (TJx3cf43 b).2.1 := by decide +kernel
theorem tyJx3cf43_ok : ∀ k, k < 0 → parseFieldDescriptor (TJx3cf43 k).2.2.1 = some (tyJx3cf43 k) := by decide +kernel
def RJ3 : String := "jdk/internal/util/Preconditions"
def TJ3 : u_T := fun k => match k with
  | _ => ("", "", "", false)
def tyJ3 : Nat → FieldType := fun k => match k with
  | _ => .int
abbrev wsJ30 : List Cond := u_ws RJ3 TJ3 0
theorem nmJ3 : ∀ a, a < 0 → ∀ b, b < 0 → a ≠ b → (TJ3 a).2.1 ≠ (TJ3 b).2.1 := by decide +kernel
theorem tyJ3_ok : ∀ k, k < 0 → parseFieldDescriptor (TJ3 k).2.2.1 = some (tyJ3 k) := by decide +kernel
abbrev cJ3_checkIndex_8e157 : ByteArray := prog_36_method_11_code
def yJ3_checkIndex_8e157 : MethodName := ⟨RJ3, "checkIndex", "(IILjava/util/function/BiFunction;)I"⟩
abbrev cJ3_checkFromToIndex_8c36e : ByteArray := prog_36_method_12_code
def yJ3_checkFromToIndex_8c36e : MethodName := ⟨RJ3, "checkFromToIndex", "(IIILjava/util/function/BiFunction;)I"⟩
def RL : String := "TenonyardLaw"
abbrev cL_cell : ByteArray := method_2_code
def yL_cell : MethodName := ⟨RL, "cell", "([II)I"⟩
abbrev cL_pick : ByteArray := method_3_code
def yL_pick : MethodName := ⟨RL, "pick", "([III)I"⟩
abbrev cL_node : ByteArray := method_4_code
def yL_node : MethodName := ⟨RL, "node", "(LTenonyard;IIC)I"⟩
abbrev cL_member : ByteArray := method_5_code
def yL_member : MethodName := ⟨RL, "member", "(LTenonyard;IIII)I"⟩
abbrev cL_load : ByteArray := method_6_code
def yL_load : MethodName := ⟨RL, "load", "(LTenonyard;III)I"⟩
abbrev cL_force : ByteArray := method_7_code
def yL_force : MethodName := ⟨RL, "force", "(LTenonyard;I)J"⟩
abbrev cL_pull : ByteArray := method_8_code
def yL_pull : MethodName := ⟨RL, "pull", "(LTenonyard;I)J"⟩
abbrev cL_isBalanced : ByteArray := method_9_code
def yL_isBalanced : MethodName := ⟨RL, "isBalanced", "(LTenonyard;I)I"⟩
abbrev cL_weakest : ByteArray := method_10_code
def yL_weakest : MethodName := ⟨RL, "weakest", "(LTenonyard;)I"⟩
abbrev cL_joint : ByteArray := method_11_code
def yL_joint : MethodName := ⟨RL, "joint", "(LTenonyard;IICII)I"⟩
abbrev cL_isRight : ByteArray := method_12_code
def yL_isRight : MethodName := ⟨RL, "isRight", "(LTenonyard;I)I"⟩
abbrev cL_misread : ByteArray := method_13_code
def yL_misread : MethodName := ⟨RL, "misread", "(LTenonyard;I)I"⟩
abbrev cL_cutAt : ByteArray := method_14_code
def yL_cutAt : MethodName := ⟨RL, "cutAt", "(LTenonyard;II)I"⟩
abbrev cL_dry : ByteArray := method_15_code
def yL_dry : MethodName := ⟨RL, "dry", "(LTenonyard;II)I"⟩
abbrev cL_gap : ByteArray := method_16_code
def yL_gap : MethodName := ⟨RL, "gap", "(LTenonyard;I)I"⟩
abbrev cL_widest : ByteArray := method_17_code
def yL_widest : MethodName := ⟨RL, "widest", "(LTenonyard;)I"⟩
abbrev cL_stick : ByteArray := method_18_code
def yL_stick : MethodName := ⟨RL, "stick", "(LTenonyard;III)I"⟩
abbrev cL_piece : ByteArray := method_19_code
def yL_piece : MethodName := ⟨RL, "piece", "(LTenonyard;I)I"⟩
abbrev cL_stickOf : ByteArray := method_20_code
def yL_stickOf : MethodName := ⟨RL, "stickOf", "(LTenonyard;I)I"⟩
abbrev cL_wood : ByteArray := method_21_code
def yL_wood : MethodName := ⟨RL, "wood", "(LTenonyard;)I"⟩
abbrev cL_waste : ByteArray := method_22_code
def yL_waste : MethodName := ⟨RL, "waste", "(LTenonyard;I)I"⟩
abbrev cL_setProps : ByteArray := method_23_code
def yL_setProps : MethodName := ⟨RL, "setProps", "(LTenonyard;I)I"⟩
abbrev cL_raised : ByteArray := method_24_code
def yL_raised : MethodName := ⟨RL, "raised", "(LTenonyard;I)I"⟩
abbrev cL_props : ByteArray := method_25_code
def yL_props : MethodName := ⟨RL, "props", "(LTenonyard;I)I"⟩
abbrev cL_stuck : ByteArray := method_26_code
def yL_stuck : MethodName := ⟨RL, "stuck", "(LTenonyard;)I"⟩
abbrev cL_allForce : ByteArray := method_27_code
def yL_allForce : MethodName := ⟨RL, "allForce", "(LTenonyard;)J"⟩
abbrev cL_rightShare : ByteArray := method_28_code
def yL_rightShare : MethodName := ⟨RL, "rightShare", "(LTenonyard;)F"⟩
abbrev cL_meanPull : ByteArray := method_29_code
def yL_meanPull : MethodName := ⟨RL, "meanPull", "(LTenonyard;)D"⟩
abbrev cL_law : ByteArray := code
def yL_law : MethodName := ⟨RL, "law", "([I)Z"⟩
abbrev cL_isFrame : ByteArray := method_31_code
def yL_isFrame : MethodName := ⟨RL, "isFrame", "(LTenonyard;II)Z"⟩
abbrev cL_areJoints : ByteArray := method_32_code
def yL_areJoints : MethodName := ⟨RL, "areJoints", "(LTenonyard;I)Z"⟩
abbrev cL_isYard : ByteArray := method_33_code
def yL_isYard : MethodName := ⟨RL, "isYard", "(LTenonyard;II)Z"⟩
abbrev cL_isRaising : ByteArray := method_34_code
def yL_isRaising : MethodName := ⟨RL, "isRaising", "(LTenonyard;I)Z"⟩
abbrev cL_isThrown : ByteArray := method_35_code
def yL_isThrown : MethodName := ⟨RL, "isThrown", "(LTenonyard;)Z"⟩
abbrev vwCl : List vw_C := [(RJ0, TJ0, 2), (RJx00060, TJx00060, 6), (RX0, TX0, 11), (RX1, TX1, 17), (RX2, TX2, 12), (RX3, TX3, 6), (RX4, TX4, 9), (RX5, TX5, 1), (RX6, TX6, 5)]
