section
-- ===== PART A: goes FIRST, ahead of the names: the tables' words, and 'selects' of the private methods out of them =====
/-- a private method of a class that the tables say can be made, by its rows of tables_1 -/
def lw_okq (q : MethodName × Nat) : Prop := (q.1.cls ≠ "java/lang/invoke/MethodHandle" ∧ q.1.cls ≠ "java/lang/invoke/VarHandle") ∧ Cond.instantiable q.1.cls q.2 ∈ tables_1 ∧ Cond.privateMethod q.1 ∈ tables_1 ∧ Cond.instanceMethod q.1 ∈ tables_1
theorem lw_p0 : lw_okq (⟨"Tenonyard$Forces", "findPulls", "(LTenonyard$Frame;)C"⟩, 17) := ⟨⟨by decide +kernel, by decide +kernel⟩, List.mem_of_getElem? (i := 107) (by decide +kernel), List.mem_of_getElem? (i := 314) (by decide +kernel), List.mem_of_getElem? (i := 315) (by decide +kernel)⟩
theorem lw_p1 : lw_okq (⟨"Tenonyard$Forces", "fillRows", "(LTenonyard$Frame;)V"⟩, 17) := ⟨⟨by decide +kernel, by decide +kernel⟩, List.mem_of_getElem? (i := 107) (by decide +kernel), List.mem_of_getElem? (i := 322) (by decide +kernel), List.mem_of_getElem? (i := 323) (by decide +kernel)⟩
theorem lw_p2 : lw_okq (⟨"Tenonyard$Forces", "findDeterminants", "(I)V"⟩, 17) := ⟨⟨by decide +kernel, by decide +kernel⟩, List.mem_of_getElem? (i := 107) (by decide +kernel), List.mem_of_getElem? (i := 334) (by decide +kernel), List.mem_of_getElem? (i := 335) (by decide +kernel)⟩
theorem lw_p3 : lw_okq (⟨"Tenonyard$Forces", "expanded", "([JII)J"⟩, 17) := ⟨⟨by decide +kernel, by decide +kernel⟩, List.mem_of_getElem? (i := 107) (by decide +kernel), List.mem_of_getElem? (i := 344) (by decide +kernel), List.mem_of_getElem? (i := 345) (by decide +kernel)⟩
theorem lw_p4 : lw_okq (⟨"Tenonyard$Forces", "setPull", "(III)V"⟩, 17) := ⟨⟨by decide +kernel, by decide +kernel⟩, List.mem_of_getElem? (i := 107) (by decide +kernel), List.mem_of_getElem? (i := 351) (by decide +kernel), List.mem_of_getElem? (i := 352) (by decide +kernel)⟩
theorem lw_p5 : lw_okq (⟨"Tenonyard$Forces", "carry", "(I)V"⟩, 17) := ⟨⟨by decide +kernel, by decide +kernel⟩, List.mem_of_getElem? (i := 107) (by decide +kernel), List.mem_of_getElem? (i := 362) (by decide +kernel), List.mem_of_getElem? (i := 363) (by decide +kernel)⟩
theorem lw_p6 : lw_okq (⟨"Tenonyard$Forces", "findBearings", "(LTenonyard$Frame;)V"⟩, 17) := ⟨⟨by decide +kernel, by decide +kernel⟩, List.mem_of_getElem? (i := 107) (by decide +kernel), List.mem_of_getElem? (i := 366) (by decide +kernel), List.mem_of_getElem? (i := 367) (by decide +kernel)⟩
theorem lw_p7 : lw_okq (⟨"Tenonyard$Forces", "findAmounts", "(LTenonyard$Frame;)V"⟩, 17) := ⟨⟨by decide +kernel, by decide +kernel⟩, List.mem_of_getElem? (i := 107) (by decide +kernel), List.mem_of_getElem? (i := 370) (by decide +kernel), List.mem_of_getElem? (i := 371) (by decide +kernel)⟩
theorem lw_p8 : lw_okq (⟨"Tenonyard$Forces", "timesLength", "(JJI)J"⟩, 17) := ⟨⟨by decide +kernel, by decide +kernel⟩, List.mem_of_getElem? (i := 107) (by decide +kernel), List.mem_of_getElem? (i := 384) (by decide +kernel), List.mem_of_getElem? (i := 385) (by decide +kernel)⟩
theorem lw_p9 : lw_okq (⟨"Tenonyard$Raising", "gather", "(LTenonyard$Frame;LTenonyard$Joinery;)V"⟩, 9) := ⟨⟨by decide +kernel, by decide +kernel⟩, List.mem_of_getElem? (i := 251) (by decide +kernel), List.mem_of_getElem? (i := 424) (by decide +kernel), List.mem_of_getElem? (i := 425) (by decide +kernel)⟩
theorem lw_p10 : lw_okq (⟨"Tenonyard$Raising", "goForward", "(I)V"⟩, 9) := ⟨⟨by decide +kernel, by decide +kernel⟩, List.mem_of_getElem? (i := 251) (by decide +kernel), List.mem_of_getElem? (i := 440) (by decide +kernel), List.mem_of_getElem? (i := 441) (by decide +kernel)⟩
theorem lw_p11 : lw_okq (⟨"Tenonyard$Raising", "canMoveIn", "(II)Z"⟩, 9) := ⟨⟨by decide +kernel, by decide +kernel⟩, List.mem_of_getElem? (i := 251) (by decide +kernel), List.mem_of_getElem? (i := 449) (by decide +kernel), List.mem_of_getElem? (i := 450) (by decide +kernel)⟩
theorem lw_p12 : lw_okq (⟨"Tenonyard$Raising", "goBackward", "(I)V"⟩, 9) := ⟨⟨by decide +kernel, by decide +kernel⟩, List.mem_of_getElem? (i := 251) (by decide +kernel), List.mem_of_getElem? (i := 453) (by decide +kernel), List.mem_of_getElem? (i := 454) (by decide +kernel)⟩
theorem lw_p13 : lw_okq (⟨"Tenonyard$Raising", "findOrder", "(I)V"⟩, 9) := ⟨⟨by decide +kernel, by decide +kernel⟩, List.mem_of_getElem? (i := 251) (by decide +kernel), List.mem_of_getElem? (i := 457) (by decide +kernel), List.mem_of_getElem? (i := 458) (by decide +kernel)⟩
theorem lw_p14 : lw_okq (⟨"Tenonyard$Raising", "firstThatLeads", "(II)I"⟩, 9) := ⟨⟨by decide +kernel, by decide +kernel⟩, List.mem_of_getElem? (i := 251) (by decide +kernel), List.mem_of_getElem? (i := 461) (by decide +kernel), List.mem_of_getElem? (i := 462) (by decide +kernel)⟩
theorem lw_p15 : lw_okq (⟨"Tenonyard$Forces", "holdsAlong", "(LTenonyard$Frame;II)Z"⟩, 17) := ⟨⟨by decide +kernel, by decide +kernel⟩, List.mem_of_getElem? (i := 107) (by decide +kernel), List.mem_of_getElem? (i := 485) (by decide +kernel), List.mem_of_getElem? (i := 486) (by decide +kernel)⟩
def lw_privs_1 : List (MethodName × Nat) := [(⟨"Tenonyard$Forces", "findPulls", "(LTenonyard$Frame;)C"⟩, 17), (⟨"Tenonyard$Forces", "fillRows", "(LTenonyard$Frame;)V"⟩, 17), (⟨"Tenonyard$Forces", "findDeterminants", "(I)V"⟩, 17), (⟨"Tenonyard$Forces", "expanded", "([JII)J"⟩, 17), (⟨"Tenonyard$Forces", "setPull", "(III)V"⟩, 17), (⟨"Tenonyard$Forces", "carry", "(I)V"⟩, 17), (⟨"Tenonyard$Forces", "findBearings", "(LTenonyard$Frame;)V"⟩, 17), (⟨"Tenonyard$Forces", "findAmounts", "(LTenonyard$Frame;)V"⟩, 17), (⟨"Tenonyard$Forces", "timesLength", "(JJI)J"⟩, 17), (⟨"Tenonyard$Raising", "gather", "(LTenonyard$Frame;LTenonyard$Joinery;)V"⟩, 9), (⟨"Tenonyard$Raising", "goForward", "(I)V"⟩, 9), (⟨"Tenonyard$Raising", "canMoveIn", "(II)Z"⟩, 9), (⟨"Tenonyard$Raising", "goBackward", "(I)V"⟩, 9), (⟨"Tenonyard$Raising", "findOrder", "(I)V"⟩, 9), (⟨"Tenonyard$Raising", "firstThatLeads", "(II)I"⟩, 9), (⟨"Tenonyard$Forces", "holdsAlong", "(LTenonyard$Frame;II)Z"⟩, 17)]
theorem lw_r1 : ∀ q ∈ lw_privs_1, lw_okq q := List.forall_mem_cons.mpr ⟨lw_p0, List.forall_mem_cons.mpr ⟨lw_p1, List.forall_mem_cons.mpr ⟨lw_p2, List.forall_mem_cons.mpr ⟨lw_p3, List.forall_mem_cons.mpr ⟨lw_p4, List.forall_mem_cons.mpr ⟨lw_p5, List.forall_mem_cons.mpr ⟨lw_p6, List.forall_mem_cons.mpr ⟨lw_p7, List.forall_mem_cons.mpr ⟨lw_p8, List.forall_mem_cons.mpr ⟨lw_p9, List.forall_mem_cons.mpr ⟨lw_p10, List.forall_mem_cons.mpr ⟨lw_p11, List.forall_mem_cons.mpr ⟨lw_p12, List.forall_mem_cons.mpr ⟨lw_p13, List.forall_mem_cons.mpr ⟨lw_p14, List.forall_mem_cons.mpr ⟨lw_p15, fun _ h => absurd h List.not_mem_nil⟩⟩⟩⟩⟩⟩⟩⟩⟩⟩⟩⟩⟩⟩⟩⟩
theorem lw_p16 : lw_okq (⟨"java/lang/Throwable", "fillInStackTrace", "(I)Ljava/lang/Throwable;"⟩, 6) := ⟨⟨by decide +kernel, by decide +kernel⟩, List.mem_of_getElem? (i := 637) (by decide +kernel), List.mem_of_getElem? (i := 635) (by decide +kernel), List.mem_of_getElem? (i := 636) (by decide +kernel)⟩
theorem lw_p17 : lw_okq (⟨"Tenonyard", "checkNode", "(I)V"⟩, 5) := ⟨⟨by decide +kernel, by decide +kernel⟩, List.mem_of_getElem? (i := 39) (by decide +kernel), List.mem_of_getElem? (i := 718) (by decide +kernel), List.mem_of_getElem? (i := 719) (by decide +kernel)⟩
theorem lw_p18 : lw_okq (⟨"Tenonyard", "checkMember", "(I)V"⟩, 5) := ⟨⟨by decide +kernel, by decide +kernel⟩, List.mem_of_getElem? (i := 39) (by decide +kernel), List.mem_of_getElem? (i := 767) (by decide +kernel), List.mem_of_getElem? (i := 768) (by decide +kernel)⟩
theorem lw_p19 : lw_okq (⟨"Tenonyard", "checkStanding", "()V"⟩, 5) := ⟨⟨by decide +kernel, by decide +kernel⟩, List.mem_of_getElem? (i := 39) (by decide +kernel), List.mem_of_getElem? (i := 772) (by decide +kernel), List.mem_of_getElem? (i := 773) (by decide +kernel)⟩
theorem lw_p20 : lw_okq (⟨"Tenonyard$Forces", "restInThousandths", "(I)J"⟩, 17) := ⟨⟨by decide +kernel, by decide +kernel⟩, List.mem_of_getElem? (i := 107) (by decide +kernel), List.mem_of_getElem? (i := 789) (by decide +kernel), List.mem_of_getElem? (i := 790) (by decide +kernel)⟩
theorem lw_p21 : lw_okq (⟨"Tenonyard", "checkJoint", "(I)V"⟩, 5) := ⟨⟨by decide +kernel, by decide +kernel⟩, List.mem_of_getElem? (i := 39) (by decide +kernel), List.mem_of_getElem? (i := 887) (by decide +kernel), List.mem_of_getElem? (i := 888) (by decide +kernel)⟩
theorem lw_p22 : lw_okq (⟨"Tenonyard", "checkMoisture", "(I)V"⟩, 5) := ⟨⟨by decide +kernel, by decide +kernel⟩, List.mem_of_getElem? (i := 39) (by decide +kernel), List.mem_of_getElem? (i := 912) (by decide +kernel), List.mem_of_getElem? (i := 913) (by decide +kernel)⟩
theorem lw_p23 : lw_okq (⟨"Tenonyard", "checkCut", "()V"⟩, 5) := ⟨⟨by decide +kernel, by decide +kernel⟩, List.mem_of_getElem? (i := 39) (by decide +kernel), List.mem_of_getElem? (i := 979) (by decide +kernel), List.mem_of_getElem? (i := 980) (by decide +kernel)⟩
theorem lw_p24 : lw_okq (⟨"Tenonyard$Cutting", "measure", "(LTenonyard$Frame;LTenonyard$Joinery;)V"⟩, 11) := ⟨⟨by decide +kernel, by decide +kernel⟩, List.mem_of_getElem? (i := 206) (by decide +kernel), List.mem_of_getElem? (i := 987) (by decide +kernel), List.mem_of_getElem? (i := 988) (by decide +kernel)⟩
theorem lw_p25 : lw_okq (⟨"Tenonyard$Cutting", "fitting", "(ILTenonyard$Frame;)I"⟩, 11) := ⟨⟨by decide +kernel, by decide +kernel⟩, List.mem_of_getElem? (i := 206) (by decide +kernel), List.mem_of_getElem? (i := 994) (by decide +kernel), List.mem_of_getElem? (i := 995) (by decide +kernel)⟩
theorem lw_p26 : lw_okq (⟨"Tenonyard$Cutting", "offer", "(III)V"⟩, 11) := ⟨⟨by decide +kernel, by decide +kernel⟩, List.mem_of_getElem? (i := 206) (by decide +kernel), List.mem_of_getElem? (i := 998) (by decide +kernel), List.mem_of_getElem? (i := 999) (by decide +kernel)⟩
theorem lw_p27 : lw_okq (⟨"Tenonyard$Cutting", "choose", "(J)V"⟩, 11) := ⟨⟨by decide +kernel, by decide +kernel⟩, List.mem_of_getElem? (i := 206) (by decide +kernel), List.mem_of_getElem? (i := 1006) (by decide +kernel), List.mem_of_getElem? (i := 1007) (by decide +kernel)⟩
theorem lw_p28 : lw_okq (⟨"Tenonyard", "checkPlaceInOrder", "(I)V"⟩, 5) := ⟨⟨by decide +kernel, by decide +kernel⟩, List.mem_of_getElem? (i := 39) (by decide +kernel), List.mem_of_getElem? (i := 1045) (by decide +kernel), List.mem_of_getElem? (i := 1046) (by decide +kernel)⟩
theorem lw_p29 : lw_okq (⟨"TenonyardModel", "fails", "(I)I"⟩, 27) := ⟨⟨by decide +kernel, by decide +kernel⟩, List.mem_of_getElem? (i := 1114) (by decide +kernel), List.mem_of_getElem? (i := 1239) (by decide +kernel), List.mem_of_getElem? (i := 1240) (by decide +kernel)⟩
theorem lw_p30 : lw_okq (⟨"java/util/ArrayList", "add", "(Ljava/lang/Object;[Ljava/lang/Object;I)V"⟩, 3) := ⟨⟨by decide +kernel, by decide +kernel⟩, List.mem_of_getElem? (i := 1120) (by decide +kernel), List.mem_of_getElem? (i := 1279) (by decide +kernel), List.mem_of_getElem? (i := 1280) (by decide +kernel)⟩
theorem lw_p31 : lw_okq (⟨"java/util/ArrayList", "grow", "()[Ljava/lang/Object;"⟩, 3) := ⟨⟨by decide +kernel, by decide +kernel⟩, List.mem_of_getElem? (i := 1120) (by decide +kernel), List.mem_of_getElem? (i := 1283) (by decide +kernel), List.mem_of_getElem? (i := 1284) (by decide +kernel)⟩
def lw_privs_2 : List (MethodName × Nat) := [(⟨"java/lang/Throwable", "fillInStackTrace", "(I)Ljava/lang/Throwable;"⟩, 6), (⟨"Tenonyard", "checkNode", "(I)V"⟩, 5), (⟨"Tenonyard", "checkMember", "(I)V"⟩, 5), (⟨"Tenonyard", "checkStanding", "()V"⟩, 5), (⟨"Tenonyard$Forces", "restInThousandths", "(I)J"⟩, 17), (⟨"Tenonyard", "checkJoint", "(I)V"⟩, 5), (⟨"Tenonyard", "checkMoisture", "(I)V"⟩, 5), (⟨"Tenonyard", "checkCut", "()V"⟩, 5), (⟨"Tenonyard$Cutting", "measure", "(LTenonyard$Frame;LTenonyard$Joinery;)V"⟩, 11), (⟨"Tenonyard$Cutting", "fitting", "(ILTenonyard$Frame;)I"⟩, 11), (⟨"Tenonyard$Cutting", "offer", "(III)V"⟩, 11), (⟨"Tenonyard$Cutting", "choose", "(J)V"⟩, 11), (⟨"Tenonyard", "checkPlaceInOrder", "(I)V"⟩, 5), (⟨"TenonyardModel", "fails", "(I)I"⟩, 27), (⟨"java/util/ArrayList", "add", "(Ljava/lang/Object;[Ljava/lang/Object;I)V"⟩, 3), (⟨"java/util/ArrayList", "grow", "()[Ljava/lang/Object;"⟩, 3)]
theorem lw_r2 : ∀ q ∈ lw_privs_2, lw_okq q := List.forall_mem_cons.mpr ⟨lw_p16, List.forall_mem_cons.mpr ⟨lw_p17, List.forall_mem_cons.mpr ⟨lw_p18, List.forall_mem_cons.mpr ⟨lw_p19, List.forall_mem_cons.mpr ⟨lw_p20, List.forall_mem_cons.mpr ⟨lw_p21, List.forall_mem_cons.mpr ⟨lw_p22, List.forall_mem_cons.mpr ⟨lw_p23, List.forall_mem_cons.mpr ⟨lw_p24, List.forall_mem_cons.mpr ⟨lw_p25, List.forall_mem_cons.mpr ⟨lw_p26, List.forall_mem_cons.mpr ⟨lw_p27, List.forall_mem_cons.mpr ⟨lw_p28, List.forall_mem_cons.mpr ⟨lw_p29, List.forall_mem_cons.mpr ⟨lw_p30, List.forall_mem_cons.mpr ⟨lw_p31, fun _ h => absurd h List.not_mem_nil⟩⟩⟩⟩⟩⟩⟩⟩⟩⟩⟩⟩⟩⟩⟩⟩
theorem lw_p32 : lw_okq (⟨"java/util/ArrayList", "grow", "(I)[Ljava/lang/Object;"⟩, 3) := ⟨⟨by decide +kernel, by decide +kernel⟩, List.mem_of_getElem? (i := 1120) (by decide +kernel), List.mem_of_getElem? (i := 1287) (by decide +kernel), List.mem_of_getElem? (i := 1288) (by decide +kernel)⟩
theorem lw_p33 : lw_okq (⟨"TenonyardModel", "changes", "()V"⟩, 27) := ⟨⟨by decide +kernel, by decide +kernel⟩, List.mem_of_getElem? (i := 1114) (by decide +kernel), List.mem_of_getElem? (i := 1339) (by decide +kernel), List.mem_of_getElem? (i := 1340) (by decide +kernel)⟩
theorem lw_p34 : lw_okq (⟨"TenonyardModel", "tell", "(I)I"⟩, 27) := ⟨⟨by decide +kernel, by decide +kernel⟩, List.mem_of_getElem? (i := 1114) (by decide +kernel), List.mem_of_getElem? (i := 1343) (by decide +kernel), List.mem_of_getElem? (i := 1344) (by decide +kernel)⟩
theorem lw_p35 : lw_okq (⟨"TenonyardModel", "isNode", "(I)Z"⟩, 27) := ⟨⟨by decide +kernel, by decide +kernel⟩, List.mem_of_getElem? (i := 1114) (by decide +kernel), List.mem_of_getElem? (i := 1351) (by decide +kernel), List.mem_of_getElem? (i := 1352) (by decide +kernel)⟩
theorem lw_p36 : lw_okq (⟨"TenonyardModel", "reckons", "()V"⟩, 27) := ⟨⟨by decide +kernel, by decide +kernel⟩, List.mem_of_getElem? (i := 1114) (by decide +kernel), List.mem_of_getElem? (i := 1408) (by decide +kernel), List.mem_of_getElem? (i := 1409) (by decide +kernel)⟩
theorem lw_p37 : lw_okq (⟨"TenonyardModel", "unknowns", "()I"⟩, 27) := ⟨⟨by decide +kernel, by decide +kernel⟩, List.mem_of_getElem? (i := 1114) (by decide +kernel), List.mem_of_getElem? (i := 1412) (by decide +kernel), List.mem_of_getElem? (i := 1413) (by decide +kernel)⟩
theorem lw_p38 : lw_okq (⟨"TenonyardModel", "determinant", "(I)J"⟩, 27) := ⟨⟨by decide +kernel, by decide +kernel⟩, List.mem_of_getElem? (i := 1114) (by decide +kernel), List.mem_of_getElem? (i := 1416) (by decide +kernel), List.mem_of_getElem? (i := 1417) (by decide +kernel)⟩
theorem lw_p39 : lw_okq (⟨"TenonyardModel", "isBorne", "(IZ)Z"⟩, 27) := ⟨⟨by decide +kernel, by decide +kernel⟩, List.mem_of_getElem? (i := 1114) (by decide +kernel), List.mem_of_getElem? (i := 1420) (by decide +kernel), List.mem_of_getElem? (i := 1421) (by decide +kernel)⟩
theorem lw_p40 : lw_okq (⟨"TenonyardModel", "expanded", "(III)J"⟩, 27) := ⟨⟨by decide +kernel, by decide +kernel⟩, List.mem_of_getElem? (i := 1114) (by decide +kernel), List.mem_of_getElem? (i := 1425) (by decide +kernel), List.mem_of_getElem? (i := 1426) (by decide +kernel)⟩
theorem lw_p41 : lw_okq (⟨"TenonyardModel", "loadIn", "(I)J"⟩, 27) := ⟨⟨by decide +kernel, by decide +kernel⟩, List.mem_of_getElem? (i := 1114) (by decide +kernel), List.mem_of_getElem? (i := 1429) (by decide +kernel), List.mem_of_getElem? (i := 1430) (by decide +kernel)⟩
theorem lw_p42 : lw_okq (⟨"TenonyardModel", "draws", "(II)I"⟩, 27) := ⟨⟨by decide +kernel, by decide +kernel⟩, List.mem_of_getElem? (i := 1114) (by decide +kernel), List.mem_of_getElem? (i := 1433) (by decide +kernel), List.mem_of_getElem? (i := 1434) (by decide +kernel)⟩
theorem lw_p43 : lw_okq (⟨"TenonyardModel", "wayX", "(LTenonyardModel$Member;I)I"⟩, 27) := ⟨⟨by decide +kernel, by decide +kernel⟩, List.mem_of_getElem? (i := 1114) (by decide +kernel), List.mem_of_getElem? (i := 1437) (by decide +kernel), List.mem_of_getElem? (i := 1438) (by decide +kernel)⟩
theorem lw_p44 : lw_okq (⟨"TenonyardModel", "wayY", "(LTenonyardModel$Member;I)I"⟩, 27) := ⟨⟨by decide +kernel, by decide +kernel⟩, List.mem_of_getElem? (i := 1114) (by decide +kernel), List.mem_of_getElem? (i := 1441) (by decide +kernel), List.mem_of_getElem? (i := 1442) (by decide +kernel)⟩
theorem lw_p45 : lw_okq (⟨"TenonyardModel", "isMember", "(I)Z"⟩, 27) := ⟨⟨by decide +kernel, by decide +kernel⟩, List.mem_of_getElem? (i := 1114) (by decide +kernel), List.mem_of_getElem? (i := 1449) (by decide +kernel), List.mem_of_getElem? (i := 1450) (by decide +kernel)⟩
theorem lw_p46 : lw_okq (⟨"TenonyardModel", "failsLong", "(I)J"⟩, 27) := ⟨⟨by decide +kernel, by decide +kernel⟩, List.mem_of_getElem? (i := 1114) (by decide +kernel), List.mem_of_getElem? (i := 1453) (by decide +kernel), List.mem_of_getElem? (i := 1454) (by decide +kernel)⟩
theorem lw_p47 : lw_okq (⟨"TenonyardModel", "stands", "()Z"⟩, 27) := ⟨⟨by decide +kernel, by decide +kernel⟩, List.mem_of_getElem? (i := 1114) (by decide +kernel), List.mem_of_getElem? (i := 1457) (by decide +kernel), List.mem_of_getElem? (i := 1458) (by decide +kernel)⟩
def lw_privs_3 : List (MethodName × Nat) := [(⟨"java/util/ArrayList", "grow", "(I)[Ljava/lang/Object;"⟩, 3), (⟨"TenonyardModel", "changes", "()V"⟩, 27), (⟨"TenonyardModel", "tell", "(I)I"⟩, 27), (⟨"TenonyardModel", "isNode", "(I)Z"⟩, 27), (⟨"TenonyardModel", "reckons", "()V"⟩, 27), (⟨"TenonyardModel", "unknowns", "()I"⟩, 27), (⟨"TenonyardModel", "determinant", "(I)J"⟩, 27), (⟨"TenonyardModel", "isBorne", "(IZ)Z"⟩, 27), (⟨"TenonyardModel", "expanded", "(III)J"⟩, 27), (⟨"TenonyardModel", "loadIn", "(I)J"⟩, 27), (⟨"TenonyardModel", "draws", "(II)I"⟩, 27), (⟨"TenonyardModel", "wayX", "(LTenonyardModel$Member;I)I"⟩, 27), (⟨"TenonyardModel", "wayY", "(LTenonyardModel$Member;I)I"⟩, 27), (⟨"TenonyardModel", "isMember", "(I)Z"⟩, 27), (⟨"TenonyardModel", "failsLong", "(I)J"⟩, 27), (⟨"TenonyardModel", "stands", "()Z"⟩, 27)]
theorem lw_r3 : ∀ q ∈ lw_privs_3, lw_okq q := List.forall_mem_cons.mpr ⟨lw_p32, List.forall_mem_cons.mpr ⟨lw_p33, List.forall_mem_cons.mpr ⟨lw_p34, List.forall_mem_cons.mpr ⟨lw_p35, List.forall_mem_cons.mpr ⟨lw_p36, List.forall_mem_cons.mpr ⟨lw_p37, List.forall_mem_cons.mpr ⟨lw_p38, List.forall_mem_cons.mpr ⟨lw_p39, List.forall_mem_cons.mpr ⟨lw_p40, List.forall_mem_cons.mpr ⟨lw_p41, List.forall_mem_cons.mpr ⟨lw_p42, List.forall_mem_cons.mpr ⟨lw_p43, List.forall_mem_cons.mpr ⟨lw_p44, List.forall_mem_cons.mpr ⟨lw_p45, List.forall_mem_cons.mpr ⟨lw_p46, List.forall_mem_cons.mpr ⟨lw_p47, fun _ h => absurd h List.not_mem_nil⟩⟩⟩⟩⟩⟩⟩⟩⟩⟩⟩⟩⟩⟩⟩⟩
theorem lw_p48 : lw_okq (⟨"TenonyardModel", "forceOf", "(I)J"⟩, 27) := ⟨⟨by decide +kernel, by decide +kernel⟩, List.mem_of_getElem? (i := 1114) (by decide +kernel), List.mem_of_getElem? (i := 1461) (by decide +kernel), List.mem_of_getElem? (i := 1462) (by decide +kernel)⟩
theorem lw_p49 : lw_okq (⟨"TenonyardModel", "reckonsForce", "(I)J"⟩, 27) := ⟨⟨by decide +kernel, by decide +kernel⟩, List.mem_of_getElem? (i := 1114) (by decide +kernel), List.mem_of_getElem? (i := 1465) (by decide +kernel), List.mem_of_getElem? (i := 1466) (by decide +kernel)⟩
theorem lw_p50 : lw_okq (⟨"TenonyardModel", "isAtMost", "(JJJJ)Z"⟩, 27) := ⟨⟨by decide +kernel, by decide +kernel⟩, List.mem_of_getElem? (i := 1114) (by decide +kernel), List.mem_of_getElem? (i := 1476) (by decide +kernel), List.mem_of_getElem? (i := 1477) (by decide +kernel)⟩
theorem lw_p51 : lw_okq (⟨"TenonyardModel", "tellLong", "(J)J"⟩, 27) := ⟨⟨by decide +kernel, by decide +kernel⟩, List.mem_of_getElem? (i := 1114) (by decide +kernel), List.mem_of_getElem? (i := 1503) (by decide +kernel), List.mem_of_getElem? (i := 1504) (by decide +kernel)⟩
theorem lw_p52 : lw_okq (⟨"TenonyardModel", "thousandths", "(J)J"⟩, 27) := ⟨⟨by decide +kernel, by decide +kernel⟩, List.mem_of_getElem? (i := 1114) (by decide +kernel), List.mem_of_getElem? (i := 1511) (by decide +kernel), List.mem_of_getElem? (i := 1512) (by decide +kernel)⟩
theorem lw_p53 : lw_okq (⟨"TenonyardModel", "bearingOf", "(IZ)J"⟩, 27) := ⟨⟨by decide +kernel, by decide +kernel⟩, List.mem_of_getElem? (i := 1114) (by decide +kernel), List.mem_of_getElem? (i := 1522) (by decide +kernel), List.mem_of_getElem? (i := 1523) (by decide +kernel)⟩
theorem lw_p54 : lw_okq (⟨"TenonyardModel", "refuses", "(I)Z"⟩, 27) := ⟨⟨by decide +kernel, by decide +kernel⟩, List.mem_of_getElem? (i := 1114) (by decide +kernel), List.mem_of_getElem? (i := 1530) (by decide +kernel), List.mem_of_getElem? (i := 1531) (by decide +kernel)⟩
theorem lw_p55 : lw_okq (⟨"TenonyardModel", "restOf", "(II)J"⟩, 27) := ⟨⟨by decide +kernel, by decide +kernel⟩, List.mem_of_getElem? (i := 1114) (by decide +kernel), List.mem_of_getElem? (i := 1534) (by decide +kernel), List.mem_of_getElem? (i := 1535) (by decide +kernel)⟩
theorem lw_p56 : lw_okq (⟨"TenonyardModel", "tells", "(Z)Z"⟩, 27) := ⟨⟨by decide +kernel, by decide +kernel⟩, List.mem_of_getElem? (i := 1114) (by decide +kernel), List.mem_of_getElem? (i := 1538) (by decide +kernel), List.mem_of_getElem? (i := 1539) (by decide +kernel)⟩
theorem lw_p57 : lw_okq (⟨"TenonyardModel", "isJoint", "(I)Z"⟩, 27) := ⟨⟨by decide +kernel, by decide +kernel⟩, List.mem_of_getElem? (i := 1114) (by decide +kernel), List.mem_of_getElem? (i := 1588) (by decide +kernel), List.mem_of_getElem? (i := 1589) (by decide +kernel)⟩
theorem lw_p58 : lw_okq (⟨"TenonyardModel", "isGood", "(LTenonyardModel$Joint;)Z"⟩, 27) := ⟨⟨by decide +kernel, by decide +kernel⟩, List.mem_of_getElem? (i := 1114) (by decide +kernel), List.mem_of_getElem? (i := 1592) (by decide +kernel), List.mem_of_getElem? (i := 1593) (by decide +kernel)⟩
theorem lw_p59 : lw_okq (⟨"TenonyardModel", "gapOf", "(LTenonyardModel$Joint;)I"⟩, 27) := ⟨⟨by decide +kernel, by decide +kernel⟩, List.mem_of_getElem? (i := 1114) (by decide +kernel), List.mem_of_getElem? (i := 1621) (by decide +kernel), List.mem_of_getElem? (i := 1622) (by decide +kernel)⟩
theorem lw_p60 : lw_okq (⟨"TenonyardModel", "pieceOf", "(I)I"⟩, 27) := ⟨⟨by decide +kernel, by decide +kernel⟩, List.mem_of_getElem? (i := 1114) (by decide +kernel), List.mem_of_getElem? (i := 1656) (by decide +kernel), List.mem_of_getElem? (i := 1657) (by decide +kernel)⟩
theorem lw_p61 : lw_okq (⟨"TenonyardModel", "areCut", "()Z"⟩, 27) := ⟨⟨by decide +kernel, by decide +kernel⟩, List.mem_of_getElem? (i := 1114) (by decide +kernel), List.mem_of_getElem? (i := 1664) (by decide +kernel), List.mem_of_getElem? (i := 1665) (by decide +kernel)⟩
theorem lw_p62 : lw_okq (⟨"TenonyardModel", "saws", "()V"⟩, 27) := ⟨⟨by decide +kernel, by decide +kernel⟩, List.mem_of_getElem? (i := 1114) (by decide +kernel), List.mem_of_getElem? (i := 1668) (by decide +kernel), List.mem_of_getElem? (i := 1669) (by decide +kernel)⟩
theorem lw_p63 : lw_okq (⟨"TenonyardModel", "sums", "()V"⟩, 27) := ⟨⟨by decide +kernel, by decide +kernel⟩, List.mem_of_getElem? (i := 1114) (by decide +kernel), List.mem_of_getElem? (i := 1672) (by decide +kernel), List.mem_of_getElem? (i := 1673) (by decide +kernel)⟩
def lw_privs_4 : List (MethodName × Nat) := [(⟨"TenonyardModel", "forceOf", "(I)J"⟩, 27), (⟨"TenonyardModel", "reckonsForce", "(I)J"⟩, 27), (⟨"TenonyardModel", "isAtMost", "(JJJJ)Z"⟩, 27), (⟨"TenonyardModel", "tellLong", "(J)J"⟩, 27), (⟨"TenonyardModel", "thousandths", "(J)J"⟩, 27), (⟨"TenonyardModel", "bearingOf", "(IZ)J"⟩, 27), (⟨"TenonyardModel", "refuses", "(I)Z"⟩, 27), (⟨"TenonyardModel", "restOf", "(II)J"⟩, 27), (⟨"TenonyardModel", "tells", "(Z)Z"⟩, 27), (⟨"TenonyardModel", "isJoint", "(I)Z"⟩, 27), (⟨"TenonyardModel", "isGood", "(LTenonyardModel$Joint;)Z"⟩, 27), (⟨"TenonyardModel", "gapOf", "(LTenonyardModel$Joint;)I"⟩, 27), (⟨"TenonyardModel", "pieceOf", "(I)I"⟩, 27), (⟨"TenonyardModel", "areCut", "()Z"⟩, 27), (⟨"TenonyardModel", "saws", "()V"⟩, 27), (⟨"TenonyardModel", "sums", "()V"⟩, 27)]
theorem lw_r4 : ∀ q ∈ lw_privs_4, lw_okq q := List.forall_mem_cons.mpr ⟨lw_p48, List.forall_mem_cons.mpr ⟨lw_p49, List.forall_mem_cons.mpr ⟨lw_p50, List.forall_mem_cons.mpr ⟨lw_p51, List.forall_mem_cons.mpr ⟨lw_p52, List.forall_mem_cons.mpr ⟨lw_p53, List.forall_mem_cons.mpr ⟨lw_p54, List.forall_mem_cons.mpr ⟨lw_p55, List.forall_mem_cons.mpr ⟨lw_p56, List.forall_mem_cons.mpr ⟨lw_p57, List.forall_mem_cons.mpr ⟨lw_p58, List.forall_mem_cons.mpr ⟨lw_p59, List.forall_mem_cons.mpr ⟨lw_p60, List.forall_mem_cons.mpr ⟨lw_p61, List.forall_mem_cons.mpr ⟨lw_p62, List.forall_mem_cons.mpr ⟨lw_p63, fun _ h => absurd h List.not_mem_nil⟩⟩⟩⟩⟩⟩⟩⟩⟩⟩⟩⟩⟩⟩⟩⟩
theorem lw_p64 : lw_okq (⟨"TenonyardModel", "areEnough", "(I)Z"⟩, 27) := ⟨⟨by decide +kernel, by decide +kernel⟩, List.mem_of_getElem? (i := 1114) (by decide +kernel), List.mem_of_getElem? (i := 1681) (by decide +kernel), List.mem_of_getElem? (i := 1682) (by decide +kernel)⟩
theorem lw_p65 : lw_okq (⟨"TenonyardModel", "isFilled", "(ILTenonyardModel$Stick;)Z"⟩, 27) := ⟨⟨by decide +kernel, by decide +kernel⟩, List.mem_of_getElem? (i := 1114) (by decide +kernel), List.mem_of_getElem? (i := 1685) (by decide +kernel), List.mem_of_getElem? (i := 1686) (by decide +kernel)⟩
theorem lw_p66 : lw_okq (⟨"TenonyardModel", "cuts", "(II)Z"⟩, 27) := ⟨⟨by decide +kernel, by decide +kernel⟩, List.mem_of_getElem? (i := 1114) (by decide +kernel), List.mem_of_getElem? (i := 1689) (by decide +kernel), List.mem_of_getElem? (i := 1690) (by decide +kernel)⟩
theorem lw_p67 : lw_okq (⟨"TenonyardModel", "isBefore", "()Z"⟩, 27) := ⟨⟨by decide +kernel, by decide +kernel⟩, List.mem_of_getElem? (i := 1114) (by decide +kernel), List.mem_of_getElem? (i := 1693) (by decide +kernel), List.mem_of_getElem? (i := 1694) (by decide +kernel)⟩
theorem lw_p68 : lw_okq (⟨"TenonyardModel", "hasOrder", "()Z"⟩, 27) := ⟨⟨by decide +kernel, by decide +kernel⟩, List.mem_of_getElem? (i := 1114) (by decide +kernel), List.mem_of_getElem? (i := 1713) (by decide +kernel), List.mem_of_getElem? (i := 1714) (by decide +kernel)⟩
theorem lw_p69 : lw_okq (⟨"TenonyardModel", "raises", "()V"⟩, 27) := ⟨⟨by decide +kernel, by decide +kernel⟩, List.mem_of_getElem? (i := 1114) (by decide +kernel), List.mem_of_getElem? (i := 1717) (by decide +kernel), List.mem_of_getElem? (i := 1718) (by decide +kernel)⟩
theorem lw_p70 : lw_okq (⟨"TenonyardModel", "canFollow", "(II)Z"⟩, 27) := ⟨⟨by decide +kernel, by decide +kernel⟩, List.mem_of_getElem? (i := 1114) (by decide +kernel), List.mem_of_getElem? (i := 1721) (by decide +kernel), List.mem_of_getElem? (i := 1722) (by decide +kernel)⟩
theorem lw_p71 : lw_okq (⟨"TenonyardModel", "canGoIn", "(II)Z"⟩, 27) := ⟨⟨by decide +kernel, by decide +kernel⟩, List.mem_of_getElem? (i := 1114) (by decide +kernel), List.mem_of_getElem? (i := 1725) (by decide +kernel), List.mem_of_getElem? (i := 1726) (by decide +kernel)⟩
theorem lw_p72 : lw_okq (⟨"TenonyardModel", "propsFor", "(I)I"⟩, 27) := ⟨⟨by decide +kernel, by decide +kernel⟩, List.mem_of_getElem? (i := 1114) (by decide +kernel), List.mem_of_getElem? (i := 1733) (by decide +kernel), List.mem_of_getElem? (i := 1734) (by decide +kernel)⟩
theorem lw_p73 : lw_okq (⟨"TenonyardModel", "isTakenAway", "(I)Z"⟩, 27) := ⟨⟨by decide +kernel, by decide +kernel⟩, List.mem_of_getElem? (i := 1114) (by decide +kernel), List.mem_of_getElem? (i := 1745) (by decide +kernel), List.mem_of_getElem? (i := 1746) (by decide +kernel)⟩
def lw_privs_5 : List (MethodName × Nat) := [(⟨"TenonyardModel", "areEnough", "(I)Z"⟩, 27), (⟨"TenonyardModel", "isFilled", "(ILTenonyardModel$Stick;)Z"⟩, 27), (⟨"TenonyardModel", "cuts", "(II)Z"⟩, 27), (⟨"TenonyardModel", "isBefore", "()Z"⟩, 27), (⟨"TenonyardModel", "hasOrder", "()Z"⟩, 27), (⟨"TenonyardModel", "raises", "()V"⟩, 27), (⟨"TenonyardModel", "canFollow", "(II)Z"⟩, 27), (⟨"TenonyardModel", "canGoIn", "(II)Z"⟩, 27), (⟨"TenonyardModel", "propsFor", "(I)I"⟩, 27), (⟨"TenonyardModel", "isTakenAway", "(I)Z"⟩, 27)]
theorem lw_r5 : ∀ q ∈ lw_privs_5, lw_okq q := List.forall_mem_cons.mpr ⟨lw_p64, List.forall_mem_cons.mpr ⟨lw_p65, List.forall_mem_cons.mpr ⟨lw_p66, List.forall_mem_cons.mpr ⟨lw_p67, List.forall_mem_cons.mpr ⟨lw_p68, List.forall_mem_cons.mpr ⟨lw_p69, List.forall_mem_cons.mpr ⟨lw_p70, List.forall_mem_cons.mpr ⟨lw_p71, List.forall_mem_cons.mpr ⟨lw_p72, List.forall_mem_cons.mpr ⟨lw_p73, fun _ h => absurd h List.not_mem_nil⟩⟩⟩⟩⟩⟩⟩⟩⟩⟩
def lw_privs : List (MethodName × Nat) := lw_privs_1 ++ (lw_privs_2 ++ (lw_privs_3 ++ (lw_privs_4 ++ (lw_privs_5))))
def lw_tbl : List Cond := k2_sels lw_privs ++ tables_1
theorem lw_privs_ok : ∀ q ∈ lw_privs, lw_okq q := by
  show ∀ q ∈ lw_privs_1 ++ (lw_privs_2 ++ (lw_privs_3 ++ (lw_privs_4 ++ (lw_privs_5)))), lw_okq q
  exact List.forall_mem_append.mpr ⟨lw_r1, List.forall_mem_append.mpr ⟨lw_r2, List.forall_mem_append.mpr ⟨lw_r3, List.forall_mem_append.mpr ⟨lw_r4, lw_r5⟩⟩⟩⟩
/-- the streams that the claim lets the run draw from -/
abbrev lw_cs : List Choice := [Jvm.Choice.named "NaN.bits"]
theorem lw_bits : nanBits ∈ lw_cs := by first | decide | exact List.mem_cons_self | simp [lw_cs, nanBits]
end
section
/-! ===== BEGIN words of one list among another's, by their places ===== -/
theorem goodIn_r {big : List Cond} (ws : List Cond) (ps : List Nat) (hp : ws = ps.filterMap (fun i => big[i]?)) (h : ws.all goodWord = true) : GoodIn big ws := by
  intro w hw
  have h1 := List.all_eq_true.mp h w hw
  rw [hp] at hw
  obtain ⟨i, -, hi⟩ := List.mem_filterMap.mp hw
  have hm : w ∈ big := by first | exact List.mem_of_getElem? hi | exact List.getElem?_mem hi
  exact ⟨hm, good_of_word h1⟩
theorem goodIn_app {big a b : List Cond} (ha : GoodIn big a) (hb : GoodIn big b) : GoodIn big (a ++ b) := fun w h => (List.mem_append.mp h).elim (ha w) (hb w)
theorem goodIn_ca {big a b : List Cond} {c : Cond} (ha : GoodIn big (c :: a)) (hb : GoodIn big b) : GoodIn big (c :: (a ++ b)) := fun w h => (List.mem_cons.mp h).elim (fun e => ha w (List.mem_cons.mpr (Or.inl e))) (fun h => (List.mem_append.mp h).elim (fun h => ha w (List.mem_cons.mpr (Or.inr h))) (hb w))
theorem goodIn_sub {big ws : List Cond} (hm : ∀ w ∈ ws, w ∈ big) (h : ws.all goodWord = true) : GoodIn big ws := fun w hw => ⟨hm w hw, good_of_word (List.all_eq_true.mp h w hw)⟩
/-! ===== END ===== -/

/-! ===== BEGIN exceptions that leave a method, and their catching by the caller (launches without stack traces) ===== -/
section VXA
/-! The laws vx_back, vx_callV, vx_callS, vx_callSW, vx_throw0, vx_throwS follow proofs of the library, with one case more: JvmDerived/Free/Laws.lean (Back.of_free), Shelf42/LK1.lean (callV, callS), Shelf/KitTraced.lean (throwNew0V, throwNewS). -/
/-- where a method has thrown q: the class by its name, the cell, what was written, the world -/
def vx_T (XC : String → State → State → Prop) (st : State) (q : Addr) (t : State) (mc ms : Nat) (free : Addr → Prop) : Prop :=
  ∃ (E : String) (ce : Cell) (L : List Loc), XC E st t ∧ t.heap[q]? = some ce ∧ ce.vm = .none ∧ st.vm.findClass E = some ce.cls ∧ st.WarmedH t.vm ∧ st.sameButNew ({ t with vm := st.vm } : State) L mc ms ∧ ∀ z ∈ L, free z.base
def vx_Q (Qc : Array Value → State → Outcome → State → Prop) (XC : String → State → State → Prop) (mc ms : Nat) (free : Addr → Prop) : Array Value → State → Outcome → State → Prop := fun a st o t =>
  (Qc a st o t ∧ ∃ L, FrameEnd st o t L mc ms ∧ ∀ q ∈ L, free q.base) ∨ ∃ q, o = .threw q ∧ vx_T XC st q t mc ms free
/-- a callee that returns or throws -/
def vx_Met (l : Launch) (y : MethodName) (ws : List Cond) (rm : Room) (Pc : Array Value → State → Prop) (Qc : Array Value → State → Outcome → State → Prop) (XC : String → State → State → Prop) (mc ms : Nat) (free : Addr → Prop) : Prop :=
  MetFree l y (headSpec ws rm) Pc (fun _ _ _ _ _ => True) (vx_Q Qc XC mc ms free)
def vx_Post (XC : String → State → State → Prop) (mc ms : Nat) (free : Addr → Prop) : Pt → Array Value → Addr → Pt → Prop := fun A a q B =>
  ∃ (g : JFrame) (mk : MethodId) (t : State) (L : List Loc) (E : String) (ce : Cell), B.U.heap = t.heap ∧ B.U.vm = t.vm ∧ XC E (A.U.calling g mk a) t ∧ t.heap[q]? = some ce ∧ ce.vm = .none ∧ A.U.vm.findClass E = some ce.cls ∧ B.locs = A.locs ++ L ∧ (∀ z ∈ L, free z.base) ∧ B.cells = A.cells + mc ∧ B.slots = A.slots + ms
def vx_Back (l : Launch) (R : Room) (p : Program) (e : Env) (below : List Frame) (s : State) (sargs : Array Value) (y : MethodName) (len W9 : Nat)
    (Pre : Pt → Array Value → Prop) (Post : Pt → Array Value → Option Value → Pt → Prop) (PostX : Pt → Array Value → Addr → Pt → Prop) : Prop :=
  ∀ (m : MethodId) (meth : Method) (c : Code) (A : Pt) (g : JFrame) (ig : Instr) (mk : MethodId) (a : Array Value),
    Stand p l e R s m sargs below meth c A.U A.locs A.cells A.slots → g.method = m → g.locals.size = c.maxLocals → decode c.code g.pc = .ok (ig, len) →
    2 * g.monitorRoom + (g.stack.map fun v => v.category).sum ≤ W9 → A.U.methodNamed? y = some mk → Pre A a →
    (∃ (v : Option Value) (B : Pt), Stand p l e R s m sargs below meth c B.U B.locs B.cells B.slots ∧ Post A a v B ∧
      Steps p.tables e below (doInvoke e (A.U.setTop g) [] mk a).1 (B.U.setTop { g with pc := g.pc + len, stack := v.toList ++ g.stack })) ∨
    (∃ (q : Addr) (B : Pt), Stand p l e R s m sargs below meth c B.U B.locs B.cells B.slots ∧ PostX A a q B ∧
      Steps p.tables e below (doInvoke e (A.U.setTop g) [] mk a).1 ((B.U.setTop g).pushFrame (.throwing q)))
section Payer
variable {l : Launch} {R : Room} {p : Program} {e : Env} {below : List Frame} {s : State} {sargs : Array Value} {y : MethodName} {len W9 : Nat}
theorem vx_back {ws : List Cond} {rm : Room} {Pc : Array Value → State → Prop} {Qc : Array Value → State → Outcome → State → Prop} {XC : String → State → State → Prop} {mc ms : Nat} {free : Addr → Prop} {bytes : ByteArray} {maxL : Nat} {ret : Option FieldType}
    (hM : vx_Met l y ws rm Pc Qc XC mc ms free) (hblind : FrameBlind Pc) (hrc : rm.cells = mc) (hrs : rm.slots = ms)
    (hframes : rm.frames + 1 ≤ R.frames) (hlocals : W9 + (maxL + 11) + rm.locals ≤ R.locals)
    (hws : ∀ w ∈ ws, ∀ a' U, s.WarmedH U.vm → w.before a' U = true) (hcode : Cond.code y bytes maxL ret ∈ ws) (hinit : ∀ a' U, s.WarmedH U.vm → (Cond.initialized y.cls).before a' U = true) :
    vx_Back l R p e below s sargs y len W9 (PreOf R mc ms Pc) (PostOf Qc mc ms free) (vx_Post XC mc ms free) := by
  intro m meth c A g ig mk a X hg hsize hdg hW hn hp
  have h1 : (headSpec ws rm).pre.before a A.U = true := atoms_intro fun w hw => hws w hw _ _ X.warmed
  have h2 : (Cond.code y bytes maxL ret).before a A.U = true := hws _ hcode _ _ X.warmed
  have h3 : (Cond.initialized y.cls).before a A.U = true := hinit _ _ X.warmed
  have h4 : A.cells + (headSpec ws rm).room.cells ≤ R.cells := by rw [show (headSpec ws rm).room.cells = mc from hrc]; exact hp.1
  have h5 : A.slots + (headSpec ws rm).room.slots ≤ R.slots := by rw [show (headSpec ws rm).room.slots = ms from hrs]; exact hp.2.1
  have hPc : Pc a (A.U.calling g mk a) := hblind _ _ _ _ hp.2.2
  obtain ⟨U, Ls, c0, s0⟩ := A
  dsimp only [Pt.U, Pt.locs, Pt.cells, Pt.slots] at h1 h2 h3 h4 h5 X hn hPc ⊢
  obtain ⟨methY, cY, hmY, hcY, -, hlY, -, -, -, -⟩ := Cond.code_spec hn h2
  obtain ⟨kY, hkY, -⟩ := className_of_methodNamed hn
  have hinitY : kY.init = .initialized := Cond.initialized_spec (findClass_of_methodNamed hn) hkY h3
  have h : At U g.method c below := by rw [hg]; exact X.here
  have hlocals9 : W9 + (maxL + 11) + (headSpec ws rm).room.locals ≤ R.locals := hlocals
  have happ : (headSpec ws rm).appliesLoose y e.platform (U.calling g mk a) = true :=
    Spec.appliesLoose_calling (g := g) h hdg hn hkY hinitY
      (X.room_calling (g := g) (R' := (headSpec ws rm).room) hsize hmY hcY hframes (by rw [hlY]; omega) h4 h5) h1
  obtain ⟨mid, hmid⟩ := h.above
  have hfr : (U.setTop g).frames = (.java g :: mid) ++ below := by rw [State.frames_setTop' g h.top, hmid]; rfl
  obtain ⟨o, s₂, hsteps, -, hend, hq⟩ := Steps.callFree hM p X.admits X.cas X.clock (acts := []) hfr happ hPc trivial
  have hq' : vx_Q Qc XC mc ms free a (U.calling g mk a) o s₂ := hq
  rw [State.frames_setTop' g h.top] at hend
  obtain ⟨g₀, hg0⟩ := Option.isSome_iff_exists.mp h.top
  obtain ⟨r, hr⟩ := State.topJava?_eq_some.mp hg0
  have hr' : (({ U with heap := s₂.heap, slotsUsed := s₂.slotsUsed } : State).setVm s₂.vm).frames = .java g₀ :: r := hr
  rcases hq' with ⟨hqc, L, hfe, hL⟩ | ⟨q, rfl, E, ce, L, hx, hce, hcv, hcl, hW₂, hsm, hL⟩
  · obtain ⟨⟨v, rfl⟩, hW₂, e2, q2, q3, q4, q5, q6⟩ := id hfe
    have e3 : s₂ = ({ (U.calling g mk a).setFrames s₂.frames with heap := s₂.heap, slotsUsed := s₂.slotsUsed } : State).setVm s₂.vm := by
      have : s₂ = ({ s₂ with vm := (U.calling g mk a).vm } : State).setVm s₂.vm := rfl
      rw [e2] at this
      exact this
    obtain ⟨c₂, i₂, len₂, hc₂, hd₂, hf₂⟩ := hend
    have hW' : U.WarmedH s₂.vm := hW₂
    have hcc : c₂ = c := by
      have h1 : s₂.code? g.method = U.code? g.method := by
        rw [State.code?_eq, State.code?_eq, hW'.alike.method?]
      exact Option.some.inj (hc₂.symm.trans (h1.trans h.code))
    subst hcc
    have hlen : len₂ = len := by rw [hdg] at hd₂; cases hd₂; rfl
    subst hlen
    have hs₂ : s₂ = (({ U with heap := s₂.heap, slotsUsed := s₂.slotsUsed } : State).setVm s₂.vm).setTop { g with pc := g.pc + len₂, stack := v.toList ++ g.stack } := by
      refine e3.trans ?_
      rw [hf₂, State.calling_eq h.top, State.setFrames_setFrames, State.setTop_of_frames _ hr', hr]
      rfl
    have hsame : U.sameButNew ({ U with heap := s₂.heap, slotsUsed := s₂.slotsUsed } : State) L mc ms := by
      refine ⟨?_, q2, q3, q4, q5, q6⟩
      obtain ⟨t, ht, -⟩ := State.frames_cons hr
      show ({ U with heap := s₂.heap, slotsUsed := s₂.slotsUsed } : State) = { U.setFrames U.frames with heap := s₂.heap, slotsUsed := s₂.slotsUsed }
      rw [State.setFrames_self ht]
    subst hg
    refine Or.inl ⟨v, ⟨(({ U with heap := s₂.heap, slotsUsed := s₂.slotsUsed } : State).setVm s₂.vm), Ls ++ L, c0 + mc, s0 + ms⟩,
      ⟨X.admits, X.cas, X.clock, X.frames, X.room, X.hears, X.method, X.code, (X.here.setHeapUsed s₂.heap s₂.slotsUsed).setVm hW'.alike, X.tail, State.WarmedH.trans X.warmed hW', X.limits, X.bytes, X.same.trans (hsame.setVm s.vm)⟩,
      ⟨g, mk, s₂, L, rfl, rfl, hqc, rfl, hL, rfl, rfl⟩, ?_⟩
    show Steps p.tables e below _ ((({ U with heap := s₂.heap, slotsUsed := s₂.slotsUsed } : State).setVm s₂.vm).setTop { g with pc := g.pc + len₂, stack := v.toList ++ g.stack })
    rw [← hs₂]
    exact hsteps
  · obtain ⟨e2, q2, q3, q4, q5, q6⟩ := id hsm
    have e3 : s₂ = ({ (U.calling g mk a).setFrames s₂.frames with heap := s₂.heap, slotsUsed := s₂.slotsUsed } : State).setVm s₂.vm := by
      have : s₂ = ({ s₂ with vm := (U.calling g mk a).vm } : State).setVm s₂.vm := rfl
      rw [e2] at this
      exact this
    have hf₂ : s₂.frames = .throwing q :: .java g :: U.frames.tail := hend
    have hW' : U.WarmedH s₂.vm := hW₂
    have hs₂ : s₂ = ((({ U with heap := s₂.heap, slotsUsed := s₂.slotsUsed } : State).setVm s₂.vm).setTop g).pushFrame (.throwing q) := by
      refine e3.trans ?_
      rw [hf₂, State.calling_eq h.top, State.setFrames_setFrames, State.pushFrame, State.frames_setTop _ hr', State.setTop_of_frames _ hr', State.setFrames_setFrames, hr]
      rfl
    have hsame : U.sameButNew ({ U with heap := s₂.heap, slotsUsed := s₂.slotsUsed } : State) L mc ms := by
      refine ⟨?_, q2, q3, q4, q5, q6⟩
      obtain ⟨t, ht, -⟩ := State.frames_cons hr
      show ({ U with heap := s₂.heap, slotsUsed := s₂.slotsUsed } : State) = { U.setFrames U.frames with heap := s₂.heap, slotsUsed := s₂.slotsUsed }
      rw [State.setFrames_self ht]
    subst hg
    refine Or.inr ⟨q, ⟨(({ U with heap := s₂.heap, slotsUsed := s₂.slotsUsed } : State).setVm s₂.vm), Ls ++ L, c0 + mc, s0 + ms⟩,
      ⟨X.admits, X.cas, X.clock, X.frames, X.room, X.hears, X.method, X.code, (X.here.setHeapUsed s₂.heap s₂.slotsUsed).setVm hW'.alike, X.tail, State.WarmedH.trans X.warmed hW', X.limits, X.bytes, X.same.trans (hsame.setVm s.vm)⟩,
      ⟨g, mk, s₂, L, E, ce, rfl, rfl, hx, hce, hcv, hcl, rfl, hL, rfl, rfl⟩, ?_⟩
    show Steps p.tables e below _ (((({ U with heap := s₂.heap, slotsUsed := s₂.slotsUsed } : State).setVm s₂.vm).setTop g).pushFrame (.throwing q))
    rw [← hs₂]
    exact hsteps
end Payer
section Calls
variable {p : Program} {l : Launch} {e : Env} {R : Room} {s : State} {m : MethodId} {args : Array Value} {below : List Frame} {meth : Method} {c : Code} {T : State} {locs : List Loc} {cells slots : Nat}
theorem vx_callV (X : Stand p l e R s m args below meth c T locs cells slots) (hexec : p.tables.exec = Jvm.exec) {own C : String} {index : Nat} {y : MethodName} {bytes : ByteArray} {maxL : Nat} {ret : Option FieldType}
    (hown : s.vm.findClass own = some m.cls) (hlink : (Cond.methodLink own index y).before args s = true) (hinst : (Cond.instanceMethod y).before args s = true) (hsel : (Cond.selects C y y).before args s = true)
    (hcode : (Cond.code y bytes maxL ret).before args s = true) (hy : y.cls ≠ "java/lang/invoke/MethodHandle" ∧ y.cls ≠ "java/lang/invoke/VarHandle")
    {W9 : Nat} {Pre : Pt → Array Value → Prop} {Post : Pt → Array Value → Option Value → Pt → Prop} {PostX : Pt → Array Value → Addr → Pt → Prop} (hK : vx_Back l R p e below s args y 3 W9 Pre Post PostX)
    {b : Addr} {cellB : Cell} (hcell : T.heap[b]? = some cellB) (hobj : cellB.vm.isStatics = false) (hcls : s.vm.findClass C = some cellB.cls)
    {g : JFrame} (hg : g.method = m) (hsize : g.locals.size = c.maxLocals) {argsL rest : List Value} (hlen : ∀ sig, parseMethodDescriptor y.desc = some sig → argsL.length = sig.parameters.length)
    (hstack : g.stack = argsL.reverse ++ .ref b :: rest) (hW : 2 * g.monitorRoom + (rest.map fun v => v.category).sum ≤ W9) (hdg : decode c.code g.pc = .ok (.invokevirtual index, 3))
    (hpre : ∀ vm₁, s.WarmedH vm₁ → Pre ⟨T.setVm vm₁, locs, cells, slots⟩ (Value.ref b :: argsL).toArray) :
    (∃ (v : Option Value) (vm₁ : Vm) (B : Pt), s.WarmedH vm₁ ∧ Stand p l e R s m args below meth c B.U B.locs B.cells B.slots ∧ Post ⟨T.setVm vm₁, locs, cells, slots⟩ (Value.ref b :: argsL).toArray v B ∧
      ∀ target, Steps p.tables e below (B.U.setTop { g with pc := g.pc + 3, stack := v.toList ++ rest }) target → Steps p.tables e below (T.setTop g) target) ∨
    (∃ (q : Addr) (vm₁ : Vm) (B : Pt), s.WarmedH vm₁ ∧ Stand p l e R s m args below meth c B.U B.locs B.cells B.slots ∧ PostX ⟨T.setVm vm₁, locs, cells, slots⟩ (Value.ref b :: argsL).toArray q B ∧
      Steps p.tables e below (T.setTop g) ((B.U.setTop { g with stack := rest }).pushFrame (.throwing q))) := by
  obtain ⟨mk, methM, hnamed, hmethM, hstM, habM⟩ := Cond.instanceMethod_spec hinst
  obtain ⟨methM', cM, hmethM', -, -, -, -, -, -, hsigM⟩ := Cond.code_spec hnamed hcode
  cases hmethM.symm.trans hmethM'
  obtain ⟨c2, r2, m2, q1, q2, q3, q4, kP, hkP, hkPi⟩ := Cond.selects_spec hsel
  cases hcls.symm.trans q1
  cases (State.methodFound?_of_named hnamed hy).symm.trans q2
  cases hnamed.symm.trans q3
  have hselP : selectMethod e.platform s.vm cellB.cls mk = .method mk := by rw [Launch.admits_selectMethod X.admits]; exact q4
  obtain ⟨vm₁, X₁, hstep₁⟩ := X.invokevirtual hexec hown hlink hnamed hmethM hstM hkP hkPi hy (a := b) (cell := cellB) hcell
    (fun z h => by rw [h] at hobj; cases hobj) hselP hmethM habM hkP hkPi (g := g) hg (argsL := argsL) (rest := rest) (hlen _ hsigM) hstack hdg
  rcases hK m meth c ⟨T.setVm vm₁, locs, cells, slots⟩ { g with stack := rest } (.invokevirtual index) mk (Value.ref b :: argsL).toArray X₁ hg hsize hdg hW (X₁.named hnamed) (hpre vm₁ X₁.warmed) with ⟨v, B, X', hpost, hsteps⟩ | ⟨q, B, X', hpost, hsteps⟩
  · exact Or.inl ⟨v, vm₁, B, X₁.warmed, X', hpost, fun target h => hstep₁ _ fun acts => by rw [doInvoke_state]; exact hsteps.trans h⟩
  · exact Or.inr ⟨q, vm₁, B, X₁.warmed, X', hpost, hstep₁ _ fun acts => by rw [doInvoke_state]; exact hsteps⟩
theorem vx_callS (X : Stand p l e R s m args below meth c T locs cells slots) (hexec : p.tables.exec = Jvm.exec) {own : String} {index : Nat} {y : MethodName} {bytes : ByteArray} {maxL : Nat} {ret : Option FieldType}
    (hown : s.vm.findClass own = some m.cls) (hlink : (Cond.methodLink own index y).before args s = true) (hstat : (Cond.static y).before args s = true) (hinit : (Cond.initialized y.cls).before args s = true)
    (hcode : (Cond.code y bytes maxL ret).before args s = true) (hy : y.cls ≠ "java/lang/invoke/MethodHandle" ∧ y.cls ≠ "java/lang/invoke/VarHandle")
    {W9 : Nat} {Pre : Pt → Array Value → Prop} {Post : Pt → Array Value → Option Value → Pt → Prop} {PostX : Pt → Array Value → Addr → Pt → Prop} (hK : vx_Back l R p e below s args y 3 W9 Pre Post PostX)
    {g : JFrame} (hg : g.method = m) (hsize : g.locals.size = c.maxLocals) {argsL rest : List Value} (hlen : ∀ sig, parseMethodDescriptor y.desc = some sig → argsL.length = sig.parameters.length)
    (hstack : g.stack = argsL.reverse ++ rest) (hW : 2 * g.monitorRoom + (rest.map fun v => v.category).sum ≤ W9) (hdg : decode c.code g.pc = .ok (.invokestatic index, 3))
    (hpre : ∀ vm₁, s.WarmedH vm₁ → Pre ⟨T.setVm vm₁, locs, cells, slots⟩ argsL.toArray) :
    (∃ (v : Option Value) (vm₁ : Vm) (B : Pt), s.WarmedH vm₁ ∧ Stand p l e R s m args below meth c B.U B.locs B.cells B.slots ∧ Post ⟨T.setVm vm₁, locs, cells, slots⟩ argsL.toArray v B ∧
      ∀ target, Steps p.tables e below (B.U.setTop { g with pc := g.pc + 3, stack := v.toList ++ rest }) target → Steps p.tables e below (T.setTop g) target) ∨
    (∃ (q : Addr) (vm₁ : Vm) (B : Pt), s.WarmedH vm₁ ∧ Stand p l e R s m args below meth c B.U B.locs B.cells B.slots ∧ PostX ⟨T.setVm vm₁, locs, cells, slots⟩ argsL.toArray q B ∧
      Steps p.tables e below (T.setTop g) ((B.U.setTop { g with stack := rest }).pushFrame (.throwing q))) := by
  obtain ⟨mk, hnamed⟩ := Cond.code_named hcode
  obtain ⟨methM, cM, hmethM, -, -, -, -, -, -, hsigM⟩ := Cond.code_spec hnamed hcode
  have hstatic : methM.isStatic = true := Cond.static_spec hnamed hmethM hstat
  obtain ⟨kP, hkP, -⟩ := className_of_methodNamed hnamed
  have hinitP : kP.init = .initialized := Cond.initialized_spec (findClass_of_methodNamed hnamed) hkP hinit
  obtain ⟨vm₁, X₁, hstep₁⟩ := X.invokestatic hexec hown hlink hnamed hmethM hstatic hkP hinitP hy (g := g) hg (argsL := argsL) (rest := rest) (hlen _ hsigM) hstack hdg
  rcases hK m meth c ⟨T.setVm vm₁, locs, cells, slots⟩ { g with stack := rest } (.invokestatic index) mk argsL.toArray X₁ hg hsize hdg hW (X₁.named hnamed) (hpre vm₁ X₁.warmed) with ⟨v, B, X', hpost, hsteps⟩ | ⟨q, B, X', hpost, hsteps⟩
  · exact Or.inl ⟨v, vm₁, B, X₁.warmed, X', hpost, fun target h => hstep₁ _ fun acts => by rw [doInvoke_state]; exact hsteps.trans h⟩
  · exact Or.inr ⟨q, vm₁, B, X₁.warmed, X', hpost, hstep₁ _ fun acts => by rw [doInvoke_state]; exact hsteps⟩
end Calls
theorem vx_cls {s : State} {T : State} {vm₁ : Vm} {E : String} {k : ClassId} (hW : s.WarmedH vm₁) (h : (T.setVm vm₁).vm.findClass E = some k) : s.vm.findClass E = some k := by
  have h1 : vm₁.findClass E = some k := h
  rw [hW.alike.findClass] at h1
  exact h1
/-- the method's frame g, with q thrown over it -/
def vx_W (p : Program) (l : Launch) (e : Env) (R : Room) (s : State) (m : MethodId) (args : Array Value) (below : List Frame) (meth : Method) (c : Code) (H : Heap) (locs : List Loc) (cells slots : Nat) (Q : State → Prop) (g : JFrame) (q : Addr) : Prop :=
  ∀ T : State, T.heap = H → Stand p l e R s m args below meth c T locs cells slots → ∃ t, Steps p.tables e below ((T.setTop g).pushFrame (.throwing q)) t ∧ Q t
def vx_Run (p : Program) (l : Launch) (e : Env) (R : Room) (s : State) (m : MethodId) (args : Array Value) (below : List Frame) (meth : Method) (c : Code) (H : Heap) (locs : List Loc) (cells slots mc ms : Nat) (g : JFrame) (rest : List Value) (Qa : State → Outcome → State → Prop) (XC : String → State → State → Prop) (free : Addr → Prop) : Prop :=
  ∀ T : State, T.heap = H → Stand p l e R s m args below meth c T locs cells slots →
    (∃ (v : Option Value) (st₀ t T' : State) (L : List Loc), st₀.heap = H ∧ Stand p l e R s m args below meth c T' (locs ++ L) (cells + mc) (slots + ms) ∧ (∀ q ∈ L, free q.base) ∧ T'.heap = t.heap ∧ T'.vm = t.vm ∧ Qa st₀ (.returned v) t ∧
      Goes p e below T g T' { g with pc := g.pc + 3, stack := v.toList ++ rest }) ∨
    (∃ (q : Addr) (st₀ t T' : State) (L : List Loc) (E : String) (ce : Cell), st₀.heap = H ∧ Stand p l e R s m args below meth c T' (locs ++ L) (cells + mc) (slots + ms) ∧ (∀ z ∈ L, free z.base) ∧ T'.heap = t.heap ∧ T'.vm = t.vm ∧ XC E st₀ t ∧ t.heap[q]? = some ce ∧ ce.vm = .none ∧ s.vm.findClass E = some ce.cls ∧
      Steps p.tables e below (T.setTop g) ((T'.setTop { g with stack := rest }).pushFrame (.throwing q)))
def vx_X {S : Type} (px : S → Prop) (B : String → S → State → Prop) (A : Nat → Prop) : String → State → State → Prop := fun E st t => ∃ u : S, px u ∧ B E u t ∧ va_F A st t
section Runs
variable {p : Program} {l : Launch} {e : Env} {R : Room} {s : State} {m : MethodId} {args : Array Value} {below : List Frame} {meth : Method} {c : Code} {H : Heap} {locs : List Loc} {cells slots : Nat}
variable {y : MethodName} {bytes cc : ByteArray} {maxL nL mc ms n index : Nat} {ret : Option FieldType} {ws : List Cond} {rm : Room} {Pc : Array Value → State → Prop} {Qc : Array Value → State → Outcome → State → Prop} {XC : String → State → State → Prop} {free : Addr → Prop} {Ts : List Cond} {own C : String} {b : Addr} {As rest : List Value} {g : JFrame}
theorem vx_callBack (cb : CallB R s args own index y bytes maxL ret ws rm mc ms n) (hM : vx_Met l y ws rm Pc Qc XC mc ms free) (hbl : FrameBlind Pc) : vx_Back l R p e below s args y 3 8 (PreOf R mc ms Pc) (PostOf Qc mc ms free) (vx_Post XC mc ms free) := by
  obtain ⟨hrc, hrs, hfr, hlo, hws, hcw, -, hini, -⟩ := cb
  exact vx_back (bytes := bytes) (maxL := maxL) (ret := ret) hM hbl hrc hrs hfr hlo hws hcw (fun a' U hW => word_at hW (Or.inl (by first | rfl | simp [Cond.onTables, Cond.keeps, Cond.steady])) hini)
theorem vx_runV (S : CallFix p m c cc nL s args Ts own) (hM : vx_Met l y ws rm Pc Qc XC mc ms free) (cw : CallW R s args own C index y bytes maxL ret ws rm mc ms n) (hp : PreV s H C b Pc As)
    (hg : g.method = m) (hn : As.length = n) (hsize : g.locals.size = nL) (hstack : g.stack = As.reverse ++ .ref b :: rest) (hW : 2 * g.monitorRoom + (rest.map fun v => v.category).sum ≤ 8) (hdg : decode cc g.pc = .ok (.invokevirtual index, 3)) (hf : cells + mc ≤ R.cells ∧ slots + ms ≤ R.slots) :
    vx_Run p l e R s m args below meth c H locs cells slots mc ms g rest (Qc (Value.ref b :: As).toArray) XC free := by
  have hK : vx_Back l R p e below s args y 3 8 (PreOf R mc ms Pc) (PostOf Qc mc ms free) (vx_Post XC mc ms free) := vx_callBack cw.1 hM hp.1
  obtain ⟨⟨-, -, -, -, -, -, hcode, -, hy, hlen, hl⟩, hin, hse⟩ := cw
  obtain ⟨hx, hb, hml, ho, -⟩ := S
  obtain ⟨-, ⟨cellB, hcB, hoB, hclB⟩, hPc⟩ := hp
  intro T hT X
  rcases vx_callV X hx (C := C) (bytes := bytes) (maxL := maxL) (ret := ret) ho hl hin hse hcode hy hK (by rw [hT]; exact hcB) hoB hclB hg (hsize.trans hml.symm) (argsL := As) (rest := rest) (fun sig h => hn.trans (hlen sig h)) hstack hW (by rw [hb]; exact hdg)
    (fun vm₁ hW₁ => ⟨hf.1, hf.2, hPc (T.setVm vm₁) hT hW₁⟩) with ⟨v, vm₁, ⟨U', l2, c2, s2⟩, hW₁, X', ⟨g', mk, t, L, e1, e2, hq, h1, hL, h2, h3⟩, st⟩ | ⟨q, vm₁, ⟨U', l2, c2, s2⟩, hW₁, X', ⟨g', mk, t, L, E, ce, e1, e2, hq, hce, hcv, hcl, h1, hL, h2, h3⟩, st⟩
  · dsimp only [Pt.U, Pt.locs, Pt.cells, Pt.slots] at X' e1 e2 h1 h2 h3 st
    subst h1; subst h2; subst h3
    exact Or.inl ⟨v, (T.setVm vm₁).calling g' mk (Value.ref b :: As).toArray, t, U', L, hT, X', hL, e1, e2, hq, st⟩
  · dsimp only [Pt.U, Pt.locs, Pt.cells, Pt.slots] at X' e1 e2 h1 h2 h3 st hcl
    subst h1; subst h2; subst h3
    exact Or.inr ⟨q, (T.setVm vm₁).calling g' mk (Value.ref b :: As).toArray, t, U', L, E, ce, hT, X', hL, e1, e2, hq, hce, hcv, vx_cls hW₁ hcl, st⟩
theorem vx_runS (S : CallFix p m c cc nL s args Ts own) (hM : vx_Met l y ws rm Pc Qc XC mc ms free) (cw : CallB R s args own index y bytes maxL ret ws rm mc ms n ∧ (Cond.static y).before args s = true) (hp : PreS s H Pc As)
    (hg : g.method = m) (hn : As.length = n) (hsize : g.locals.size = nL) (hstack : g.stack = As.reverse ++ rest) (hW : 2 * g.monitorRoom + (rest.map fun v => v.category).sum ≤ 8) (hdg : decode cc g.pc = .ok (.invokestatic index, 3)) (hf : cells + mc ≤ R.cells ∧ slots + ms ≤ R.slots) :
    vx_Run p l e R s m args below meth c H locs cells slots mc ms g rest (Qc As.toArray) XC free := by
  have hK : vx_Back l R p e below s args y 3 8 (PreOf R mc ms Pc) (PostOf Qc mc ms free) (vx_Post XC mc ms free) := vx_callBack cw.1 hM hp.1
  obtain ⟨⟨-, -, -, -, -, -, hcode, hini, hy, hlen, hl⟩, hstt⟩ := cw
  obtain ⟨hx, hb, hml, ho, -⟩ := S
  intro T hT X
  rcases vx_callS X hx (bytes := bytes) (maxL := maxL) (ret := ret) ho hl hstt hini hcode hy hK hg (hsize.trans hml.symm) (argsL := As) (rest := rest) (fun sig h => hn.trans (hlen sig h)) hstack hW (by rw [hb]; exact hdg)
    (fun vm₁ hW₁ => ⟨hf.1, hf.2, hp.2 (T.setVm vm₁) hT hW₁⟩) with ⟨v, vm₁, ⟨U', l2, c2, s2⟩, hW₁, X', ⟨g', mk, t, L, e1, e2, hq, h1, hL, h2, h3⟩, st⟩ | ⟨q, vm₁, ⟨U', l2, c2, s2⟩, hW₁, X', ⟨g', mk, t, L, E, ce, e1, e2, hq, hce, hcv, hcl, h1, hL, h2, h3⟩, st⟩
  · dsimp only [Pt.U, Pt.locs, Pt.cells, Pt.slots] at X' e1 e2 h1 h2 h3 st
    subst h1; subst h2; subst h3
    exact Or.inl ⟨v, (T.setVm vm₁).calling g' mk As.toArray, t, U', L, hT, X', hL, e1, e2, hq, st⟩
  · dsimp only [Pt.U, Pt.locs, Pt.cells, Pt.slots] at X' e1 e2 h1 h2 h3 st hcl
    subst h1; subst h2; subst h3
    exact Or.inr ⟨q, (T.setVm vm₁).calling g' mk As.toArray, t, U', L, E, ce, hT, X', hL, e1, e2, hq, hce, hcv, vx_cls hW₁ hcl, st⟩
end Runs
section Rows
variable {p : Program} {l : Launch} {e : Env} {R : Room} {s : State} {m : MethodId} {args : Array Value} {below : List Frame} {meth : Method} {c : Code} {H : Heap} {locs : List Loc} {cells slots : Nat} {Q : State → Prop}
variable {mc ms : Nat} {free : Addr → Prop} {A0 A1 : Nat → Prop} {H0 : Heap} {a : Array Value} {pc : Nat} {ls : Array Slot} {st0 rest : List Value}
theorem vx_keep {st₀ t T' : State} {L : List Loc} (h0 : st₀.heap = H) (e1 : T'.heap = t.heap) (hS : va_S A0 H0 H locs) (hA : ∀ q, q < H.size → A1 q → A0 q) (hf : ∀ q, free q → A0 q) (hL : ∀ q ∈ L, free q.base) (hF : va_F A1 st₀ t) :
    H.size ≤ T'.heap.size ∧ (∀ q : Nat, q < H.size → ¬ A1 q → T'.heap[q]? = H[q]?) ∧ va_S A0 H0 T'.heap (locs ++ L) := by
  obtain ⟨hz, hk⟩ := hF
  rw [h0] at hz hk
  exact ⟨by rw [e1]; exact hz, fun q h1 h2 => by rw [e1]; exact hk q h1 h2,
    ⟨Nat.le_trans hS.1 (by rw [e1]; exact hz), fun q h1 h2 => by rw [e1, hk q (Nat.lt_of_lt_of_le h1 hS.1) (fun z => h2 (hA q (Nat.lt_of_lt_of_le h1 hS.1) z))]; exact hS.2.1 q h1 h2, fun q hq => by
      rcases List.mem_append.mp hq with h | h
      · exact hS.2.2 q h
      · exact hf _ (hL q h)⟩⟩
theorem vx_calli {S SX : Type} {post : Int32 → S → Prop} {px : SX → Prop} {B : S → State → Prop} {BX : String → SX → State → Prop} {AX : Nat → Prop} (hr : vx_Run p l e R s m args below meth c H locs cells slots mc ms (F0 m pc ls st0) rest (va_Qi post B A1 a) (vx_X px BX AX) free) (hS : va_S A0 H0 H locs) (hA : ∀ q, q < H.size → A1 q → A0 q) (hf : ∀ q, free q → A0 q) (hAX : ∀ q, q < H.size → AX q → A0 q)
    (kx : ∀ (E : String) (ce : Cell) (q9 : Addr) (u : SX) (t : State) (H1 : Heap) (locs1 : List Loc), t.heap = H1 → s.vm.Alike t.vm → px u → BX E u t → H.size ≤ H1.size → (∀ q : Nat, q < H.size → ¬ AX q → H1[q]? = H[q]?) → va_S A0 H0 H1 locs1 → H1[q9]? = some ce → ce.vm = .none → s.vm.findClass E = some ce.cls → vx_W p l e R s m args below meth c H1 locs1 (cells + mc) (slots + ms) Q (F0 m pc ls rest) q9)
    (kk : ∀ (r : Int32) (u : S) (t : State) (H1 : Heap) (locs1 : List Loc), t.heap = H1 → s.vm.Alike t.vm → post r u → B u t → H.size ≤ H1.size → (∀ q : Nat, q < H.size → ¬ A1 q → H1[q]? = H[q]?) → va_S A0 H0 H1 locs1 → W p l e R s m args below meth c H1 locs1 (cells + mc) (slots + ms) Q (F0 m (pc + 3) ls (.int r :: rest))) : W p l e R s m args below meth c H locs cells slots Q (F0 m pc ls st0) := by
  intro T hT X
  rcases hr T hT X with ⟨v, st₀, t, T', L, h0, X', hL, e1, e2, ⟨⟨r, u, hv, hp, hb⟩, hF⟩, st⟩ | ⟨q, st₀, t, T', L, E, ce, h0, X', hL, e1, e2, ⟨u, hp, hb, hF⟩, hce, hcv, hcl, st⟩
  · cases hv
    obtain ⟨k1, k2, k3⟩ := vx_keep h0 e1 hS hA hf hL hF
    obtain ⟨t2, a1, b1⟩ := kk r u t T'.heap (locs ++ L) e1.symm (by rw [← e2]; exact X'.warmed.alike) hp hb k1 k2 k3 T' rfl X'
    exact ⟨t2, st t2 a1, b1⟩
  · obtain ⟨k1, k2, k3⟩ := vx_keep h0 e1 hS hAX hf hL hF
    obtain ⟨t2, a1, b1⟩ := kx E ce q u t T'.heap (locs ++ L) e1.symm (by rw [← e2]; exact X'.warmed.alike) hp hb k1 k2 k3 (by rw [e1]; exact hce) hcv hcl T' rfl X'
    exact ⟨t2, st.trans a1, b1⟩
theorem vx_calll {S SX : Type} {post : Int64 → S → Prop} {px : SX → Prop} {B : S → State → Prop} {BX : String → SX → State → Prop} {AX : Nat → Prop} (hr : vx_Run p l e R s m args below meth c H locs cells slots mc ms (F0 m pc ls st0) rest (va_Ql post B A1 a) (vx_X px BX AX) free) (hS : va_S A0 H0 H locs) (hA : ∀ q, q < H.size → A1 q → A0 q) (hf : ∀ q, free q → A0 q) (hAX : ∀ q, q < H.size → AX q → A0 q)
    (kx : ∀ (E : String) (ce : Cell) (q9 : Addr) (u : SX) (t : State) (H1 : Heap) (locs1 : List Loc), t.heap = H1 → s.vm.Alike t.vm → px u → BX E u t → H.size ≤ H1.size → (∀ q : Nat, q < H.size → ¬ AX q → H1[q]? = H[q]?) → va_S A0 H0 H1 locs1 → H1[q9]? = some ce → ce.vm = .none → s.vm.findClass E = some ce.cls → vx_W p l e R s m args below meth c H1 locs1 (cells + mc) (slots + ms) Q (F0 m pc ls rest) q9)
    (kk : ∀ (r : Int64) (u : S) (t : State) (H1 : Heap) (locs1 : List Loc), t.heap = H1 → s.vm.Alike t.vm → post r u → B u t → H.size ≤ H1.size → (∀ q : Nat, q < H.size → ¬ A1 q → H1[q]? = H[q]?) → va_S A0 H0 H1 locs1 → W p l e R s m args below meth c H1 locs1 (cells + mc) (slots + ms) Q (F0 m (pc + 3) ls (.long r :: rest))) : W p l e R s m args below meth c H locs cells slots Q (F0 m pc ls st0) := by
  intro T hT X
  rcases hr T hT X with ⟨v, st₀, t, T', L, h0, X', hL, e1, e2, ⟨⟨r, u, hv, hp, hb⟩, hF⟩, st⟩ | ⟨q, st₀, t, T', L, E, ce, h0, X', hL, e1, e2, ⟨u, hp, hb, hF⟩, hce, hcv, hcl, st⟩
  · cases hv
    obtain ⟨k1, k2, k3⟩ := vx_keep h0 e1 hS hA hf hL hF
    obtain ⟨t2, a1, b1⟩ := kk r u t T'.heap (locs ++ L) e1.symm (by rw [← e2]; exact X'.warmed.alike) hp hb k1 k2 k3 T' rfl X'
    exact ⟨t2, st t2 a1, b1⟩
  · obtain ⟨k1, k2, k3⟩ := vx_keep h0 e1 hS hAX hf hL hF
    obtain ⟨t2, a1, b1⟩ := kx E ce q u t T'.heap (locs ++ L) e1.symm (by rw [← e2]; exact X'.warmed.alike) hp hb k1 k2 k3 (by rw [e1]; exact hce) hcv hcl T' rfl X'
    exact ⟨t2, st.trans a1, b1⟩
theorem vx_callf {S SX : Type} {post : UInt32 → S → Prop} {px : SX → Prop} {B : S → State → Prop} {BX : String → SX → State → Prop} {AX : Nat → Prop} (hr : vx_Run p l e R s m args below meth c H locs cells slots mc ms (F0 m pc ls st0) rest (va_Qf post B A1 a) (vx_X px BX AX) free) (hS : va_S A0 H0 H locs) (hA : ∀ q, q < H.size → A1 q → A0 q) (hf : ∀ q, free q → A0 q) (hAX : ∀ q, q < H.size → AX q → A0 q)
    (kx : ∀ (E : String) (ce : Cell) (q9 : Addr) (u : SX) (t : State) (H1 : Heap) (locs1 : List Loc), t.heap = H1 → s.vm.Alike t.vm → px u → BX E u t → H.size ≤ H1.size → (∀ q : Nat, q < H.size → ¬ AX q → H1[q]? = H[q]?) → va_S A0 H0 H1 locs1 → H1[q9]? = some ce → ce.vm = .none → s.vm.findClass E = some ce.cls → vx_W p l e R s m args below meth c H1 locs1 (cells + mc) (slots + ms) Q (F0 m pc ls rest) q9)
    (kk : ∀ (r : UInt32) (u : S) (t : State) (H1 : Heap) (locs1 : List Loc), t.heap = H1 → s.vm.Alike t.vm → post r u → B u t → H.size ≤ H1.size → (∀ q : Nat, q < H.size → ¬ A1 q → H1[q]? = H[q]?) → va_S A0 H0 H1 locs1 → W p l e R s m args below meth c H1 locs1 (cells + mc) (slots + ms) Q (F0 m (pc + 3) ls (.float r :: rest))) : W p l e R s m args below meth c H locs cells slots Q (F0 m pc ls st0) := by
  intro T hT X
  rcases hr T hT X with ⟨v, st₀, t, T', L, h0, X', hL, e1, e2, ⟨⟨r, u, hv, hp, hb⟩, hF⟩, st⟩ | ⟨q, st₀, t, T', L, E, ce, h0, X', hL, e1, e2, ⟨u, hp, hb, hF⟩, hce, hcv, hcl, st⟩
  · cases hv
    obtain ⟨k1, k2, k3⟩ := vx_keep h0 e1 hS hA hf hL hF
    obtain ⟨t2, a1, b1⟩ := kk r u t T'.heap (locs ++ L) e1.symm (by rw [← e2]; exact X'.warmed.alike) hp hb k1 k2 k3 T' rfl X'
    exact ⟨t2, st t2 a1, b1⟩
  · obtain ⟨k1, k2, k3⟩ := vx_keep h0 e1 hS hAX hf hL hF
    obtain ⟨t2, a1, b1⟩ := kx E ce q u t T'.heap (locs ++ L) e1.symm (by rw [← e2]; exact X'.warmed.alike) hp hb k1 k2 k3 (by rw [e1]; exact hce) hcv hcl T' rfl X'
    exact ⟨t2, st.trans a1, b1⟩
theorem vx_calld {S SX : Type} {post : UInt64 → S → Prop} {px : SX → Prop} {B : S → State → Prop} {BX : String → SX → State → Prop} {AX : Nat → Prop} (hr : vx_Run p l e R s m args below meth c H locs cells slots mc ms (F0 m pc ls st0) rest (va_Qd post B A1 a) (vx_X px BX AX) free) (hS : va_S A0 H0 H locs) (hA : ∀ q, q < H.size → A1 q → A0 q) (hf : ∀ q, free q → A0 q) (hAX : ∀ q, q < H.size → AX q → A0 q)
    (kx : ∀ (E : String) (ce : Cell) (q9 : Addr) (u : SX) (t : State) (H1 : Heap) (locs1 : List Loc), t.heap = H1 → s.vm.Alike t.vm → px u → BX E u t → H.size ≤ H1.size → (∀ q : Nat, q < H.size → ¬ AX q → H1[q]? = H[q]?) → va_S A0 H0 H1 locs1 → H1[q9]? = some ce → ce.vm = .none → s.vm.findClass E = some ce.cls → vx_W p l e R s m args below meth c H1 locs1 (cells + mc) (slots + ms) Q (F0 m pc ls rest) q9)
    (kk : ∀ (r : UInt64) (u : S) (t : State) (H1 : Heap) (locs1 : List Loc), t.heap = H1 → s.vm.Alike t.vm → post r u → B u t → H.size ≤ H1.size → (∀ q : Nat, q < H.size → ¬ A1 q → H1[q]? = H[q]?) → va_S A0 H0 H1 locs1 → W p l e R s m args below meth c H1 locs1 (cells + mc) (slots + ms) Q (F0 m (pc + 3) ls (.double r :: rest))) : W p l e R s m args below meth c H locs cells slots Q (F0 m pc ls st0) := by
  intro T hT X
  rcases hr T hT X with ⟨v, st₀, t, T', L, h0, X', hL, e1, e2, ⟨⟨r, u, hv, hp, hb⟩, hF⟩, st⟩ | ⟨q, st₀, t, T', L, E, ce, h0, X', hL, e1, e2, ⟨u, hp, hb, hF⟩, hce, hcv, hcl, st⟩
  · cases hv
    obtain ⟨k1, k2, k3⟩ := vx_keep h0 e1 hS hA hf hL hF
    obtain ⟨t2, a1, b1⟩ := kk r u t T'.heap (locs ++ L) e1.symm (by rw [← e2]; exact X'.warmed.alike) hp hb k1 k2 k3 T' rfl X'
    exact ⟨t2, st t2 a1, b1⟩
  · obtain ⟨k1, k2, k3⟩ := vx_keep h0 e1 hS hAX hf hL hF
    obtain ⟨t2, a1, b1⟩ := kx E ce q u t T'.heap (locs ++ L) e1.symm (by rw [← e2]; exact X'.warmed.alike) hp hb k1 k2 k3 (by rw [e1]; exact hce) hcv hcl T' rfl X'
    exact ⟨t2, st.trans a1, b1⟩
theorem vx_callv {S SX : Type} {post : S → Prop} {px : SX → Prop} {B : S → State → Prop} {BX : String → SX → State → Prop} {AX : Nat → Prop} (hr : vx_Run p l e R s m args below meth c H locs cells slots mc ms (F0 m pc ls st0) rest (va_Qv post B A1 a) (vx_X px BX AX) free) (hS : va_S A0 H0 H locs) (hA : ∀ q, q < H.size → A1 q → A0 q) (hf : ∀ q, free q → A0 q) (hAX : ∀ q, q < H.size → AX q → A0 q)
    (kx : ∀ (E : String) (ce : Cell) (q9 : Addr) (u : SX) (t : State) (H1 : Heap) (locs1 : List Loc), t.heap = H1 → s.vm.Alike t.vm → px u → BX E u t → H.size ≤ H1.size → (∀ q : Nat, q < H.size → ¬ AX q → H1[q]? = H[q]?) → va_S A0 H0 H1 locs1 → H1[q9]? = some ce → ce.vm = .none → s.vm.findClass E = some ce.cls → vx_W p l e R s m args below meth c H1 locs1 (cells + mc) (slots + ms) Q (F0 m pc ls rest) q9)
    (kk : ∀ (u : S) (t : State) (H1 : Heap) (locs1 : List Loc), t.heap = H1 → s.vm.Alike t.vm → post u → B u t → H.size ≤ H1.size → (∀ q : Nat, q < H.size → ¬ A1 q → H1[q]? = H[q]?) → va_S A0 H0 H1 locs1 → W p l e R s m args below meth c H1 locs1 (cells + mc) (slots + ms) Q (F0 m (pc + 3) ls (rest))) : W p l e R s m args below meth c H locs cells slots Q (F0 m pc ls st0) := by
  intro T hT X
  rcases hr T hT X with ⟨v, st₀, t, T', L, h0, X', hL, e1, e2, ⟨⟨u, hv, hp, hb⟩, hF⟩, st⟩ | ⟨q, st₀, t, T', L, E, ce, h0, X', hL, e1, e2, ⟨u, hp, hb, hF⟩, hce, hcv, hcl, st⟩
  · cases hv
    obtain ⟨k1, k2, k3⟩ := vx_keep h0 e1 hS hA hf hL hF
    obtain ⟨t2, a1, b1⟩ := kk u t T'.heap (locs ++ L) e1.symm (by rw [← e2]; exact X'.warmed.alike) hp hb k1 k2 k3 T' rfl X'
    exact ⟨t2, st t2 a1, b1⟩
  · obtain ⟨k1, k2, k3⟩ := vx_keep h0 e1 hS hAX hf hL hF
    obtain ⟨t2, a1, b1⟩ := kx E ce q u t T'.heap (locs ++ L) e1.symm (by rw [← e2]; exact X'.warmed.alike) hp hb k1 k2 k3 (by rw [e1]; exact hce) hcv hcl T' rfl X'
    exact ⟨t2, st.trans a1, b1⟩
/-- caught by the row x of this method's table; the rows ahead don't take it -/
theorem vx_catch {own name : String} {E : String} {ce : Cell} {q : Addr} (hown : s.vm.findClass own = some m.cls) (pre : List ExceptionTableEntry) (x : ExceptionTableEntry) (suf : List ExceptionTableEntry) (hsplit : c.exceptionTable.toList = pre ++ x :: suf)
    (hpass : ∀ z ∈ pre, covers z pc = false ∨ (z.catchType ≠ 0 ∧ ∃ nm : String, (Cond.classLink own z.catchType nm).before args s = true ∧ va_Nc E nm s)) (hx : covers x pc = true) (h0 : x.catchType ≠ 0)
    (hlink : (Cond.classLink own x.catchType name).before args s = true) (hcast : (Cond.castable E name).before args s = true) (hcell : H[q]? = some ce) (hv : ce.vm = .none) (hcl : s.vm.findClass E = some ce.cls)
    (kk : W p l e R s m args below meth c H locs cells slots Q (F0 m x.handlerPc ls [.ref q])) : vx_W p l e R s m args below meth c H locs cells slots Q (F0 m pc ls rest) q := by
  intro T hT X
  have hpl : e.platform.magicAccessors = ({} : Platform).magicAccessors := by rw [X.admits.platform]
  obtain ⟨c3, c4, hc3, hc4, hasg⟩ := Cond.castable_spec hcast
  cases Option.some.inj (hc3.symm.trans hcl)
  obtain ⟨c5, hc5, hcl5⟩ := Cond.classLink_spec hown hlink e.platform hpl
  cases Option.some.inj (hc4.symm.trans hc5)
  obtain ⟨vm', X', st⟩ := X.thenCaughtThrough q (g := F0 m pc ls rest) rfl (Steps.refl _) (by rw [hT]; exact hcell) (by rw [hv]; rfl) (by obtain ⟨k9, h9, -⟩ := Vm.findClass_spec hcl; exact ⟨k9, h9⟩) pre x suf hsplit
    (fun z hz => by
      rcases hpass z hz with h | ⟨hz0, nm, hl1, hn1⟩
      · exact Or.inl h
      · obtain ⟨c6, hc6, hcl6⟩ := Cond.classLink_spec hown hl1 e.platform hpl
        obtain ⟨a8, b8, h1, h2, h3⟩ := hn1
        cases Option.some.inj (h1.symm.trans hcl)
        cases Option.some.inj (h2.symm.trans hc6)
        exact Or.inr ⟨hz0, _, hcl6, h3⟩) hx (Or.inr ⟨h0, c4, hcl5, hasg⟩)
  obtain ⟨t, a1, b1⟩ := kk (T.setVm vm') hT X'
  exact ⟨t, st.trans a1, b1⟩
end Rows
section Ends
variable {p : Program} {l : Launch} {e : Env} {R : Room} {s : State} {m : MethodId} {args : Array Value} {below : List Frame} {meth : Method} {c : Code} {H : Heap} {locs : List Loc} {cells slots : Nat} {Q : State → Prop}
variable {mc ms : Nat} {free : Addr → Prop} {A0 A1 : Nat → Prop} {H0 : Heap} {a : Array Value} {ls : Array Slot} {st0 rest : List Value}
variable {Qc : Array Value → State → Outcome → State → Prop} {XC : String → State → State → Prop}
/-- what a body that may throw owes at its end -/
def vx_MQ (below : List Frame) (Qc : Array Value → State → Outcome → State → Prop) (XC : String → State → State → Prop) (a : Array Value) (s : State) (mc ms : Nat) (free : Addr → Prop) : State → Prop := fun t =>
  ∃ o, t.status = .running ∧ Ended t below o ∧ vx_Q Qc XC mc ms free a s o t
theorem vx_ret {g : JFrame} {mc ms : Nat} (k : W p l e R s m args below meth c H locs cells slots (MQ below Qc args s mc ms free) g) : W p l e R s m args below meth c H locs cells slots (vx_MQ below Qc XC args s mc ms free) g := by
  intro T hT X
  obtain ⟨t, a1, o, b1, b2, b3, b4⟩ := k T hT X
  exact ⟨t, a1, o, b1, b2, Or.inl ⟨b3, b4⟩⟩
/-- not caught here: it goes on to the caller -/
theorem vx_widen {g : JFrame} {q : Addr} {k n : Nat} (h1 : cells ≤ k) (h2 : slots ≤ n) (kk : vx_W p l e R s m args below meth c H locs k n Q g q) : vx_W p l e R s m args below meth c H locs cells slots Q g q := fun T hT X => kk T hT (stand_widen X h1 h2)
theorem vx_out {pc : Nat} {E : String} {ce : Cell} {q : Addr} {mc ms : Nat} (hout : ∀ x ∈ c.exceptionTable.toList, covers x pc = false) (hlocks : meth.locks = false) (hcell : H[q]? = some ce) (hv : ce.vm = .none) (hcl : s.vm.findClass E = some ce.cls)
    (hx : ∀ t : State, t.heap = H → s.vm.Alike t.vm → XC E s t) (hf : ∀ z ∈ locs, free z.base) (hc : cells ≤ mc) (hs : slots ≤ ms) :
    vx_W p l e R s m args below meth c H locs cells slots (vx_MQ below Qc XC args s mc ms free) (F0 m pc ls rest) q := by
  intro T hT X
  obtain ⟨st1, hrun, hend, hW, hsm⟩ := X.leaveThrown q (g := F0 m pc ls rest) rfl rfl rfl hout hlocks
  have hcell9 : (T.setFrames (.throwing q :: below)).heap[q]? = some ce := by
    show T.heap[q]? = some ce
    rw [hT]; exact hcell
  exact ⟨_, st1, .threw q, hrun, hend, Or.inr ⟨q, rfl, E, ce, locs, hx _ hT hW.alike, hcell9, hv, hcl, hW, hsm.mono hc hs, hf⟩⟩
theorem vx_frame {U : State} {k n : Nat} (h : s.sameButNew ({ U with vm := s.vm } : State) locs k n) : s.heap.size ≤ U.heap.size ∧ ∀ q : Nat, q < s.heap.size → (∀ z ∈ locs, z.base ≠ q) → U.heap[q]? = s.heap[q]? := by
  obtain ⟨-, h2, -, -, -, h6⟩ := h
  refine ⟨h2, fun q hq hz => ?_⟩
  obtain ⟨c9, e1, e2, e3, e4⟩ := h6 q _ (Array.getElem?_eq_getElem hq)
  have hs : c9.slots = (s.heap[q]).slots := Array.ext_getElem? fun i => e4 i fun hm => hz _ hm rfl
  have h9 : c9 = s.heap[q] := by
    rw [hs] at e2
    exact e2
  have e5 : U.heap[q]? = some c9 := e1
  rw [e5, h9, Array.getElem?_eq_getElem hq]
/-- the words of a throw but the four that speak of the heap -/
def vx_no (w : Cond) : Bool := decide (w ≠ .isRef (.static Bundle.tN "UNASSIGNED_STACK" Bundle.steD)) && decide (w ≠ .isRef (.static Bundle.tN "SUPPRESSED_SENTINEL" Bundle.listD)) && decide (w ≠ .laysStatic Bundle.tN "UNASSIGNED_STACK" Bundle.steD) && decide (w ≠ .laysStatic Bundle.tN "SUPPRESSED_SENTINEL" Bundle.listD)
def vx_at0 (own : String) (ic : Nat) (X : String) (names : List String) : List Cond := (Bundle.ownAtoms0 own ic X names).filter vx_no
def vx_atS (own : String) (ic : Nat) (X : String) (names : List String) : List Cond := (Bundle.ownAtoms own ic X names).filter vx_no
/-- a word that the tables alone decide, or a good one -/
def vx_ot (w : Cond) : Bool := w.onTables || goodWord w
theorem vx_ot_at {args a' : Array Value} {s U : State} {w : Cond} (hW : s.WarmedH U.vm) (hvm : s.vm = U.vm) (hg : vx_ot w = true) (h : w.before args s = true) : w.before a' U = true := by
  simp only [vx_ot, Bool.or_eq_true] at hg
  rcases hg with hg | hg
  · exact va_tabs hg hvm h
  · exact word_at hW (good_of_word hg) h
/-- a list's words: the good ones out of the method's own list, the others by premises of their own -/
theorem vx_hat {args : Array Value} {s : State} {L B : List Cond} (h1 : ∀ w ∈ L.filter goodWord, w.before args s = true) (h2 : ∀ w ∈ L.filter (fun w => !goodWord w), w ∈ B) (h3 : ∀ w ∈ B, w.before args s = true) : ∀ w ∈ L, w.before args s = true := by
  intro w hw
  by_cases g : goodWord w = true
  · exact h1 w (List.mem_filter.mpr ⟨hw, g⟩)
  · refine h3 w (h2 w (List.mem_filter.mpr ⟨hw, ?_⟩))
    show (!goodWord w) = true
    cases hgw : goodWord w
    · rfl
    · exact absurd hgw g
theorem vx_c {args : Array Value} {s : State} {w : Cond} {B : List Cond} (h : w.before args s = true) (t : ∀ w ∈ B, w.before args s = true) : ∀ w' ∈ w :: B, w'.before args s = true := fun w' h' => (List.mem_cons.mp h').elim (fun e => by rw [e]; exact h) (t w')
theorem vx_n {args : Array Value} {s : State} : ∀ w ∈ ([] : List Cond), w.before args s = true := fun _ h => nomatch h
theorem vx_own {args : Array Value} {s : State} {L : List Cond} (h1 : ∀ w ∈ L.filter vx_no, w.before args s = true)
    (hU : (Cond.isRef (.static Bundle.tN "UNASSIGNED_STACK" Bundle.steD)).before args s = true) (hN : (Cond.isRef (.static Bundle.tN "SUPPRESSED_SENTINEL" Bundle.listD)).before args s = true)
    (lU : (Cond.laysStatic Bundle.tN "UNASSIGNED_STACK" Bundle.steD).before args s = true) (lN : (Cond.laysStatic Bundle.tN "SUPPRESSED_SENTINEL" Bundle.listD).before args s = true) : ∀ w ∈ L, w.before args s = true := by
  intro w hw
  by_cases e1 : w = .isRef (.static Bundle.tN "UNASSIGNED_STACK" Bundle.steD)
  · rw [e1]; exact hU
  · by_cases e2 : w = .isRef (.static Bundle.tN "SUPPRESSED_SENTINEL" Bundle.listD)
    · rw [e2]; exact hN
    · by_cases e3 : w = .laysStatic Bundle.tN "UNASSIGNED_STACK" Bundle.steD
      · rw [e3]; exact lU
      · by_cases e4 : w = .laysStatic Bundle.tN "SUPPRESSED_SENTINEL" Bundle.listD
        · rw [e4]; exact lN
        · exact h1 w (List.mem_filter.mpr ⟨hw, by unfold vx_no; rw [decide_eq_true e1, decide_eq_true e2, decide_eq_true e3, decide_eq_true e4]; rfl⟩)
/-- where a static field lies, its class's statics cell in H -/
def vx_L (C n d : String) (A : Nat → Prop) (U : State) (H : Heap) : Prop := ∃ (c : ClassId) (k : Class) (i : Nat) (f : Field) (a : Nat) (cell : Cell), U.vm.findClass C = some c ∧ U.fieldFound? C n d = some (c, k, i, f) ∧ f.isStatic = true ∧ k.statics = some a ∧ H[a]? = some cell ∧ cell.vm.isStatics = true ∧ cell.cls = c ∧ f.slot < cell.slots.size ∧ k.staticTypes[f.slot]? = some f.type ∧ ¬ A a
theorem vx_L.moved {C n d : String} {A : Nat → Prop} {u U : State} {H : Heap} (hvm : u.vm.Alike U.vm) (h : vx_L C n d A u H) : vx_L C n d A U H := by
  obtain ⟨c, k, i, f, a, cell, h1, h2, h3, h4, h5, h6, h7, h8, h9, h10⟩ := h
  obtain ⟨k', hi', he⟩ := State.fieldFound?_setVm hvm h2
  exact ⟨c, k', i, f, a, cell, by rw [hvm.findClass]; exact h1, hi', h3, by rw [he]; exact h4, h5, h6, h7, h8, by rw [he]; exact h9, h10⟩
theorem vx_L.kept {C n d : String} {A : Nat → Prop} {U : State} {H H1 : Heap} (h : vx_L C n d A U H) (hq : ∀ a : Nat, a < H.size → ¬ A a → H1[a]? = H[a]?) : vx_L C n d A U H1 := by
  obtain ⟨c, k, i, f, a, cell, h1, h2, h3, h4, h5, h6, h7, h8, h9, h10⟩ := h
  exact ⟨c, k, i, f, a, cell, h1, h2, h3, h4, by rw [hq a (Array.getElem?_eq_some_iff.mp h5).1 h10]; exact h5, h6, h7, h8, h9, h10⟩
theorem vx_L.narrow {C n d : String} {A B : Nat → Prop} {U : State} {H : Heap} (h : vx_L C n d A U H) (hAB : ∀ q, B q → A q) : vx_L C n d B U H := by
  obtain ⟨c, k, i, f, a, cell, h1, h2, h3, h4, h5, h6, h7, h8, h9, h10⟩ := h
  exact ⟨c, k, i, f, a, cell, h1, h2, h3, h4, h5, h6, h7, h8, h9, fun z => h10 (hAB _ z)⟩
theorem vx_L.word {C n d : String} {A : Nat → Prop} {s : State} {args : Array Value} (h : vx_L C n d A s s.heap) : (Cond.laysStatic C n d).before args s = true := by
  obtain ⟨c, k, i, f, a, cell, h1, h2, h3, h4, h5, h6, h7, h8, h9, -⟩ := h
  show (Cond.laysStatic C n d).holds args s none s [] = true
  exact Cond.laysStatic_of h1 h2 h3 h4 h5 h6 h7 h8 h9
/-- .. and what it holds: null or some reference -/
def vx_Zq (C n d : String) (A : Nat → Prop) (U : State) (H : Heap) : Prop := va_Zq C n d A U H ∧ vx_L C n d A U H
theorem vx_Zq.moved {C n d : String} {A : Nat → Prop} {u U : State} {H : Heap} (hvm : u.vm.Alike U.vm) (h : vx_Zq C n d A u H) : vx_Zq C n d A U H := ⟨va_Zq.moved hvm h.1, vx_L.moved hvm h.2⟩
theorem vx_Zq.kept {C n d : String} {A : Nat → Prop} {U : State} {H H1 : Heap} (h : vx_Zq C n d A U H) (hq : ∀ a : Nat, a < H.size → ¬ A a → H1[a]? = H[a]?) : vx_Zq C n d A U H1 := ⟨va_Zq.kept h.1 hq, vx_L.kept h.2 hq⟩
theorem vx_Zq.narrow {C n d : String} {A B : Nat → Prop} {U : State} {H : Heap} (h : vx_Zq C n d A U H) (hAB : ∀ q, B q → A q) : vx_Zq C n d B U H := ⟨va_Zq.narrow h.1 hAB, vx_L.narrow h.2 hAB⟩
theorem vx_Zqof {args : Array Value} {s : State} {C n d : String} {A : Nat → Prop} (hl : (Cond.laysStatic C n d).before args s = true) (hini : (Cond.initialized C).before args s = true) (h : (Cond.isRef (.static C n d)).before args s = true) (hA : ∀ a : Nat, a < s.heap.size → ¬ A a) : vx_Zq C n d A s s.heap := by
  refine ⟨va_Zqof hl hini h hA, ?_⟩
  obtain ⟨c, k, i, f, a, cell, h1, h2, h3, h4, h5, h6, h7, h8, h9⟩ := Cond.laysStatic_spec hl
  exact ⟨c, k, i, f, a, cell, h1, h2, h3, h4, h5, h6, h7, h8, h9, hA a (Array.getElem?_eq_some_iff.mp h5).1⟩
theorem vx_isRef {C n d : String} {v : Value} {A : Nat → Prop} {s : State} {args : Array Value} (h : va_Z C n d v A s s.heap) (hv : v.isRef = true) : (Cond.isRef (.static C n d)).before args s = true := by
  obtain ⟨cf, kf, fi, f, a, cell, h1, h2, h3, h4, h5, h6, h7, -⟩ := h
  have he : (Term.static C n d).eval args s none [] s = some v := by
    simp [Term.eval, State.fieldNamed?, h1, h2, h4, h5, h6, h7]
  simp only [Cond.before, Cond.holds, Cond.value, he]
  cases v <;> simp_all [Value.isRef]
theorem vx_isRefq {C n d : String} {A : Nat → Prop} {s : State} {args : Array Value} (h : va_Zq C n d A s s.heap) : (Cond.isRef (.static C n d)).before args s = true := by
  rcases h with h | ⟨t, h⟩
  · exact vx_isRef h rfl
  · exact vx_isRef h rfl
/-- the same frame, seen from here: as if the method were called anew in this heap -/
theorem vx_rebase {T : State} (X : Stand p l e R s m args below meth c T locs cells slots) {R' : Room} (hf : R'.frames ≤ R.frames) (hl : R'.locals ≤ R.locals) (hc : cells + R'.cells ≤ R.cells) (hs : slots + R'.slots ≤ R.slots) :
    Stand p l e R' ((T.setVm s.vm).setFrames (.invoking m args :: below)) m args below meth c T [] 0 0 := by
  have htop : (T.setVm s.vm).topJava?.isSome := X.here.top
  have hF : ((T.setVm s.vm).setFrames (.invoking m args :: below)).frames = .invoking m args :: below := State.frames_setFrames _ (State.cur_lt_of_top htop)
  obtain ⟨g₀, hg0⟩ := Option.isSome_iff_exists.mp htop
  obtain ⟨r, hr⟩ := State.topJava?_eq_some.mp hg0
  have hl9 : e.platform.stackLimits (T.setVm s.vm).me = e.platform.stackLimits s.me := X.limits
  have hb9 : (T.setVm s.vm).me.stackBytes = s.me.stackBytes := X.bytes
  refine ⟨X.admits, X.cas, X.clock, hF, ?_, X.hears, X.method, X.code, X.here, X.tail, X.warmed, ?_, ?_, ?_⟩
  · have h := X.room
    have hU : ((T.setVm s.vm).setFrames (.invoking m args :: below)).localsInUse = s.localsInUse := by
      rw [State.localsInUse_invoking hF (meth := meth) (c := c) X.method X.code, State.localsInUse_invoking X.frames X.method X.code]
    simp only [State.hasRoom, Bool.and_eq_true, decide_eq_true_eq] at h ⊢
    obtain ⟨⟨⟨⟨h1, h2, h3, h4, h5, h6⟩, h7⟩, h8⟩, h9⟩ := h
    rw [X.frames, List.length_cons] at h2 h3
    have q1 := X.heapSize
    have q2 := X.used
    simp only [hF, hU, List.length_cons, State.stackLimits_setFrames, State.stackBytes_setFrames, hl9, hb9]
    refine ⟨⟨⟨⟨by omega, by omega, by omega, by omega, by omega, h6⟩, ?_⟩, ?_⟩, X.book⟩
    · show T.heap.size + R'.cells ≤ e.platform.maxCells
      omega
    · show T.slotsUsed + R'.slots ≤ e.platform.maxSlots
      omega
  · rw [State.stackLimits_setFrames]; rfl
  · rw [State.stackBytes_setFrames]; rfl
  · refine ⟨?_, Nat.le_refl _, Nat.le_refl _, ?_, ?_, fun a c9 h9 => ⟨c9, h9, rfl, rfl, fun _ _ => rfl⟩⟩
    · obtain ⟨t, ht, -⟩ := State.frames_cons hr
      show T.setVm s.vm = { ((T.setVm s.vm).setFrames (.invoking m args :: below)).setFrames (T.setVm s.vm).frames with heap := T.heap, slotsUsed := T.slotsUsed }
      rw [State.setFrames_setFrames, State.setFrames_self ht]
      rfl
    · show T.slotsUsed = T.slotsUsed + ((T.heap.toList.drop T.heap.size).map (·.slots.size)).sum
      rw [List.drop_eq_nil_of_le (Nat.le_of_eq Array.length_toList)]
      rfl
    · show ((T.heap.toList.drop T.heap.size).map (·.slots.size)).sum ≤ 0
      rw [List.drop_eq_nil_of_le (Nat.le_of_eq Array.length_toList)]
      exact Nat.le_refl _
/-- 'throw new E()': new; dup; invokespecial; athrow -/
theorem vx_throw0 {cc : ByteArray} {pc : Nat} (hexec : p.tables.exec = Jvm.exec) (hb : c.code = cc) (hl : l.stackTraces = false) {own cls : String} {names : List String} {ik ic mc ms : Nat} {A : Nat → Prop}
    (hown : s.vm.findClass own = some m.cls) (hcls : Bundle.fit cls = true) (hnames : ∀ n ∈ names, Bundle.fit n = true)
    (hk : (Cond.classLink own ik cls).before args s = true) (hini : (Cond.initialized cls).before args s = true) (hat : ∀ w ∈ vx_at0 own ic cls names, w.before args s = true)
    (hgood : ∀ w ∈ Cond.classLink own ik cls :: Cond.initialized cls :: vx_at0 own ic cls names, vx_ot w = true)
    (hU : vx_Zq Bundle.tN "UNASSIGNED_STACK" Bundle.steD A s s.heap) (hN : vx_Zq Bundle.tN "SUPPRESSED_SENTINEL" Bundle.listD A s s.heap) (hS : va_S A s.heap H locs) (hsize : ls.size = c.maxLocals)
    (d0 : decode cc pc = .ok (.new ik, 3)) (d3 : decode cc (pc + 3) = .ok (.dup, 1)) (d4 : decode cc (pc + 4) = .ok (.invokespecial ic, 3)) (d7 : decode cc (pc + 7) = .ok (.athrow, 1))
    (hout : ∀ x ∈ c.exceptionTable.toList, covers x (pc + 7) = false)
    (hRframes : names.length + 3 < R.frames) (hRlocals : (rest.map fun v => v.category).sum + (13 * (names.length + 1) + 42) ≤ R.locals) (hRcells : cells + 1 ≤ R.cells) (hRslots : slots + 6 ≤ R.slots) (hlocks : meth.locks = false)
    (hx : ∀ t : State, s.vm.Alike t.vm → H.size ≤ t.heap.size → (∀ q : Nat, q < H.size → t.heap[q]? = H[q]?) → XC cls s t)
    (hf : ∀ z ∈ locs, free z.base) (hc : cells + 1 ≤ mc) (hs : slots + 6 ≤ ms) :
    W p l e R s m args below meth c H locs cells slots (vx_MQ below Qc XC args s mc ms free) (F0 m pc ls rest) := by
  intro T hT X
  have htr : e.platform.stackTraces = false := (show e.platform.stackTraces = l.stackTraces by rw [X.admits.platform]).trans hl
  have Y := vx_rebase X (R' := { frames := R.frames, locals := R.locals, cells := 1, slots := 6 }) (Nat.le_refl _) (Nat.le_refl _) hRcells hRslots
  obtain ⟨s', hA⟩ : ∃ z, z = (T.setVm s.vm).setFrames (.invoking m args :: below) := ⟨_, rfl⟩
  rw [← hA] at Y
  have hvm : s'.vm = s.vm := by rw [hA]; rfl
  have hhp : s'.heap = H := by rw [hA]; exact hT
  have hW0 : s.WarmedH s'.vm := by rw [hvm]; exact State.WarmedH.refl s
  have hat' : ∀ w ∈ vx_at0 own ic cls names, w.before args s' = true := fun w hw => vx_ot_at hW0 hvm.symm (hgood w (List.mem_cons_of_mem _ (List.mem_cons_of_mem _ hw))) (hat w hw)
  have hk' : (Cond.classLink own ik cls).before args s' = true := vx_ot_at hW0 hvm.symm (hgood _ List.mem_cons_self) hk
  have hini' : (Cond.initialized cls).before args s' = true := vx_ot_at hW0 hvm.symm (hgood _ (List.mem_cons_of_mem _ List.mem_cons_self)) hini
  have hU' : vx_Zq Bundle.tN "UNASSIGNED_STACK" Bundle.steD A s' s'.heap := by rw [hhp]; exact vx_Zq.moved hW0.alike (hU.kept hS.2.1)
  have hN' : vx_Zq Bundle.tN "SUPPRESSED_SENTINEL" Bundle.listD A s' s'.heap := by rw [hhp]; exact vx_Zq.moved hW0.alike (hN.kept hS.2.1)
  have h : ∀ w ∈ Bundle.ownAtoms0 own ic cls names, w.before args s' = true := vx_own hat' (vx_isRefq hU'.1) (vx_isRefq hN'.1) hU'.2.word hN'.2.word
  have hown' : s'.vm.findClass own = some m.cls := by rw [hvm]; exact hown
  have hins : (Cond.instantiable cls 6).before args s' = true := h _ (by simp [Bundle.ownAtoms0])
  obtain ⟨vm₁, cX, kX, hfX, hkX, -, -, X₁, st1⟩ := Y.newCold hexec (own := own) (C := cls) (index := ik) (n := 6) hown' hk' hins hini'
    (g := F0 m pc ls rest) rfl (by rw [hb]; exact d0) (Nat.le_refl _) (Nat.le_refl _)
  generalize hT1 : (T.setVm vm₁).pushCell { cls := cX, slots := kX.instanceTypes.map defaultValue, vm := .none } = T1 at X₁ st1
  have hcat : (Value.ref T.heap.size).category = 1 := rfl
  have hcellA : T1.heap[T.heap.size]? = some (freshCell cX kX) := by rw [← hT1]; exact State.heap_pushCell_size _ _
  have d3' : decode c.code (pc + 3) = .ok (.dup, 1) := by rw [hb]; exact d3
  obtain ⟨U, hsteps, hrun, hend, hW, hsame, ce, hce, hO⟩ := X₁.ctorThrow0 hexec htr (own := own) (cls := cls) (names := names) (ic := ic) hown' hcls hnames h (fun x hx => nomatch hx) hfX hkX hcellA (by rw [hhp, hT]; exact Nat.le_refl _)
    (g := { method := m, pc := pc + 4, locals := ls, stack := .ref T.heap.size :: .ref T.heap.size :: rest, locked := none }) rfl hsize rfl rfl (rest := rest) rfl
    (by rw [hb]; exact d4) (by rw [hb]; exact d7) hout hRframes (by simp only [List.map_cons, List.sum_cons, hcat]; omega) hlocks
  obtain ⟨f1, f2⟩ := vx_frame hsame
  rw [hhp] at f1 f2
  have hWs : s.WarmedH U.vm := State.WarmedH.trans hW0 hW
  have hcl : s.vm.findClass cls = some ce.cls := by
    have h9 := hO.cls
    rw [hvm] at h9
    exact h9
  have hall : s.sameButNew ({ U with vm := s.vm } : State) locs mc ms := by
    subst hA
    obtain ⟨e1, e2⟩ := hsame
    rw [State.setFrames_setFrames] at e1
    have h2 : (T.setVm s.vm).sameButNew ({ U with vm := s.vm } : State) [] (0 + 1) (0 + 6) := ⟨e1, e2⟩
    have h3 := X.same.trans h2
    rw [List.append_nil] at h3
    exact h3.mono hc hs
  refine ⟨U, ?_, .threw T.heap.size, hrun, hend, Or.inr ⟨T.heap.size, rfl, cls, ce, locs, hx U hWs.alike f1 (fun q hq => f2 q hq (fun z hz => nomatch hz)), hce, hO.vm, hcl, hWs, hall, hf⟩⟩
  refine st1 _ ?_
  show Steps p.tables e below (T1.setTop { method := m, pc := pc + 3, locals := ls, stack := .ref T.heap.size :: rest, locked := none }) _
  jvm_step X₁.here [X₁.here.top, hexec, d3', Value.category]
  exact hsteps
/-- 'throw new E("text")': new; dup; ldc; invokespecial; athrow -/
theorem vx_throwS {cc : ByteArray} {pc : Nat} (hexec : p.tables.exec = Jvm.exec) (hb : c.code = cc) (hl : l.stackTraces = false) {own cls text : String} {names : List String} {ik is ic mc ms sa : Nat} {A : Nat → Prop}
    (hown : s.vm.findClass own = some m.cls) (hcls : Bundle.fit cls = true) (hnames : ∀ n ∈ names, Bundle.fit n = true)
    (hk : (Cond.classLink own ik cls).before args s = true) (hini : (Cond.initialized cls).before args s = true) (hstr : vk_R own is text sa s) (hat : ∀ w ∈ vx_atS own ic cls names, w.before args s = true)
    (hgood : ∀ w ∈ Cond.classLink own ik cls :: Cond.initialized cls :: vx_atS own ic cls names, vx_ot w = true)
    (hU : vx_Zq Bundle.tN "UNASSIGNED_STACK" Bundle.steD A s s.heap) (hN : vx_Zq Bundle.tN "SUPPRESSED_SENTINEL" Bundle.listD A s s.heap) (hS : va_S A s.heap H locs) (hsize : ls.size = c.maxLocals)
    (d0 : decode cc pc = .ok (.new ik, 3)) (d3 : decode cc (pc + 3) = .ok (.dup, 1)) (d4 : decode cc (pc + 4) = .ok (.ldc is, 2)) (d6 : decode cc (pc + 6) = .ok (.invokespecial ic, 3)) (d9 : decode cc (pc + 9) = .ok (.athrow, 1))
    (hout : ∀ x ∈ c.exceptionTable.toList, covers x (pc + 9) = false)
    (hRframes : names.length + 3 < R.frames) (hRlocals : (rest.map fun v => v.category).sum + (13 * (names.length + 1) + 43) ≤ R.locals) (hRcells : cells + 1 ≤ R.cells) (hRslots : slots + 6 ≤ R.slots) (hlocks : meth.locks = false)
    (hx : ∀ t : State, s.vm.Alike t.vm → H.size ≤ t.heap.size → (∀ q : Nat, q < H.size → t.heap[q]? = H[q]?) → XC cls s t)
    (hf : ∀ z ∈ locs, free z.base) (hc : cells + 1 ≤ mc) (hs : slots + 6 ≤ ms) :
    W p l e R s m args below meth c H locs cells slots (vx_MQ below Qc XC args s mc ms free) (F0 m pc ls rest) := by
  intro T hT X
  have htr : e.platform.stackTraces = false := (show e.platform.stackTraces = l.stackTraces by rw [X.admits.platform]).trans hl
  have Y := vx_rebase X (R' := { frames := R.frames, locals := R.locals, cells := 1, slots := 6 }) (Nat.le_refl _) (Nat.le_refl _) hRcells hRslots
  obtain ⟨s', hA⟩ : ∃ z, z = (T.setVm s.vm).setFrames (.invoking m args :: below) := ⟨_, rfl⟩
  rw [← hA] at Y
  have hvm : s'.vm = s.vm := by rw [hA]; rfl
  have hhp : s'.heap = H := by rw [hA]; exact hT
  have hW0 : s.WarmedH s'.vm := by rw [hvm]; exact State.WarmedH.refl s
  have hat' : ∀ w ∈ vx_atS own ic cls names, w.before args s' = true := fun w hw => vx_ot_at hW0 hvm.symm (hgood w (List.mem_cons_of_mem _ (List.mem_cons_of_mem _ hw))) (hat w hw)
  have hk' : (Cond.classLink own ik cls).before args s' = true := vx_ot_at hW0 hvm.symm (hgood _ List.mem_cons_self) hk
  have hini' : (Cond.initialized cls).before args s' = true := vx_ot_at hW0 hvm.symm (hgood _ (List.mem_cons_of_mem _ List.mem_cons_self)) hini
  have hU' : vx_Zq Bundle.tN "UNASSIGNED_STACK" Bundle.steD A s' s'.heap := by rw [hhp]; exact vx_Zq.moved hW0.alike (hU.kept hS.2.1)
  have hN' : vx_Zq Bundle.tN "SUPPRESSED_SENTINEL" Bundle.listD A s' s'.heap := by rw [hhp]; exact vx_Zq.moved hW0.alike (hN.kept hS.2.1)
  have h : ∀ w ∈ Bundle.ownAtoms own ic cls names, w.before args s' = true := vx_own hat' (vx_isRefq hU'.1) (vx_isRefq hN'.1) hU'.2.word hN'.2.word
  have hown' : s'.vm.findClass own = some m.cls := by rw [hvm]; exact hown
  have hins : (Cond.instantiable cls 6).before args s' = true := h _ (by simp [Bundle.ownAtoms])
  obtain ⟨vm₁, cX, kX, hfX, hkX, -, -, X₁, st1⟩ := Y.newCold hexec (own := own) (C := cls) (index := ik) (n := 6) hown' hk' hins hini'
    (g := F0 m pc ls rest) rfl (by rw [hb]; exact d0) (Nat.le_refl _) (Nat.le_refl _)
  generalize hT1 : (T.setVm vm₁).pushCell { cls := cX, slots := kX.instanceTypes.map defaultValue, vm := .none } = T1 at X₁ st1
  have hcat : (Value.ref T.heap.size).category = 1 := rfl
  have hcellA : T1.heap[T.heap.size]? = some (freshCell cX kX) := by rw [← hT1]; exact State.heap_pushCell_size _ _
  have d3' : decode c.code (pc + 3) = .ok (.dup, 1) := by rw [hb]; exact d3
  have d4' : decode c.code (pc + 4) = .ok (.ldc is, 2) := by rw [hb]; exact d4
  have hstr' : vk_R own is text sa s' := vk_R.warm hW0 hstr
  obtain ⟨U, hsteps, hrun, hend, hW, hsame, ce, hce, hO⟩ := X₁.ctorThrowS hexec htr (own := own) (cls := cls) (names := names) (ic := ic) hown' hcls hnames h (fun x hx => nomatch hx) hfX hkX hcellA (by rw [hhp, hT]; exact Nat.le_refl _) (msg := .ref sa) rfl
    (g := { method := m, pc := pc + 6, locals := ls, stack := .ref sa :: .ref T.heap.size :: .ref T.heap.size :: rest, locked := none }) rfl hsize rfl rfl (rest := rest) rfl
    (by rw [hb]; exact d6) (by rw [hb]; exact d9) hout hRframes (by simp only [List.map_cons, List.sum_cons, hcat]; omega) hlocks
  obtain ⟨f1, f2⟩ := vx_frame hsame
  rw [hhp] at f1 f2
  have hWs : s.WarmedH U.vm := State.WarmedH.trans hW0 hW
  have hcl : s.vm.findClass cls = some ce.cls := by
    have h9 := hO.cls
    rw [hvm] at h9
    exact h9
  have hall : s.sameButNew ({ U with vm := s.vm } : State) locs mc ms := by
    subst hA
    obtain ⟨e1, e2⟩ := hsame
    rw [State.setFrames_setFrames] at e1
    have h2 : (T.setVm s.vm).sameButNew ({ U with vm := s.vm } : State) [] (0 + 1) (0 + 6) := ⟨e1, e2⟩
    have h3 := X.same.trans h2
    rw [List.append_nil] at h3
    exact h3.mono hc hs
  refine ⟨U, ?_, .threw T.heap.size, hrun, hend, Or.inr ⟨T.heap.size, rfl, cls, ce, locs, hx U hWs.alike f1 (fun q hq => f2 q hq (fun z hz => nomatch hz)), hce, hO.vm, hcl, hWs, hall, hf⟩⟩
  refine st1 _ ?_
  show Steps p.tables e below (T1.setTop { method := m, pc := pc + 3, locals := ls, stack := .ref T.heap.size :: rest, locked := none }) _
  jvm_step X₁.here [X₁.here.top, hexec, d3', Value.category]
  exact X₁.ldcString hexec (own := own) (text := text) (index := is) (a := sa) hown' hstr'.1 hstr'.2
    (g := { method := m, pc := pc + 4, locals := ls, stack := .ref T.heap.size :: .ref T.heap.size :: rest, locked := none }) rfl d4' _ hsteps
/-- 'throw new E("text")', the text by a wide index -/
theorem vx_throwSW {cc : ByteArray} {pc : Nat} (hexec : p.tables.exec = Jvm.exec) (hb : c.code = cc) (hl : l.stackTraces = false) {own cls text : String} {names : List String} {ik is ic mc ms sa : Nat} {A : Nat → Prop}
    (hown : s.vm.findClass own = some m.cls) (hcls : Bundle.fit cls = true) (hnames : ∀ n ∈ names, Bundle.fit n = true)
    (hk : (Cond.classLink own ik cls).before args s = true) (hini : (Cond.initialized cls).before args s = true) (hstr : vk_R own is text sa s) (hat : ∀ w ∈ vx_atS own ic cls names, w.before args s = true)
    (hgood : ∀ w ∈ Cond.classLink own ik cls :: Cond.initialized cls :: vx_atS own ic cls names, vx_ot w = true)
    (hU : vx_Zq Bundle.tN "UNASSIGNED_STACK" Bundle.steD A s s.heap) (hN : vx_Zq Bundle.tN "SUPPRESSED_SENTINEL" Bundle.listD A s s.heap) (hS : va_S A s.heap H locs) (hsize : ls.size = c.maxLocals)
    (d0 : decode cc pc = .ok (.new ik, 3)) (d3 : decode cc (pc + 3) = .ok (.dup, 1)) (d4 : decode cc (pc + 4) = .ok (.ldc_w is, 3)) (d7 : decode cc (pc + 7) = .ok (.invokespecial ic, 3)) (d10 : decode cc (pc + 10) = .ok (.athrow, 1))
    (hout : ∀ x ∈ c.exceptionTable.toList, covers x (pc + 10) = false)
    (hRframes : names.length + 3 < R.frames) (hRlocals : (rest.map fun v => v.category).sum + (13 * (names.length + 1) + 43) ≤ R.locals) (hRcells : cells + 1 ≤ R.cells) (hRslots : slots + 6 ≤ R.slots) (hlocks : meth.locks = false)
    (hx : ∀ t : State, s.vm.Alike t.vm → H.size ≤ t.heap.size → (∀ q : Nat, q < H.size → t.heap[q]? = H[q]?) → XC cls s t)
    (hf : ∀ z ∈ locs, free z.base) (hc : cells + 1 ≤ mc) (hs : slots + 6 ≤ ms) :
    W p l e R s m args below meth c H locs cells slots (vx_MQ below Qc XC args s mc ms free) (F0 m pc ls rest) := by
  intro T hT X
  have htr : e.platform.stackTraces = false := (show e.platform.stackTraces = l.stackTraces by rw [X.admits.platform]).trans hl
  have Y := vx_rebase X (R' := { frames := R.frames, locals := R.locals, cells := 1, slots := 6 }) (Nat.le_refl _) (Nat.le_refl _) hRcells hRslots
  obtain ⟨s', hA⟩ : ∃ z, z = (T.setVm s.vm).setFrames (.invoking m args :: below) := ⟨_, rfl⟩
  rw [← hA] at Y
  have hvm : s'.vm = s.vm := by rw [hA]; rfl
  have hhp : s'.heap = H := by rw [hA]; exact hT
  have hW0 : s.WarmedH s'.vm := by rw [hvm]; exact State.WarmedH.refl s
  have hat' : ∀ w ∈ vx_atS own ic cls names, w.before args s' = true := fun w hw => vx_ot_at hW0 hvm.symm (hgood w (List.mem_cons_of_mem _ (List.mem_cons_of_mem _ hw))) (hat w hw)
  have hk' : (Cond.classLink own ik cls).before args s' = true := vx_ot_at hW0 hvm.symm (hgood _ List.mem_cons_self) hk
  have hini' : (Cond.initialized cls).before args s' = true := vx_ot_at hW0 hvm.symm (hgood _ (List.mem_cons_of_mem _ List.mem_cons_self)) hini
  have hU' : vx_Zq Bundle.tN "UNASSIGNED_STACK" Bundle.steD A s' s'.heap := by rw [hhp]; exact vx_Zq.moved hW0.alike (hU.kept hS.2.1)
  have hN' : vx_Zq Bundle.tN "SUPPRESSED_SENTINEL" Bundle.listD A s' s'.heap := by rw [hhp]; exact vx_Zq.moved hW0.alike (hN.kept hS.2.1)
  have h : ∀ w ∈ Bundle.ownAtoms own ic cls names, w.before args s' = true := vx_own hat' (vx_isRefq hU'.1) (vx_isRefq hN'.1) hU'.2.word hN'.2.word
  have hown' : s'.vm.findClass own = some m.cls := by rw [hvm]; exact hown
  have hins : (Cond.instantiable cls 6).before args s' = true := h _ (by simp [Bundle.ownAtoms])
  obtain ⟨vm₁, cX, kX, hfX, hkX, -, -, X₁, st1⟩ := Y.newCold hexec (own := own) (C := cls) (index := ik) (n := 6) hown' hk' hins hini'
    (g := F0 m pc ls rest) rfl (by rw [hb]; exact d0) (Nat.le_refl _) (Nat.le_refl _)
  generalize hT1 : (T.setVm vm₁).pushCell { cls := cX, slots := kX.instanceTypes.map defaultValue, vm := .none } = T1 at X₁ st1
  have hcat : (Value.ref T.heap.size).category = 1 := rfl
  have hcellA : T1.heap[T.heap.size]? = some (freshCell cX kX) := by rw [← hT1]; exact State.heap_pushCell_size _ _
  have d3' : decode c.code (pc + 3) = .ok (.dup, 1) := by rw [hb]; exact d3
  have d4' : decode c.code (pc + 4) = .ok (.ldc_w is, 3) := by rw [hb]; exact d4
  have hstr' : vk_R own is text sa s' := vk_R.warm hW0 hstr
  obtain ⟨U, hsteps, hrun, hend, hW, hsame, ce, hce, hO⟩ := X₁.ctorThrowS hexec htr (own := own) (cls := cls) (names := names) (ic := ic) hown' hcls hnames h (fun x hx => nomatch hx) hfX hkX hcellA (by rw [hhp, hT]; exact Nat.le_refl _) (msg := .ref sa) rfl
    (g := { method := m, pc := pc + 7, locals := ls, stack := .ref sa :: .ref T.heap.size :: .ref T.heap.size :: rest, locked := none }) rfl hsize rfl rfl (rest := rest) rfl
    (by rw [hb]; exact d7) (by rw [hb]; exact d10) hout hRframes (by simp only [List.map_cons, List.sum_cons, hcat]; omega) hlocks
  obtain ⟨f1, f2⟩ := vx_frame hsame
  rw [hhp] at f1 f2
  have hWs : s.WarmedH U.vm := State.WarmedH.trans hW0 hW
  have hcl : s.vm.findClass cls = some ce.cls := by
    have h9 := hO.cls
    rw [hvm] at h9
    exact h9
  have hall : s.sameButNew ({ U with vm := s.vm } : State) locs mc ms := by
    subst hA
    obtain ⟨e1, e2⟩ := hsame
    rw [State.setFrames_setFrames] at e1
    have h2 : (T.setVm s.vm).sameButNew ({ U with vm := s.vm } : State) [] (0 + 1) (0 + 6) := ⟨e1, e2⟩
    have h3 := X.same.trans h2
    rw [List.append_nil] at h3
    exact h3.mono hc hs
  refine ⟨U, ?_, .threw T.heap.size, hrun, hend, Or.inr ⟨T.heap.size, rfl, cls, ce, locs, hx U hWs.alike f1 (fun q hq => f2 q hq (fun z hz => nomatch hz)), hce, hO.vm, hcl, hWs, hall, hf⟩⟩
  refine st1 _ ?_
  show Steps p.tables e below (T1.setTop { method := m, pc := pc + 3, locals := ls, stack := .ref T.heap.size :: rest, locked := none }) _
  jvm_step X₁.here [X₁.here.top, hexec, d3', Value.category]
  exact X₁.ldcStringW hexec (own := own) (text := text) (index := is) (a := sa) hown' hstr'.1 hstr'.2
    (g := { method := m, pc := pc + 4, locals := ls, stack := .ref T.heap.size :: .ref T.heap.size :: rest, locked := none }) rfl d4' _ hsteps
end Ends
section Bodies
variable {l : Launch}
theorem vx_ofW {y : MethodName} {ws ws' : List Cond} {rm : Room} {Pc : Array Value → State → Prop} {Qc : Array Value → State → Outcome → State → Prop} {XC : String → State → State → Prop} {mc ms : Nat} {free : Addr → Prop} {cc : ByteArray} {maxL : Nat} {ret : Option FieldType}
    (hy : plainName y.cls = true) (hw : ws = Cond.code y cc maxL ret :: ws')
    (body : ∀ p e s m args below meth c s₁, BodyLoose p l y (headSpec ws rm) cc maxL ret e s m args below meth c s₁ → c.maxLocals = maxL → (∀ x ∈ c.exceptionTable.toList, False) → Pc args s →
      W p l e (headSpec ws rm).room s m args below meth c s.heap [] 0 0 (vx_MQ below Qc XC args s mc ms free) (entryFrame m args maxL)) : vx_Met l y ws rm Pc Qc XC mc ms free := by
  refine MetFree.of_bodyS (code := cc) (maxLocals := maxL) (ret := ret) hy ?_ ?_
  · intro args s m h hn
    obtain ⟨meth, c, h1, h2, h3, h4, h5, h6, -, -⟩ := Cond.code_spec hn (atoms_spec (ws := ws) h _ (by rw [hw]; exact List.mem_cons_self))
    exact ⟨meth, c, h1, h2, h3, h4, h5, h6⟩
  · intro p e s m args below meth c s₁ B hml hP _
    have hh0 : s₁.heap = s.heap := by rw [B.state]; rfl
    have ht : ∀ x ∈ c.exceptionTable.toList, False := by
      obtain ⟨meth9, c9, h1, h2, -, -, -, -, h7, -⟩ := Cond.code_spec B.named (atoms_spec (ws := ws) B.pre _ (by rw [hw]; exact List.mem_cons_self))
      cases Option.some.inj (h1.symm.trans B.method)
      cases Option.some.inj (h2.symm.trans (Stand.of_body B).code)
      intro x hx
      rw [Array.isEmpty_iff.mp h7] at hx
      cases hx
    obtain ⟨t, a1, o, b1, b2, b3⟩ := body p e s m args below meth c s₁ B hml ht hP s₁ hh0 (Stand.of_body B)
    exact ⟨t, o, a1, b1, b2, b3⟩
/-- the table of a body with handlers -/
theorem vx_table {p : Program} {x y : MethodName} {S : Spec} {cc bytes : ByteArray} {maxL maxL' : Nat} {ret ret' : Option FieldType} {e : Env} {s s₁ : State} {m : MethodId} {args : Array Value} {below : List Frame} {meth : Method} {c : Code} {hh : List (Nat × Nat × Nat × Nat)}
    (B : BodyLoose p l y S cc maxL ret e s m args below meth c s₁) (h : (Cond.codeWith y bytes maxL' ret' hh).before args s = true) : c.exceptionTable.toList = tableOf hh := by
  obtain ⟨m9, meth9, c9, hn9, h1, h2, -, -, h6, -⟩ := Cond.codeWith_spec h
  cases Option.some.inj (hn9.symm.trans B.named)
  cases Option.some.inj (h1.symm.trans B.method)
  cases Option.some.inj (h2.symm.trans (Stand.of_body B).code)
  rw [← h6, table_eq]
end Bodies
end VXA
/-! ===== END ===== -/
/-! ===== BEGIN a static call of a method with an exception table ===== -/
section VXS
variable {p : Program} {l : Launch} {e : Env} {R : Room} {s : State} {m : MethodId} {args : Array Value} {below : List Frame} {meth : Method} {c : Code} {T : State} {H : Heap} {locs : List Loc} {cells slots : Nat}
abbrev vx_CSW (R : Room) (s : State) (args : Array Value) (own : String) (index : Nat) (y : MethodName) (bytes : ByteArray) (maxL : Nat) (ret : Option FieldType) (hh : List (Nat × Nat × Nat × Nat)) (ws : List Cond) (rm : Room) (mc ms n : Nat) : Prop :=
  (rm.cells = mc ∧ rm.slots = ms ∧ rm.frames + 1 ≤ R.frames ∧ 8 + (maxL + 11) + rm.locals ≤ R.locals ∧ (∀ w ∈ ws, ∀ (a' : Array Value) (U : State), s.WarmedH U.vm → w.before a' U = true) ∧ Cond.codeWith y bytes maxL ret hh ∈ ws) ∧
  (Cond.codeWith y bytes maxL ret hh).before args s = true ∧ (Cond.initialized y.cls).before args s = true ∧ (y.cls ≠ "java/lang/invoke/MethodHandle" ∧ y.cls ≠ "java/lang/invoke/VarHandle") ∧
  (∀ sig, parseMethodDescriptor y.desc = some sig → n = sig.parameters.length) ∧ (Cond.methodLink own index y).before args s = true ∧ (Cond.static y).before args s = true
theorem vx_cwSW {own : String} {index maxL mc ms : Nat} {y : MethodName} {bytes : ByteArray} {ret : Option FieldType} {hh : List (Nat × Nat × Nat × Nat)} {Ts ws ws' : List Cond} {rm : Room} (n : Nat) (ht : ∀ w ∈ Ts, w.before args s = true) (hT : GoodIn Ts (va_wsS own index y ws)) (hw : ws = Cond.codeWith y bytes maxL ret hh :: ws') (hrc : rm.cells = mc) (hrs : rm.slots = ms)
    (hd : y.cls ≠ "java/lang/invoke/MethodHandle" ∧ y.cls ≠ "java/lang/invoke/VarHandle" ∧ (parseMethodDescriptor y.desc).map (fun d => d.parameters.length) = some n) (hR : rm.frames + 1 ≤ R.frames ∧ 8 + (maxL + 11) + rm.locals ≤ R.locals) :
    vx_CSW R s args own index y bytes maxL ret hh ws rm mc ms n := by
  have ok : ∀ w ∈ va_wsS own index y ws, w.before args s = true := fun w h => ht w (hT w h).1
  have hG : GoodIn Ts ws := fun w h => hT w (by unfold va_wsS; exact List.mem_append_right _ h)
  have hc : Cond.codeWith y bytes maxL ret hh ∈ ws := by rw [hw]; exact List.mem_cons_self
  refine ⟨⟨hrc, hrs, hR.1, hR.2, pay_in ht hG, hc⟩, ht _ (hG _ hc).1, ok _ (by simp [va_wsS]), ⟨hd.1, hd.2.1⟩, fun sig h => ?_, ok _ (by simp [va_wsS]), ok _ (by simp [va_wsS])⟩
  have h2 := hd.2.2
  rw [h] at h2
  exact (Option.some.inj h2).symm
theorem vx_callSW (X : Stand p l e R s m args below meth c T locs cells slots) (hexec : p.tables.exec = Jvm.exec) {own : String} {index : Nat} {y : MethodName} {bytes : ByteArray} {maxL : Nat} {ret : Option FieldType} {hh : List (Nat × Nat × Nat × Nat)}
    (hown : s.vm.findClass own = some m.cls) (hlink : (Cond.methodLink own index y).before args s = true) (hstat : (Cond.static y).before args s = true) (hinit : (Cond.initialized y.cls).before args s = true)
    (hcode : (Cond.codeWith y bytes maxL ret hh).before args s = true) (hy : y.cls ≠ "java/lang/invoke/MethodHandle" ∧ y.cls ≠ "java/lang/invoke/VarHandle")
    {W9 : Nat} {Pre : Pt → Array Value → Prop} {Post : Pt → Array Value → Option Value → Pt → Prop} (hK : Back l R p e below s args y 3 W9 Pre Post)
    {g : JFrame} (hg : g.method = m) (hsize : g.locals.size = c.maxLocals) {argsL rest : List Value} (hlen : ∀ sig, parseMethodDescriptor y.desc = some sig → argsL.length = sig.parameters.length)
    (hstack : g.stack = argsL.reverse ++ rest) (hW : 2 * g.monitorRoom + (rest.map fun v => v.category).sum ≤ W9) (hdg : decode c.code g.pc = .ok (.invokestatic index, 3))
    (hpre : ∀ vm₁, s.WarmedH vm₁ → Pre ⟨T.setVm vm₁, locs, cells, slots⟩ argsL.toArray) :
    ∃ (v : Option Value) (vm₁ : Vm) (B : Pt), s.WarmedH vm₁ ∧ Stand p l e R s m args below meth c B.U B.locs B.cells B.slots ∧ Post ⟨T.setVm vm₁, locs, cells, slots⟩ argsL.toArray v B ∧
      ∀ target, Steps p.tables e below (B.U.setTop { g with pc := g.pc + 3, stack := v.toList ++ rest }) target → Steps p.tables e below (T.setTop g) target := by
  obtain ⟨mk, methM, cM, hnamed, hmethM, -, -, -, -, -, -, hsigM⟩ := Cond.codeWith_spec hcode
  have hstatic : methM.isStatic = true := Cond.static_spec hnamed hmethM hstat
  obtain ⟨kP, hkP, -⟩ := className_of_methodNamed hnamed
  have hinitP : kP.init = .initialized := Cond.initialized_spec (findClass_of_methodNamed hnamed) hkP hinit
  obtain ⟨vm₁, X₁, hstep₁⟩ := X.invokestatic hexec hown hlink hnamed hmethM hstatic hkP hinitP hy (g := g) hg (argsL := argsL) (rest := rest) (hlen _ hsigM) hstack hdg
  obtain ⟨v, B, X', hpost, hsteps⟩ := hK m meth c ⟨T.setVm vm₁, locs, cells, slots⟩ { g with stack := rest } (.invokestatic index) mk argsL.toArray X₁ hg hsize hdg hW (X₁.named hnamed) (hpre vm₁ X₁.warmed)
  exact ⟨v, vm₁, B, X₁.warmed, X', hpost, fun target h => hstep₁ _ fun acts => by rw [doInvoke_state]; exact hsteps.trans h⟩
theorem vx_runSW {y : MethodName} {bytes cc : ByteArray} {maxL nL mc ms n index : Nat} {ret : Option FieldType} {hh : List (Nat × Nat × Nat × Nat)} {ws : List Cond} {rm : Room} {Pc : Array Value → State → Prop} {Qc : Array Value → State → Outcome → State → Prop} {free : Addr → Prop} {Ts : List Cond} {own : String} {As rest : List Value} {g : JFrame}
    (S : CallFix p m c cc nL s args Ts own) (hM : Met l y ws rm Pc Qc mc ms free) (cw : vx_CSW R s args own index y bytes maxL ret hh ws rm mc ms n) (hp : PreS s H Pc As)
    (hg : g.method = m) (hn : As.length = n) (hsize : g.locals.size = nL) (hstack : g.stack = As.reverse ++ rest) (hW : 2 * g.monitorRoom + (rest.map fun v => v.category).sum ≤ 8) (hdg : decode cc g.pc = .ok (.invokestatic index, 3)) (hf : cells + mc ≤ R.cells ∧ slots + ms ≤ R.slots) :
    va_Run p l e R s m args below meth c H locs cells slots mc ms g rest (Qc As.toArray) (free) := by
  obtain ⟨⟨hrc, hrs, hfr, hlo, hws, hcw⟩, hcode, hini, hy, hlen, hl, hstt⟩ := cw
  have hK : Back l R p e below s args y 3 8 (PreOf R mc ms Pc) (PostOf Qc mc ms free) := va_backW (hh := hh) (bytes := bytes) (maxL := maxL) (ret := ret) hM hp.1 hrc hrs hfr hlo hws hcw (fun a' U hW => word_at hW (Or.inl (by first | rfl | simp [Cond.onTables, Cond.keeps, Cond.steady])) hini)
  obtain ⟨hx, hb, hml, ho, -⟩ := S
  intro T hT X
  obtain ⟨v, vm₁, ⟨U', l2, c2, s2⟩, hW₁, X', ⟨g', mk, t, L, e1, e2, hq, h1, hL, h2, h3⟩, st⟩ := vx_callSW X hx (hh := hh) (bytes := bytes) (maxL := maxL) (ret := ret) ho hl hstt hini hcode hy hK hg (hsize.trans hml.symm) (argsL := As) (rest := rest) (fun sig h => hn.trans (hlen sig h)) hstack hW (by rw [hb]; exact hdg)
    (fun vm₁ hW₁ => ⟨hf.1, hf.2, hp.2 (T.setVm vm₁) hT hW₁⟩)
  dsimp only [Pt.U, Pt.locs, Pt.cells, Pt.slots] at X' e1 e2 h1 h2 h3 st
  subst h1; subst h2; subst h3
  exact ⟨v, (T.setVm vm₁).calling g' mk As.toArray, t, U', L, hT, X', hL, e1, e2, hq, st⟩
/-- not caught here, past rows that name other classes: it goes on to the caller -/
theorem vx_outP {p : Program} {l : Launch} {e : Env} {R : Room} {s : State} {m : MethodId} {args : Array Value} {below : List Frame} {meth : Method} {c : Code} {H : Heap} {locs : List Loc} {cells slots : Nat} {free : Addr → Prop} {ls : Array Slot} {rest : List Value} {Qc : Array Value → State → Outcome → State → Prop} {XC : String → State → State → Prop}
    {pc : Nat} {own E : String} {ce : Cell} {q : Addr} {mc ms : Nat} (hown : s.vm.findClass own = some m.cls) (hlocks : meth.locks = false)
    (hpass : ∀ z ∈ c.exceptionTable.toList, covers z pc = false ∨ (z.catchType ≠ 0 ∧ ∃ nm : String, (Cond.classLink own z.catchType nm).before args s = true ∧ va_Nc E nm s)) (hcell : H[q]? = some ce) (hv : ce.vm = .none) (hcl : s.vm.findClass E = some ce.cls)
    (hx : ∀ t : State, t.heap = H → s.vm.Alike t.vm → XC E s t) (hf : ∀ z ∈ locs, free z.base) (hc : cells ≤ mc) (hs : slots ≤ ms) :
    vx_W p l e R s m args below meth c H locs cells slots (vx_MQ below Qc XC args s mc ms free) (F0 m pc ls rest) q := by
  intro T hT X
  have hpl : e.platform.magicAccessors = ({} : Platform).magicAccessors := by rw [X.admits.platform]
  obtain ⟨vm', hW', X', st⟩ := X.outThrough hlocks q (g := F0 m pc ls rest) rfl rfl rfl (cell := ce) (by rw [hT]; exact hcell) (by rw [hv]; rfl)
    (by obtain ⟨k9, h9, -⟩ := Vm.findClass_spec hcl; exact ⟨k9, h9⟩) (fun z hz => by
      rcases hpass z hz with h | ⟨hz0, nm, hl1, hn1⟩
      · exact Or.inl h
      · obtain ⟨c6, hc6, hcl6⟩ := Cond.classLink_spec hown hl1 e.platform hpl
        obtain ⟨a8, b8, h1, h2, h3⟩ := hn1
        cases Option.some.inj (h1.symm.trans hcl)
        cases Option.some.inj (h2.symm.trans hc6)
        exact Or.inr ⟨hz0, _, hcl6, h3⟩)
  obtain ⟨g₀, hfr⟩ := X'.frames_eq
  have hcell9 : ((T.setVm vm').setFrames (.throwing q :: below)).heap[q]? = some ce := by
    show T.heap[q]? = some ce
    rw [hT]; exact hcell
  have hend : Ended ((T.setVm vm').setFrames (.throwing q :: below)) below (.threw q) := State.frames_setFrames _ (State.cur_lt_of_frames hfr)
  refine ⟨(T.setVm vm').setFrames (.throwing q :: below), ?_, .threw q, X'.here.running, hend, Or.inr ⟨q, rfl, E, ce, locs, hx _ hT (X'.ends _).1.alike, hcell9, hv, hcl, (X'.ends _).1, (X'.ends _).2.mono hc hs, hf⟩⟩
  rw [X.pushThrowing_eq]
  exact st
/-- a thing of a world lies in the heap -/
theorem vx_lt {D : va_G} {cl : List vw_C} {ws : va_W} {H1 : Heap} (h : va_P D cl ws H1) {k : Nat} {q : Nat × va_E} (hk : ws[k]? = some q) : q.1 < H1.size := (h k q hk).lt
end VXS
/-! ===== END ===== -/
/-! ===== BEGIN methods with a table of their own: called by a name, returning or throwing ===== -/
section VXH
/-! vx_backW, vx_callVX, vx_callSX, vx_callVW, vx_runVW, vx_runVX, vx_runSX, vx_ofWH follow the same proofs as their sisters above (Free/Laws.lean, Shelf42/LK1.lean); vx_outP calls Shelf42/NT130.lean (outThrough). -/
section
variable {l : Launch} {R : Room} {p : Program} {e : Env} {below : List Frame} {s : State} {sargs : Array Value} {y : MethodName} {len W9 : Nat}
theorem vx_backW {ws : List Cond} {rm : Room} {Pc : Array Value → State → Prop} {Qc : Array Value → State → Outcome → State → Prop} {XC : String → State → State → Prop} {mc ms : Nat} {free : Addr → Prop} {bytes : ByteArray} {maxL : Nat} {ret : Option FieldType} {hh : List (Nat × Nat × Nat × Nat)}
    (hM : vx_Met l y ws rm Pc Qc XC mc ms free) (hblind : FrameBlind Pc) (hrc : rm.cells = mc) (hrs : rm.slots = ms)
    (hframes : rm.frames + 1 ≤ R.frames) (hlocals : W9 + (maxL + 11) + rm.locals ≤ R.locals)
    (hws : ∀ w ∈ ws, ∀ a' U, s.WarmedH U.vm → w.before a' U = true) (hcode : Cond.codeWith y bytes maxL ret hh ∈ ws) (hinit : ∀ a' U, s.WarmedH U.vm → (Cond.initialized y.cls).before a' U = true) :
    vx_Back l R p e below s sargs y len W9 (PreOf R mc ms Pc) (PostOf Qc mc ms free) (vx_Post XC mc ms free) := by
  intro m meth c A g ig mk a X hg hsize hdg hW hn hp
  have h1 : (headSpec ws rm).pre.before a A.U = true := atoms_intro fun w hw => hws w hw _ _ X.warmed
  have h2 : (Cond.codeWith y bytes maxL ret hh).before a A.U = true := hws _ hcode _ _ X.warmed
  have h3 : (Cond.initialized y.cls).before a A.U = true := hinit _ _ X.warmed
  have h4 : A.cells + (headSpec ws rm).room.cells ≤ R.cells := by rw [show (headSpec ws rm).room.cells = mc from hrc]; exact hp.1
  have h5 : A.slots + (headSpec ws rm).room.slots ≤ R.slots := by rw [show (headSpec ws rm).room.slots = ms from hrs]; exact hp.2.1
  have hPc : Pc a (A.U.calling g mk a) := hblind _ _ _ _ hp.2.2
  obtain ⟨U, Ls, c0, s0⟩ := A
  dsimp only [Pt.U, Pt.locs, Pt.cells, Pt.slots] at h1 h2 h3 h4 h5 X hn hPc ⊢
  obtain ⟨m9, methY, cY, hn9, hmY, hcY, -, hlY, -⟩ := Cond.codeWith_spec h2
  cases Option.some.inj (hn9.symm.trans hn)
  obtain ⟨kY, hkY, -⟩ := className_of_methodNamed hn
  have hinitY : kY.init = .initialized := Cond.initialized_spec (findClass_of_methodNamed hn) hkY h3
  have h : At U g.method c below := by rw [hg]; exact X.here
  have hlocals9 : W9 + (maxL + 11) + (headSpec ws rm).room.locals ≤ R.locals := hlocals
  have happ : (headSpec ws rm).appliesLoose y e.platform (U.calling g mk a) = true :=
    Spec.appliesLoose_calling (g := g) h hdg hn hkY hinitY
      (X.room_calling (g := g) (R' := (headSpec ws rm).room) hsize hmY hcY hframes (by rw [hlY]; omega) h4 h5) h1
  obtain ⟨mid, hmid⟩ := h.above
  have hfr : (U.setTop g).frames = (.java g :: mid) ++ below := by rw [State.frames_setTop' g h.top, hmid]; rfl
  obtain ⟨o, s₂, hsteps, -, hend, hq⟩ := Steps.callFree hM p X.admits X.cas X.clock (acts := []) hfr happ hPc trivial
  have hq' : vx_Q Qc XC mc ms free a (U.calling g mk a) o s₂ := hq
  rw [State.frames_setTop' g h.top] at hend
  obtain ⟨g₀, hg0⟩ := Option.isSome_iff_exists.mp h.top
  obtain ⟨r, hr⟩ := State.topJava?_eq_some.mp hg0
  have hr' : (({ U with heap := s₂.heap, slotsUsed := s₂.slotsUsed } : State).setVm s₂.vm).frames = .java g₀ :: r := hr
  rcases hq' with ⟨hqc, L, hfe, hL⟩ | ⟨q, rfl, E, ce, L, hx, hce, hcv, hcl, hW₂, hsm, hL⟩
  · obtain ⟨⟨v, rfl⟩, hW₂, e2, q2, q3, q4, q5, q6⟩ := id hfe
    have e3 : s₂ = ({ (U.calling g mk a).setFrames s₂.frames with heap := s₂.heap, slotsUsed := s₂.slotsUsed } : State).setVm s₂.vm := by
      have : s₂ = ({ s₂ with vm := (U.calling g mk a).vm } : State).setVm s₂.vm := rfl
      rw [e2] at this
      exact this
    obtain ⟨c₂, i₂, len₂, hc₂, hd₂, hf₂⟩ := hend
    have hW' : U.WarmedH s₂.vm := hW₂
    have hcc : c₂ = c := by
      have h1 : s₂.code? g.method = U.code? g.method := by
        rw [State.code?_eq, State.code?_eq, hW'.alike.method?]
      exact Option.some.inj (hc₂.symm.trans (h1.trans h.code))
    subst hcc
    have hlen : len₂ = len := by rw [hdg] at hd₂; cases hd₂; rfl
    subst hlen
    have hs₂ : s₂ = (({ U with heap := s₂.heap, slotsUsed := s₂.slotsUsed } : State).setVm s₂.vm).setTop { g with pc := g.pc + len₂, stack := v.toList ++ g.stack } := by
      refine e3.trans ?_
      rw [hf₂, State.calling_eq h.top, State.setFrames_setFrames, State.setTop_of_frames _ hr', hr]
      rfl
    have hsame : U.sameButNew ({ U with heap := s₂.heap, slotsUsed := s₂.slotsUsed } : State) L mc ms := by
      refine ⟨?_, q2, q3, q4, q5, q6⟩
      obtain ⟨t, ht, -⟩ := State.frames_cons hr
      show ({ U with heap := s₂.heap, slotsUsed := s₂.slotsUsed } : State) = { U.setFrames U.frames with heap := s₂.heap, slotsUsed := s₂.slotsUsed }
      rw [State.setFrames_self ht]
    subst hg
    refine Or.inl ⟨v, ⟨(({ U with heap := s₂.heap, slotsUsed := s₂.slotsUsed } : State).setVm s₂.vm), Ls ++ L, c0 + mc, s0 + ms⟩,
      ⟨X.admits, X.cas, X.clock, X.frames, X.room, X.hears, X.method, X.code, (X.here.setHeapUsed s₂.heap s₂.slotsUsed).setVm hW'.alike, X.tail, State.WarmedH.trans X.warmed hW', X.limits, X.bytes, X.same.trans (hsame.setVm s.vm)⟩,
      ⟨g, mk, s₂, L, rfl, rfl, hqc, rfl, hL, rfl, rfl⟩, ?_⟩
    show Steps p.tables e below _ ((({ U with heap := s₂.heap, slotsUsed := s₂.slotsUsed } : State).setVm s₂.vm).setTop { g with pc := g.pc + len₂, stack := v.toList ++ g.stack })
    rw [← hs₂]
    exact hsteps
  · obtain ⟨e2, q2, q3, q4, q5, q6⟩ := id hsm
    have e3 : s₂ = ({ (U.calling g mk a).setFrames s₂.frames with heap := s₂.heap, slotsUsed := s₂.slotsUsed } : State).setVm s₂.vm := by
      have : s₂ = ({ s₂ with vm := (U.calling g mk a).vm } : State).setVm s₂.vm := rfl
      rw [e2] at this
      exact this
    have hf₂ : s₂.frames = .throwing q :: .java g :: U.frames.tail := hend
    have hW' : U.WarmedH s₂.vm := hW₂
    have hs₂ : s₂ = ((({ U with heap := s₂.heap, slotsUsed := s₂.slotsUsed } : State).setVm s₂.vm).setTop g).pushFrame (.throwing q) := by
      refine e3.trans ?_
      rw [hf₂, State.calling_eq h.top, State.setFrames_setFrames, State.pushFrame, State.frames_setTop _ hr', State.setTop_of_frames _ hr', State.setFrames_setFrames, hr]
      rfl
    have hsame : U.sameButNew ({ U with heap := s₂.heap, slotsUsed := s₂.slotsUsed } : State) L mc ms := by
      refine ⟨?_, q2, q3, q4, q5, q6⟩
      obtain ⟨t, ht, -⟩ := State.frames_cons hr
      show ({ U with heap := s₂.heap, slotsUsed := s₂.slotsUsed } : State) = { U.setFrames U.frames with heap := s₂.heap, slotsUsed := s₂.slotsUsed }
      rw [State.setFrames_self ht]
    subst hg
    refine Or.inr ⟨q, ⟨(({ U with heap := s₂.heap, slotsUsed := s₂.slotsUsed } : State).setVm s₂.vm), Ls ++ L, c0 + mc, s0 + ms⟩,
      ⟨X.admits, X.cas, X.clock, X.frames, X.room, X.hears, X.method, X.code, (X.here.setHeapUsed s₂.heap s₂.slotsUsed).setVm hW'.alike, X.tail, State.WarmedH.trans X.warmed hW', X.limits, X.bytes, X.same.trans (hsame.setVm s.vm)⟩,
      ⟨g, mk, s₂, L, E, ce, rfl, rfl, hx, hce, hcv, hcl, rfl, hL, rfl, rfl⟩, ?_⟩
    show Steps p.tables e below _ (((({ U with heap := s₂.heap, slotsUsed := s₂.slotsUsed } : State).setVm s₂.vm).setTop g).pushFrame (.throwing q))
    rw [← hs₂]
    exact hsteps
end
variable {p : Program} {l : Launch} {e : Env} {R : Room} {s : State} {m : MethodId} {args : Array Value} {below : List Frame} {meth : Method} {c : Code} {T : State} {H : Heap} {locs : List Loc} {cells slots : Nat}
theorem vx_callVX (X : Stand p l e R s m args below meth c T locs cells slots) (hexec : p.tables.exec = Jvm.exec) {own C : String} {index : Nat} {y : MethodName} {bytes : ByteArray} {maxL : Nat} {ret : Option FieldType} {hh : List (Nat × Nat × Nat × Nat)}
    (hown : s.vm.findClass own = some m.cls) (hlink : (Cond.methodLink own index y).before args s = true) (hinst : (Cond.instanceMethod y).before args s = true) (hsel : (Cond.selects C y y).before args s = true)
    (hcode : (Cond.codeWith y bytes maxL ret hh).before args s = true) (hy : y.cls ≠ "java/lang/invoke/MethodHandle" ∧ y.cls ≠ "java/lang/invoke/VarHandle")
    {W9 : Nat} {Pre : Pt → Array Value → Prop} {Post : Pt → Array Value → Option Value → Pt → Prop} {PostX : Pt → Array Value → Addr → Pt → Prop} (hK : vx_Back l R p e below s args y 3 W9 Pre Post PostX)
    {b : Addr} {cellB : Cell} (hcell : T.heap[b]? = some cellB) (hobj : cellB.vm.isStatics = false) (hcls : s.vm.findClass C = some cellB.cls)
    {g : JFrame} (hg : g.method = m) (hsize : g.locals.size = c.maxLocals) {argsL rest : List Value} (hlen : ∀ sig, parseMethodDescriptor y.desc = some sig → argsL.length = sig.parameters.length)
    (hstack : g.stack = argsL.reverse ++ .ref b :: rest) (hW : 2 * g.monitorRoom + (rest.map fun v => v.category).sum ≤ W9) (hdg : decode c.code g.pc = .ok (.invokevirtual index, 3))
    (hpre : ∀ vm₁, s.WarmedH vm₁ → Pre ⟨T.setVm vm₁, locs, cells, slots⟩ (Value.ref b :: argsL).toArray) :
    (∃ (v : Option Value) (vm₁ : Vm) (B : Pt), s.WarmedH vm₁ ∧ Stand p l e R s m args below meth c B.U B.locs B.cells B.slots ∧ Post ⟨T.setVm vm₁, locs, cells, slots⟩ (Value.ref b :: argsL).toArray v B ∧
      ∀ target, Steps p.tables e below (B.U.setTop { g with pc := g.pc + 3, stack := v.toList ++ rest }) target → Steps p.tables e below (T.setTop g) target) ∨
    (∃ (q : Addr) (vm₁ : Vm) (B : Pt), s.WarmedH vm₁ ∧ Stand p l e R s m args below meth c B.U B.locs B.cells B.slots ∧ PostX ⟨T.setVm vm₁, locs, cells, slots⟩ (Value.ref b :: argsL).toArray q B ∧
      Steps p.tables e below (T.setTop g) ((B.U.setTop { g with stack := rest }).pushFrame (.throwing q))) := by
  obtain ⟨mk, methM, hnamed, hmethM, hstM, habM⟩ := Cond.instanceMethod_spec hinst
  obtain ⟨m8, methM', cM, hn8, hmethM', -, -, -, -, -, -, hsigM⟩ := Cond.codeWith_spec hcode
  cases Option.some.inj (hn8.symm.trans hnamed)
  cases hmethM.symm.trans hmethM'
  obtain ⟨c2, r2, m2, q1, q2, q3, q4, kP, hkP, hkPi⟩ := Cond.selects_spec hsel
  cases hcls.symm.trans q1
  cases (State.methodFound?_of_named hnamed hy).symm.trans q2
  cases hnamed.symm.trans q3
  have hselP : selectMethod e.platform s.vm cellB.cls mk = .method mk := by rw [Launch.admits_selectMethod X.admits]; exact q4
  obtain ⟨vm₁, X₁, hstep₁⟩ := X.invokevirtual hexec hown hlink hnamed hmethM hstM hkP hkPi hy (a := b) (cell := cellB) hcell
    (fun z h => by rw [h] at hobj; cases hobj) hselP hmethM habM hkP hkPi (g := g) hg (argsL := argsL) (rest := rest) (hlen _ hsigM) hstack hdg
  rcases hK m meth c ⟨T.setVm vm₁, locs, cells, slots⟩ { g with stack := rest } (.invokevirtual index) mk (Value.ref b :: argsL).toArray X₁ hg hsize hdg hW (X₁.named hnamed) (hpre vm₁ X₁.warmed) with ⟨v, B, X', hpost, hsteps⟩ | ⟨q, B, X', hpost, hsteps⟩
  · exact Or.inl ⟨v, vm₁, B, X₁.warmed, X', hpost, fun target h => hstep₁ _ fun acts => by rw [doInvoke_state]; exact hsteps.trans h⟩
  · exact Or.inr ⟨q, vm₁, B, X₁.warmed, X', hpost, hstep₁ _ fun acts => by rw [doInvoke_state]; exact hsteps⟩
theorem vx_callSX (X : Stand p l e R s m args below meth c T locs cells slots) (hexec : p.tables.exec = Jvm.exec) {own : String} {index : Nat} {y : MethodName} {bytes : ByteArray} {maxL : Nat} {ret : Option FieldType} {hh : List (Nat × Nat × Nat × Nat)}
    (hown : s.vm.findClass own = some m.cls) (hlink : (Cond.methodLink own index y).before args s = true) (hstat : (Cond.static y).before args s = true) (hinit : (Cond.initialized y.cls).before args s = true)
    (hcode : (Cond.codeWith y bytes maxL ret hh).before args s = true) (hy : y.cls ≠ "java/lang/invoke/MethodHandle" ∧ y.cls ≠ "java/lang/invoke/VarHandle")
    {W9 : Nat} {Pre : Pt → Array Value → Prop} {Post : Pt → Array Value → Option Value → Pt → Prop} {PostX : Pt → Array Value → Addr → Pt → Prop} (hK : vx_Back l R p e below s args y 3 W9 Pre Post PostX)
    {g : JFrame} (hg : g.method = m) (hsize : g.locals.size = c.maxLocals) {argsL rest : List Value} (hlen : ∀ sig, parseMethodDescriptor y.desc = some sig → argsL.length = sig.parameters.length)
    (hstack : g.stack = argsL.reverse ++ rest) (hW : 2 * g.monitorRoom + (rest.map fun v => v.category).sum ≤ W9) (hdg : decode c.code g.pc = .ok (.invokestatic index, 3))
    (hpre : ∀ vm₁, s.WarmedH vm₁ → Pre ⟨T.setVm vm₁, locs, cells, slots⟩ argsL.toArray) :
    (∃ (v : Option Value) (vm₁ : Vm) (B : Pt), s.WarmedH vm₁ ∧ Stand p l e R s m args below meth c B.U B.locs B.cells B.slots ∧ Post ⟨T.setVm vm₁, locs, cells, slots⟩ argsL.toArray v B ∧
      ∀ target, Steps p.tables e below (B.U.setTop { g with pc := g.pc + 3, stack := v.toList ++ rest }) target → Steps p.tables e below (T.setTop g) target) ∨
    (∃ (q : Addr) (vm₁ : Vm) (B : Pt), s.WarmedH vm₁ ∧ Stand p l e R s m args below meth c B.U B.locs B.cells B.slots ∧ PostX ⟨T.setVm vm₁, locs, cells, slots⟩ argsL.toArray q B ∧
      Steps p.tables e below (T.setTop g) ((B.U.setTop { g with stack := rest }).pushFrame (.throwing q))) := by
  obtain ⟨mk, methM, cM, hnamed, hmethM, -, -, -, -, -, -, hsigM⟩ := Cond.codeWith_spec hcode
  have hstatic : methM.isStatic = true := Cond.static_spec hnamed hmethM hstat
  obtain ⟨kP, hkP, -⟩ := className_of_methodNamed hnamed
  have hinitP : kP.init = .initialized := Cond.initialized_spec (findClass_of_methodNamed hnamed) hkP hinit
  obtain ⟨vm₁, X₁, hstep₁⟩ := X.invokestatic hexec hown hlink hnamed hmethM hstatic hkP hinitP hy (g := g) hg (argsL := argsL) (rest := rest) (hlen _ hsigM) hstack hdg
  rcases hK m meth c ⟨T.setVm vm₁, locs, cells, slots⟩ { g with stack := rest } (.invokestatic index) mk argsL.toArray X₁ hg hsize hdg hW (X₁.named hnamed) (hpre vm₁ X₁.warmed) with ⟨v, B, X', hpost, hsteps⟩ | ⟨q, B, X', hpost, hsteps⟩
  · exact Or.inl ⟨v, vm₁, B, X₁.warmed, X', hpost, fun target h => hstep₁ _ fun acts => by rw [doInvoke_state]; exact hsteps.trans h⟩
  · exact Or.inr ⟨q, vm₁, B, X₁.warmed, X', hpost, hstep₁ _ fun acts => by rw [doInvoke_state]; exact hsteps⟩
theorem vx_callVW (X : Stand p l e R s m args below meth c T locs cells slots) (hexec : p.tables.exec = Jvm.exec) {own C : String} {index : Nat} {y : MethodName} {bytes : ByteArray} {maxL : Nat} {ret : Option FieldType} {hh : List (Nat × Nat × Nat × Nat)}
    (hown : s.vm.findClass own = some m.cls) (hlink : (Cond.methodLink own index y).before args s = true) (hinst : (Cond.instanceMethod y).before args s = true) (hsel : (Cond.selects C y y).before args s = true)
    (hcode : (Cond.codeWith y bytes maxL ret hh).before args s = true) (hy : y.cls ≠ "java/lang/invoke/MethodHandle" ∧ y.cls ≠ "java/lang/invoke/VarHandle")
    {W9 : Nat} {Pre : Pt → Array Value → Prop} {Post : Pt → Array Value → Option Value → Pt → Prop} (hK : Back l R p e below s args y 3 W9 Pre Post)
    {b : Addr} {cellB : Cell} (hcell : T.heap[b]? = some cellB) (hobj : cellB.vm.isStatics = false) (hcls : s.vm.findClass C = some cellB.cls)
    {g : JFrame} (hg : g.method = m) (hsize : g.locals.size = c.maxLocals) {argsL rest : List Value} (hlen : ∀ sig, parseMethodDescriptor y.desc = some sig → argsL.length = sig.parameters.length)
    (hstack : g.stack = argsL.reverse ++ .ref b :: rest) (hW : 2 * g.monitorRoom + (rest.map fun v => v.category).sum ≤ W9) (hdg : decode c.code g.pc = .ok (.invokevirtual index, 3))
    (hpre : ∀ vm₁, s.WarmedH vm₁ → Pre ⟨T.setVm vm₁, locs, cells, slots⟩ (Value.ref b :: argsL).toArray) :
    ∃ (v : Option Value) (vm₁ : Vm) (B : Pt), s.WarmedH vm₁ ∧ Stand p l e R s m args below meth c B.U B.locs B.cells B.slots ∧ Post ⟨T.setVm vm₁, locs, cells, slots⟩ (Value.ref b :: argsL).toArray v B ∧
      ∀ target, Steps p.tables e below (B.U.setTop { g with pc := g.pc + 3, stack := v.toList ++ rest }) target → Steps p.tables e below (T.setTop g) target := by
  obtain ⟨mk, methM, hnamed, hmethM, hstM, habM⟩ := Cond.instanceMethod_spec hinst
  obtain ⟨m8, methM', cM, hn8, hmethM', -, -, -, -, -, -, hsigM⟩ := Cond.codeWith_spec hcode
  cases Option.some.inj (hn8.symm.trans hnamed)
  cases hmethM.symm.trans hmethM'
  obtain ⟨c2, r2, m2, q1, q2, q3, q4, kP, hkP, hkPi⟩ := Cond.selects_spec hsel
  cases hcls.symm.trans q1
  cases (State.methodFound?_of_named hnamed hy).symm.trans q2
  cases hnamed.symm.trans q3
  have hselP : selectMethod e.platform s.vm cellB.cls mk = .method mk := by rw [Launch.admits_selectMethod X.admits]; exact q4
  obtain ⟨vm₁, X₁, hstep₁⟩ := X.invokevirtual hexec hown hlink hnamed hmethM hstM hkP hkPi hy (a := b) (cell := cellB) hcell
    (fun z h => by rw [h] at hobj; cases hobj) hselP hmethM habM hkP hkPi (g := g) hg (argsL := argsL) (rest := rest) (hlen _ hsigM) hstack hdg
  obtain ⟨v, B, X', hpost, hsteps⟩ := hK m meth c ⟨T.setVm vm₁, locs, cells, slots⟩ { g with stack := rest } (.invokevirtual index) mk (Value.ref b :: argsL).toArray X₁ hg hsize hdg hW (X₁.named hnamed) (hpre vm₁ X₁.warmed)
  exact ⟨v, vm₁, B, X₁.warmed, X', hpost, fun target h => hstep₁ _ fun acts => by rw [doInvoke_state]; exact hsteps.trans h⟩
abbrev vx_CVW (R : Room) (s : State) (args : Array Value) (own C : String) (index : Nat) (y : MethodName) (bytes : ByteArray) (maxL : Nat) (ret : Option FieldType) (hh : List (Nat × Nat × Nat × Nat)) (ws : List Cond) (rm : Room) (mc ms n : Nat) : Prop :=
  (rm.cells = mc ∧ rm.slots = ms ∧ rm.frames + 1 ≤ R.frames ∧ 8 + (maxL + 11) + rm.locals ≤ R.locals ∧ (∀ w ∈ ws, ∀ (a' : Array Value) (U : State), s.WarmedH U.vm → w.before a' U = true) ∧ Cond.codeWith y bytes maxL ret hh ∈ ws) ∧
  (Cond.codeWith y bytes maxL ret hh).before args s = true ∧ (Cond.initialized y.cls).before args s = true ∧ (y.cls ≠ "java/lang/invoke/MethodHandle" ∧ y.cls ≠ "java/lang/invoke/VarHandle") ∧
  (∀ sig, parseMethodDescriptor y.desc = some sig → n = sig.parameters.length) ∧ (Cond.methodLink own index y).before args s = true ∧ (Cond.instanceMethod y).before args s = true ∧ (Cond.selects C y y).before args s = true
theorem vx_cwVW {own C : String} {index maxL mc ms : Nat} {y : MethodName} {bytes : ByteArray} {ret : Option FieldType} {hh : List (Nat × Nat × Nat × Nat)} {Ts ws ws' : List Cond} {rm : Room} (n : Nat) (ht : ∀ w ∈ Ts, w.before args s = true) (hT : GoodIn Ts (wsV own index C y ws)) (hw : ws = Cond.codeWith y bytes maxL ret hh :: ws') (hrc : rm.cells = mc) (hrs : rm.slots = ms)
    (hd : y.cls = C ∧ y.cls ≠ "java/lang/invoke/MethodHandle" ∧ y.cls ≠ "java/lang/invoke/VarHandle" ∧ (parseMethodDescriptor y.desc).map (fun d => d.parameters.length) = some n) (hR : rm.frames + 1 ≤ R.frames ∧ 8 + (maxL + 11) + rm.locals ≤ R.locals) :
    vx_CVW R s args own C index y bytes maxL ret hh ws rm mc ms n := by
  obtain ⟨hC, hd⟩ := hd
  subst hC
  have ok : ∀ w ∈ wsV own index y.cls y ws, w.before args s = true := fun w h => ht w (hT w h).1
  have hG : GoodIn Ts ws := fun w h => hT w (by unfold wsV; exact List.mem_append_right _ h)
  have hc : Cond.codeWith y bytes maxL ret hh ∈ ws := by rw [hw]; exact List.mem_cons_self
  refine ⟨⟨hrc, hrs, hR.1, hR.2, pay_in ht hG, hc⟩, ht _ (hG _ hc).1, ok _ (by simp [wsV]), ⟨hd.1, hd.2.1⟩, fun sig h => ?_, ok _ (by simp [wsV]), ok _ (by simp [wsV]), ok _ (by simp [wsV])⟩
  have h2 := hd.2.2
  rw [h] at h2
  exact (Option.some.inj h2).symm
theorem vx_runVW {y : MethodName} {bytes cc : ByteArray} {maxL nL mc ms n index : Nat} {ret : Option FieldType} {hh : List (Nat × Nat × Nat × Nat)} {ws : List Cond} {rm : Room} {Pc : Array Value → State → Prop} {Qc : Array Value → State → Outcome → State → Prop} {free : Addr → Prop} {Ts : List Cond} {own C : String} {b : Addr} {As rest : List Value} {g : JFrame}
    (S : CallFix p m c cc nL s args Ts own) (hM : Met l y ws rm Pc Qc mc ms free) (cw : vx_CVW R s args own C index y bytes maxL ret hh ws rm mc ms n) (hp : PreV s H C b Pc As)
    (hg : g.method = m) (hn : As.length = n) (hsize : g.locals.size = nL) (hstack : g.stack = As.reverse ++ .ref b :: rest) (hW : 2 * g.monitorRoom + (rest.map fun v => v.category).sum ≤ 8) (hdg : decode cc g.pc = .ok (.invokevirtual index, 3)) (hf : cells + mc ≤ R.cells ∧ slots + ms ≤ R.slots) :
    va_Run p l e R s m args below meth c H locs cells slots mc ms g rest (Qc (Value.ref b :: As).toArray) free := by
  obtain ⟨⟨hrc, hrs, hfr, hlo, hws, hcw⟩, hcode, hini, hy, hlen, hl, hin, hse⟩ := cw
  have hK : Back l R p e below s args y 3 8 (PreOf R mc ms Pc) (PostOf Qc mc ms free) := va_backW (hh := hh) (bytes := bytes) (maxL := maxL) (ret := ret) hM hp.1 hrc hrs hfr hlo hws hcw (fun a' U hW => word_at hW (Or.inl (by first | rfl | simp [Cond.onTables, Cond.keeps, Cond.steady])) hini)
  obtain ⟨hx, hb, hml, ho, -⟩ := S
  obtain ⟨-, ⟨cellB, hcB, hoB, hclB⟩, hPc⟩ := hp
  intro T hT X
  obtain ⟨v, vm₁, ⟨U', l2, c2, s2⟩, hW₁, X', ⟨g', mk, t, L, e1, e2, hq, h1, hL, h2, h3⟩, st⟩ := vx_callVW X hx (C := C) (hh := hh) (bytes := bytes) (maxL := maxL) (ret := ret) ho hl hin hse hcode hy hK (by rw [hT]; exact hcB) hoB hclB hg (hsize.trans hml.symm) (argsL := As) (rest := rest) (fun sig h => hn.trans (hlen sig h)) hstack hW (by rw [hb]; exact hdg)
    (fun vm₁ hW₁ => ⟨hf.1, hf.2, hPc (T.setVm vm₁) hT hW₁⟩)
  dsimp only [Pt.U, Pt.locs, Pt.cells, Pt.slots] at X' e1 e2 h1 h2 h3 st
  subst h1; subst h2; subst h3
  exact ⟨v, (T.setVm vm₁).calling g' mk (Value.ref b :: As).toArray, t, U', L, hT, X', hL, e1, e2, hq, st⟩
section
variable {y : MethodName} {bytes cc : ByteArray} {maxL nL mc ms n index : Nat} {ret : Option FieldType} {ws : List Cond} {rm : Room} {Pc : Array Value → State → Prop} {Qc : Array Value → State → Outcome → State → Prop} {XC : String → State → State → Prop} {free : Addr → Prop} {Ts : List Cond} {own C : String} {b : Addr} {As rest : List Value} {g : JFrame}
theorem vx_runVX {hh : List (Nat × Nat × Nat × Nat)} (S : CallFix p m c cc nL s args Ts own) (hM : vx_Met l y ws rm Pc Qc XC mc ms free) (cw : vx_CVW R s args own C index y bytes maxL ret hh ws rm mc ms n) (hp : PreV s H C b Pc As)
    (hg : g.method = m) (hn : As.length = n) (hsize : g.locals.size = nL) (hstack : g.stack = As.reverse ++ .ref b :: rest) (hW : 2 * g.monitorRoom + (rest.map fun v => v.category).sum ≤ 8) (hdg : decode cc g.pc = .ok (.invokevirtual index, 3)) (hf : cells + mc ≤ R.cells ∧ slots + ms ≤ R.slots) :
    vx_Run p l e R s m args below meth c H locs cells slots mc ms g rest (Qc (Value.ref b :: As).toArray) XC free := by
  obtain ⟨⟨hrc, hrs, hfr, hlo, hws, hcw⟩, hcode, hini, hy, hlen, hl, hin, hse⟩ := cw
  have hK : vx_Back l R p e below s args y 3 8 (PreOf R mc ms Pc) (PostOf Qc mc ms free) (vx_Post XC mc ms free) := vx_backW (hh := hh) (bytes := bytes) (maxL := maxL) (ret := ret) hM hp.1 hrc hrs hfr hlo hws hcw (fun a' U hW => word_at hW (Or.inl (by first | rfl | simp [Cond.onTables, Cond.keeps, Cond.steady])) hini)
  obtain ⟨hx, hb, hml, ho, -⟩ := S
  obtain ⟨-, ⟨cellB, hcB, hoB, hclB⟩, hPc⟩ := hp
  intro T hT X
  rcases vx_callVX X hx (C := C) (hh := hh) (bytes := bytes) (maxL := maxL) (ret := ret) ho hl hin hse hcode hy hK (by rw [hT]; exact hcB) hoB hclB hg (hsize.trans hml.symm) (argsL := As) (rest := rest) (fun sig h => hn.trans (hlen sig h)) hstack hW (by rw [hb]; exact hdg)
    (fun vm₁ hW₁ => ⟨hf.1, hf.2, hPc (T.setVm vm₁) hT hW₁⟩) with ⟨v, vm₁, ⟨U', l2, c2, s2⟩, hW₁, X', ⟨g', mk, t, L, e1, e2, hq, h1, hL, h2, h3⟩, st⟩ | ⟨q, vm₁, ⟨U', l2, c2, s2⟩, hW₁, X', ⟨g', mk, t, L, E, ce, e1, e2, hq, hce, hcv, hcl, h1, hL, h2, h3⟩, st⟩
  · dsimp only [Pt.U, Pt.locs, Pt.cells, Pt.slots] at X' e1 e2 h1 h2 h3 st
    subst h1; subst h2; subst h3
    exact Or.inl ⟨v, (T.setVm vm₁).calling g' mk (Value.ref b :: As).toArray, t, U', L, hT, X', hL, e1, e2, hq, st⟩
  · dsimp only [Pt.U, Pt.locs, Pt.cells, Pt.slots] at X' e1 e2 h1 h2 h3 st hcl
    subst h1; subst h2; subst h3
    exact Or.inr ⟨q, (T.setVm vm₁).calling g' mk (Value.ref b :: As).toArray, t, U', L, E, ce, hT, X', hL, e1, e2, hq, hce, hcv, vx_cls hW₁ hcl, st⟩
theorem vx_runSX {hh : List (Nat × Nat × Nat × Nat)} (S : CallFix p m c cc nL s args Ts own) (hM : vx_Met l y ws rm Pc Qc XC mc ms free) (cw : vx_CSW R s args own index y bytes maxL ret hh ws rm mc ms n) (hp : PreS s H Pc As)
    (hg : g.method = m) (hn : As.length = n) (hsize : g.locals.size = nL) (hstack : g.stack = As.reverse ++ rest) (hW : 2 * g.monitorRoom + (rest.map fun v => v.category).sum ≤ 8) (hdg : decode cc g.pc = .ok (.invokestatic index, 3)) (hf : cells + mc ≤ R.cells ∧ slots + ms ≤ R.slots) :
    vx_Run p l e R s m args below meth c H locs cells slots mc ms g rest (Qc As.toArray) XC free := by
  obtain ⟨⟨hrc, hrs, hfr, hlo, hws, hcw⟩, hcode, hini, hy, hlen, hl, hstt⟩ := cw
  have hK : vx_Back l R p e below s args y 3 8 (PreOf R mc ms Pc) (PostOf Qc mc ms free) (vx_Post XC mc ms free) := vx_backW (hh := hh) (bytes := bytes) (maxL := maxL) (ret := ret) hM hp.1 hrc hrs hfr hlo hws hcw (fun a' U hW => word_at hW (Or.inl (by first | rfl | simp [Cond.onTables, Cond.keeps, Cond.steady])) hini)
  obtain ⟨hx, hb, hml, ho, -⟩ := S
  intro T hT X
  rcases vx_callSX X hx (hh := hh) (bytes := bytes) (maxL := maxL) (ret := ret) ho hl hstt hini hcode hy hK hg (hsize.trans hml.symm) (argsL := As) (rest := rest) (fun sig h => hn.trans (hlen sig h)) hstack hW (by rw [hb]; exact hdg)
    (fun vm₁ hW₁ => ⟨hf.1, hf.2, hp.2 (T.setVm vm₁) hT hW₁⟩) with ⟨v, vm₁, ⟨U', l2, c2, s2⟩, hW₁, X', ⟨g', mk, t, L, e1, e2, hq, h1, hL, h2, h3⟩, st⟩ | ⟨q, vm₁, ⟨U', l2, c2, s2⟩, hW₁, X', ⟨g', mk, t, L, E, ce, e1, e2, hq, hce, hcv, hcl, h1, hL, h2, h3⟩, st⟩
  · dsimp only [Pt.U, Pt.locs, Pt.cells, Pt.slots] at X' e1 e2 h1 h2 h3 st
    subst h1; subst h2; subst h3
    exact Or.inl ⟨v, (T.setVm vm₁).calling g' mk As.toArray, t, U', L, hT, X', hL, e1, e2, hq, st⟩
  · dsimp only [Pt.U, Pt.locs, Pt.cells, Pt.slots] at X' e1 e2 h1 h2 h3 st hcl
    subst h1; subst h2; subst h3
    exact Or.inr ⟨q, (T.setVm vm₁).calling g' mk As.toArray, t, U', L, E, ce, hT, X', hL, e1, e2, hq, hce, hcv, vx_cls hW₁ hcl, st⟩
end
end VXH
theorem vx_ofWH {l : Launch} {y : MethodName} {ws ws' : List Cond} {rm : Room} {Pc : Array Value → State → Prop} {Qc : Array Value → State → Outcome → State → Prop} {XC : String → State → State → Prop} {mc ms : Nat} {free : Addr → Prop} {cc : ByteArray} {maxL : Nat} {ret : Option FieldType} {hh : List (Nat × Nat × Nat × Nat)}
    (hy : plainName y.cls = true) (hw : ws = Cond.codeWith y cc maxL ret hh :: ws')
    (body : ∀ p e s m args below meth c s₁, BodyLoose p l y (headSpec ws rm) cc maxL ret e s m args below meth c s₁ → c.maxLocals = maxL → Pc args s →
      W p l e (headSpec ws rm).room s m args below meth c s.heap [] 0 0 (vx_MQ below Qc XC args s mc ms free) (entryFrame m args maxL)) : vx_Met l y ws rm Pc Qc XC mc ms free := by
  refine MetFree.of_bodyS (code := cc) (maxLocals := maxL) (ret := ret) hy ?_ ?_
  · intro args s m h hn
    obtain ⟨m9, meth, c, hn9, h1, h2, h3, h4, -, h5, h6, -⟩ := Cond.codeWith_spec (atoms_spec (ws := ws) h _ (by rw [hw]; exact List.mem_cons_self))
    cases hn.symm.trans hn9
    exact ⟨meth, c, h1, h2, h3, h4, h5, h6⟩
  · intro p e s m args below meth c s₁ B hml hP _
    have hh0 : s₁.heap = s.heap := by rw [B.state]; rfl
    obtain ⟨t, a1, o, b1, b2, b3⟩ := body p e s m args below meth c s₁ B hml hP s₁ hh0 (Stand.of_body B)
    exact ⟨t, o, a1, b1, b2, b3⟩
/-! ===== END ===== -/

/-! ===== BEGIN what the machine throws by itself, no traces kept ===== -/
section VXM
set_option maxHeartbeats 1000000 in
/-- the machine throws cls with the message text, no traces kept: from its note over the frame g to 'throwing' over the same frame (follows the proofs of Stand.vmThrowsMessage, Shelf/KitTracedVmS.lean, and Stand.throwsMessageColdBareV, StandMessageColdV.lean, without the step out of the frame) -/
theorem vx_vmAt {p : Program} {l : Launch} {e : Env} {R : Room} {s : State} {m₀ : MethodId} {args : Array Value} {below : List Frame} {meth : Method} {c : Code} {W : State} {locs : List Loc} {cells slots : Nat}
    (X : Stand p l e R s m₀ args below meth c W locs cells slots) (hexec : p.tables.exec = Jvm.exec) (htr : e.platform.stackTraces = false) {cls : String} {names : List String} {text : String}
    (hcls : Bundle.fit cls = true) (hnames : ∀ n ∈ names, Bundle.fit n = true) (hsoe : (cls == "java/lang/StackOverflowError") = false) (hoom : (cls == "java/lang/OutOfMemoryError") = false)
    (h : ∀ a ∈ Bundle.messageArmAtoms cls names, a.before args s = true)
    (hlocs : ∀ x ∈ locs, ∀ cell, s.heap[x.base]? = some cell → cell.vm.isStatics = false)
    (htext : (text == notModelled) = false) (hlimit : ¬ (stringBytes (stringToUtf16 text)).size > e.platform.arrayLengthLimit) (hheap : ¬ (stringBytes (stringToUtf16 text)).size * componentBytes .byte > e.platform.maxHeapBytes)
    {g : JFrame} (hg : g.method = m₀) (hsize : g.locals.size = c.maxLocals)
    (hRframes : names.length + 4 < R.frames) (hRlocals : 2 * g.monitorRoom + (g.stack.map fun v => v.category).sum + 10240 ≤ R.locals) (hshort : 13 * names.length + 55 ≤ 10240)
    (hRcells : cells + 3 ≤ R.cells) (hRslots : slots + ((stringBytes (stringToUtf16 text)).size + 4 + 6) ≤ R.slots) (hlocks : meth.locks = false) :
    ∃ (S : State) (q : Addr) (ce : Cell), (∀ target, Steps p.tables e below ((S.setTop g).pushFrame (.throwing q)) target → Steps p.tables e below ((W.setTop g).pushFrame (.throwNew cls (some text) none)) target) ∧
      Stand p l e R s m₀ args below meth c S locs (cells + 3) (slots + ((stringBytes (stringToUtf16 text)).size + 4 + 6)) ∧ S.heap[q]? = some ce ∧ s.vm.findClass cls = some ce.cls ∧ ce.vm = .none := by
  have howns : e.platform.frameOwnsMonitors = true := by rw [X.admits.platform]
  have hfin : e.platform.finalization = false := by rw [X.admits.platform]
  have hpl : e.platform.magicAccessors = ({} : Platform).magicAccessors := by rw [X.admits.platform]
  have a : ∀ x, x ∈ Bundle.messageArmAtoms cls names → x.holds args s none s [] = true := fun x hx => h x hx
  obtain ⟨T, Z0, L, -, Y⟩ := ThrowableC.of_atoms (args := args) howns hfin hpl (fun x hx => h x (by simp [Bundle.messageArmAtoms, hx]))
  obtain ⟨Z, M, LZ, LM, hnZ⟩ := Init0T.ofS_atoms (args := args) hpl L Y (fun x hx => h x (by simp [Bundle.messageArmAtoms, hx]))
  obtain ⟨P1, Ps, hlen, L1, hL, hP1m, hlink1, hlink⟩ := Bundle.chainS (args := args) hpl hnZ names cls hcls hnames (fun x hx => h x (by simp [Bundle.messageArmAtoms, hx]))
  obtain ⟨Zs, LZs, hn4, hfitv, hfitc⟩ := StringT.of_atoms (args := args) (fun x hx => h x (by simp [Bundle.messageArmAtoms, hx]))
  have hfound : s.vm.findClass cls = some P1.m.cls := findClass_of_methodNamed hP1m
  obtain ⟨c1, kX, hc1, hk, hord, -, -, hn6⟩ := Cond.instantiable_spec (a (.instantiable cls 6) (by simp [Bundle.messageArmAtoms]))
  cases Option.some.inj (hc1.symm.trans hfound)
  have hinit := Cond.initialized_spec hfound hk (a (.initialized cls) (by simp [Bundle.messageArmAtoms]))
  have hctor : kX.findMethod "<init>" "(Ljava/lang/String;)V" = some P1.m.idx := findMethod_of_methodNamed hP1m hk
  have hsel0 : selectMethod e.platform s.vm P1.m.cls T.fill0 = .method T.fill0 := by
    obtain ⟨c2, r2, m2, q1, q2, q3, q4, -⟩ := Cond.selects_spec (a (.selects cls Bundle.tFill0 Bundle.tFill0) (by simp [Bundle.messageArmAtoms]))
    cases Option.some.inj (q1.symm.trans hfound)
    cases Option.some.inj (q2.symm.trans (State.methodFound?_of_named Y.fill0 (by decide)))
    cases Option.some.inj (q3.symm.trans Y.fill0)
    rw [Launch.admits_selectMethod X.admits]; exact q4
  have hselF : selectMethod e.platform s.vm P1.m.cls T.fill = .method T.fill := by
    obtain ⟨c2, r2, m2, q1, q2, q3, q4, -⟩ := Cond.selects_spec (a (.selects cls Bundle.tFill Bundle.tFill) (by simp [Bundle.messageArmAtoms]))
    cases Option.some.inj (q1.symm.trans hfound)
    cases Option.some.inj (q2.symm.trans (State.methodFound?_of_named Y.fill (by decide)))
    cases Option.some.inj (q3.symm.trans Y.fill)
    rw [Launch.admits_selectMethod X.admits]; exact q4
  obtain ⟨cellS0, hcS0, hiss⟩ := Y.statics
  obtain ⟨u0, hu0⟩ := Cond.staticRefV Y.unassigned L.unassignedStatic L.statics hcS0 hiss (a (.isRef (.static Bundle.tN "UNASSIGNED_STACK" Bundle.steD)) (by simp [Bundle.messageArmAtoms]))
  obtain ⟨sen, hsen⟩ := Cond.staticRefV Y.sentinel L.sentinelStatic L.statics hcS0 hiss (a (.isRef (.static Bundle.tN "SUPPRESSED_SENTINEL" Bundle.listD)) (by simp [Bundle.messageArmAtoms]))
  obtain ⟨ci198, i198, fB, hk198, hg198, ha198, hsB, -, hnB, htB, hffB⟩ := Cond.ownField (t := .object "java/lang/Object") Y.found L.cls (by decide +kernel) (a (.fieldLink Bundle.tN 198 Bundle.tN "backtrace" "Ljava/lang/Object;") (by simp [Bundle.messageArmAtoms])) (a (.lays Bundle.tN Bundle.tN "backtrace" "Ljava/lang/Object;") (by simp [Bundle.messageArmAtoms])) e.platform hpl
  obtain ⟨cellS, hcS', heS, -, hkeep⟩ := X.same.2.2.2.2.2 T.aS cellS0 hcS0
  have hcellS : W.heap[T.aS]? = some cellS := hcS'
  have hout' : ∀ i, (⟨T.aS, i⟩ : Loc) ∉ locs := fun i hmem => by
    have := hlocs _ hmem cellS0 hcS0
    rw [hiss] at this; cases this
  have hknownS : cellS.vm ≠ .unknown := by
    rw [heS]; intro hu
    rw [show cellS0.vm = .unknown from hu] at hiss
    cases hiss
  have hvU : cellS.slots[T.fUnassigned.slot]? = some u0.v := by rw [hkeep _ (hout' _)]; exact hu0
  have hvSen : cellS.slots[T.fSentinel.slot]? = some sen.v := by rw [hkeep _ (hout' _)]; exact hsen
  obtain ⟨iM, hffM⟩ := Y.msg
  obtain ⟨tyC, dC, hdC, hdnC⟩ := Cond.laysAt hfound hk Y.cause (a (.lays cls Bundle.tN "cause" "Ljava/lang/Throwable;") (by simp [Bundle.messageArmAtoms]))
  obtain ⟨tyS, dS, hdS, hdnS⟩ := Cond.laysAt hfound hk Y.stack (a (.lays cls Bundle.tN "stackTrace" Bundle.steD) (by simp [Bundle.messageArmAtoms]))
  obtain ⟨tyP, dP, hdP, hdnP⟩ := Cond.laysAt hfound hk Y.supp (a (.lays cls Bundle.tN "suppressedExceptions" Bundle.listD) (by simp [Bundle.messageArmAtoms]))
  obtain ⟨tyM, dM, hdM, hdnM⟩ := Cond.laysAt hfound hk hffM (a (.lays cls Bundle.tN "detailMessage" "Ljava/lang/String;") (by simp [Bundle.messageArmAtoms]))
  obtain ⟨tyB, dB, hdB, hdnB⟩ := Cond.laysAt hfound hk hffB (a (.lays cls Bundle.tN "backtrace" "Ljava/lang/Object;") (by simp [Bundle.messageArmAtoms]))
  have bC := Cond.laysApart hdB hdC hdnB hdnC (by rw [hnB, Y.causeName]; decide)
  have bS := Cond.laysApart hdB hdS hdnB hdnS (by rw [hnB, Y.stackName]; decide)
  have bP := Cond.laysApart hdB hdP hdnB hdnP (by rw [hnB, Y.suppName]; decide)
  have hbk : ((preparedCellV T.toThrowableT (freshCell P1.m.cls kX) (W.heap.size + 2) u0 sen).withEntry W.cur).slots[fB.slot]? = some .null := by
    have := fresh_default (c := P1.m.cls) tyB
    rw [htB] at this
    simpa [preparedCellV, Cell.setSlot, Cell.withEntry, Array.getElem?_setIfInBounds, bC, bS, bP, bC.symm, bS.symm, bP.symm, defaultValue] using this
  have tkC := Takes.of_laid (v := .ref (W.heap.size + 2)) hk hord tyC (by rw [Y.causeType]; rfl)
  have tkS := Takes.of_laid (v := u0.v) hk hord tyS (by rw [Y.stackType]; exact fits_refV_array _ u0)
  have tkP := Takes.of_laid (v := sen.v) hk hord tyP (by rw [Y.suppType]; exact fits_refV_object _ sen)
  have tkM := Takes.of_laid (v := .ref (W.heap.size + 1)) hk hord tyM (by rw [Y.msgType]; rfl)
  have hskip : SkipFacts T e.platform s (fun u => u) u0 ((preparedCellV T.toThrowableT (freshCell P1.m.cls kX) (W.heap.size + 2) u0 sen).withEntry W.cur) := ⟨{ ci198 := ci198, i198 := i198, fBack := fB }, ⟨hk198, hg198, ha198, hsB⟩, hbk, fun _ _ => rfl⟩
  have h0 : At W g.method c below := by rw [hg]; exact X.here
  obtain ⟨hbeyond, hfreeW⟩ := X.vmMayThrow hsize (.throwNew cls (some text) none) (fun f hf => by cases hf) rfl hRlocals
  have hfr' : W.frames.length + Ps.length + 4 < (e.platform.stackLimits W.me).1 := by have := X.framesAbove hRframes; omega
  have hwd' : (stackUse (.java g :: W.frames.tail)).2 + 13 * Ps.length + 55 ≤ (e.platform.stackLimits W.me).2 := by have := X.stackAbove hsize (K := 13 * Ps.length + 55) (by omega); omega
  have hslots : W.slotsUsed + (stringBytes (stringToUtf16 text)).size + Zs.kS.instanceTypes.size + kX.instanceTypes.size ≤ e.platform.maxSlots := by
    have := X.slotsAbove hRslots
    rw [hn4, hn6]
    omega
  obtain ⟨vm', hW', st⟩ := Steps.vmThrowsMessageColdByV p (s₀ := s) (S := W) (g := g) h0 hexec T L Z LZ M LM X.warmed (t := W.cur) rfl Zs LZs P1 L1 Ps hL hlink1 hlink hsoe hoom hfound hk hinit hord hctor
    (Launch.admits_hotImplicitExceptions X.admits) hbeyond hfreeW htext hlimit hheap (X.cellsAbove hRcells) hslots (hfitv _) (hfitc _)
    (Nn := fun u => u) heapOnly_id (fun _ _ => rfl) (fun _ => rfl) (fun u x y => setCell_twice _ _ _ _) (fun _ => Nat.le_refl _) (cN := ((preparedCellV T.toThrowableT (freshCell P1.m.cls kX) (W.heap.size + 2) u0 sen).withEntry W.cur))
    hsel0 hcellS hknownS hvU tkS (fun _ hu => hu) (fun _ hu => hu) rfl rfl rfl (by simp [preparedCellV, Cell.setSlot, Cell.withEntry]) hskip (fun _ _ hA hW _ hroom _ hrest => L.nativeOff p htr hA hW hroom hrest) hselF hvSen tkC tkP tkM Y.objLocals rfl hfr' hwd'
  rw [plainBareV_eq T.toThrowableT (W.heap.size + 2) u0 sen (.ref (W.heap.size + 1)) W.cur rfl rfl] at st
  obtain ⟨-, -, w3, w4, -, -, -⟩ := withThrown_facts e.platform W Zs text P1.m.cls kX
  have X3 := ((X.pushed (bytesOf Zs.cB (stringToUtf16 text))).pushed (stringAt Zs.cS Zs.kS Zs.fv Zs.fc (stringToUtf16 text) W.heap.size)).pushed (freshCell P1.m.cls kX)
  rw [← withString_eq] at X3
  have X4 := X3.noted hW'
  have ha : (W.heap.size + 2) < ((withThrown W Zs text P1.m.cls kX).setVm vm').heap.size := by show _ < (withThrown W Zs text P1.m.cls kX).heap.size; rw [w3]; omega
  have hcell : ((withThrown W Zs text P1.m.cls kX).setVm vm').heap[(W.heap.size + 2)]? = some (freshCell P1.m.cls kX) := w4
  have X5 := ((((X4.stored hcell T.fCause.slot (.ref (W.heap.size + 2))).storedAgain ha T.fStack.slot u0.v).storedAgain ha T.fSupp.slot sen.v).storedAgain ha T.fStack.slot u0.v).storedAgain ha T.fMsg.slot (.ref (W.heap.size + 1))
  obtain ⟨g₁, hfrM⟩ := X5.frames_eq
  have hU : ((((withThrown W Zs text P1.m.cls kX).setVm vm').setCell (W.heap.size + 2) (plainBareV T.toThrowableT (freshCell P1.m.cls kX) (W.heap.size + 2) u0 sen (.ref (W.heap.size + 1)))).setTop g).pushFrame (.throwing (W.heap.size + 2)) = (((withThrown W Zs text P1.m.cls kX).setVm vm').setCell (W.heap.size + 2) (plainBareV T.toThrowableT (freshCell P1.m.cls kX) (W.heap.size + 2) u0 sen (.ref (W.heap.size + 1)))).setFrames (.throwing (W.heap.size + 2) :: .java g :: below) := by
    rw [State.pushFrame, State.frames_setTop _ hfrM, State.setTop_of_frames _ hfrM, State.setFrames_setFrames]
  have b1 : (bytesOf Zs.cB (stringToUtf16 text)).slots.size = (stringBytes (stringToUtf16 text)).size := by
    rw [(Cell.writeAll_facts _ _).2.2]; simp [bytes0]
  have b2 : (stringAt Zs.cS Zs.kS Zs.fv Zs.fc (stringToUtf16 text) W.heap.size).slots.size = 4 := by simp [string0, Cell.setSlot, hn4]
  have b3 : (freshCell P1.m.cls kX).slots.size = 6 := by simp [hn6]
  rw [b1, b2, b3] at X5
  have e9 : slots + (stringBytes (stringToUtf16 text)).size + 4 + 6 = slots + ((stringBytes (stringToUtf16 text)).size + 4 + 6) := by omega
  rw [e9] at X5
  simp only [List.append_assoc, List.cons_append, List.nil_append] at X5
  refine ⟨((withThrown W Zs text P1.m.cls kX).setVm vm').setCell (W.heap.size + 2) (plainBareV T.toThrowableT (freshCell P1.m.cls kX) (W.heap.size + 2) u0 sen (.ref (W.heap.size + 1))), W.heap.size + 2, _, fun target ht => st _ (by rw [X.tail, ← hU]; exact ht),
    X5.forget (fun y hy => ?_), heapAt_setCell_self _ ha, hfound, rfl⟩
  simp only [List.mem_cons, List.not_mem_nil, or_false] at hy
  have hge : s.heap.size ≤ W.heap.size := X.same.2.1
  rcases hy with rfl | rfl | rfl | rfl | rfl <;> exact Nat.le_trans hge (Nat.le_add_right _ 2)
set_option maxHeartbeats 1000000 in
/-- the machine throws NullPointerException, no traces kept: from its note over the frame g to 'throwing' over the same frame (follows the proof of Stand.vmThrowsNpe, Shelf42/KT2.lean; throwsNpeColdBareVAt, Shelf42/NT91.lean, called) -/
theorem vx_npeAt {p : Program} {l : Launch} {e : Env} {R : Room} {s : State} {m₀ : MethodId} {args : Array Value} {below : List Frame} {meth : Method} {c : Code} {W : State} {locs : List Loc} {cells slots : Nat}
    (X : Stand p l e R s m₀ args below meth c W locs cells slots) (hexec : p.tables.exec = Jvm.exec) (htr : e.platform.stackTraces = false) {n : Nat}
    (h : ∀ a ∈ Bundle.npeArmAtoms n, a.before args s = true)
    (hlocs : ∀ x ∈ locs, ∀ cell, s.heap[x.base]? = some cell → cell.vm.isStatics = false)
    {g : JFrame} (hg : g.method = m₀) (hsize : g.locals.size = c.maxLocals)
    (hRframes : 7 < R.frames) (hRlocals : 2 * g.monitorRoom + (g.stack.map fun v => v.category).sum + 10240 ≤ R.locals)
    (hRcells : cells + 1 ≤ R.cells) (hRslots : slots + n ≤ R.slots) (hlocks : meth.locks = false) :
    ∃ (S : State) (q : Addr) (ce : Cell), (∀ target, Steps p.tables e below ((S.setTop g).pushFrame (.throwing q)) target → Steps p.tables e below ((W.setTop g).pushFrame (.throwNew "java/lang/NullPointerException" none none)) target) ∧
      Stand p l e R s m₀ args below meth c S locs (cells + 1) (slots + n) ∧ S.heap[q]? = some ce ∧ s.vm.findClass "java/lang/NullPointerException" = some ce.cls ∧ ce.vm = .none := by
  have howns : e.platform.frameOwnsMonitors = true := by rw [X.admits.platform]
  have hfin : e.platform.finalization = false := by rw [X.admits.platform]
  have hpl : e.platform.magicAccessors = ({} : Platform).magicAccessors := by rw [X.admits.platform]
  have hpl2 : e.platform.arrayCloneIsPublic = true := by rw [X.admits.platform]
  have a' : ∀ x, x ∈ Bundle.npeArmAtoms n → x.holds args s none s [] = true := fun x hx => h x hx
  obtain ⟨T, Z, L, LZ, Y⟩ := ThrowableC.of_atoms (args := args) howns hfin hpl (fun x hx => h x (by simp [Bundle.npeArmAtoms, hx]))
  obtain ⟨N, LN, hcN, hnNF, hordN, hffS⟩ := NpeC.of_atoms (args := args) hpl hpl2 L Y (fun x hx => h x (by simp [Bundle.npeArmAtoms, hx]))
  obtain ⟨P1, L1, hP1m, hP1s⟩ := PassC.of_atoms (args := args) (s := s) hpl (X := Bundle.nN) (Y := Bundle.rN) (by decide) (by decide) LibCode.NullPointerException.Init0.at_0 LibCode.NullPointerException.Init0.at_1 LibCode.NullPointerException.Init0.at_4 (fun x hx => h x (by simp [Bundle.npeArmAtoms, hx]))
  obtain ⟨PR, LR, hPRm, hPRs⟩ := PassC.of_atoms (args := args) (s := s) hpl (X := Bundle.rN) (Y := Bundle.eN) (by decide) (by decide) LibCode.RuntimeException.Init0.at_0 LibCode.RuntimeException.Init0.at_1 LibCode.RuntimeException.Init0.at_4 (fun x hx => h x (by simp [Bundle.npeArmAtoms, hx]))
  obtain ⟨PE, LEx, hPEm, hPEs⟩ := PassC.of_atoms (args := args) (s := s) hpl (X := Bundle.eN) (Y := Bundle.tN) (by decide) (by decide) LibCode.Exception.Init0.at_0 LibCode.Exception.Init0.at_1 LibCode.Exception.Init0.at_4 (fun x hx => h x (by simp [Bundle.npeArmAtoms, hx]))
  have hfound : s.vm.findClass Bundle.nN = some P1.m.cls := findClass_of_methodNamed hP1m
  have ecls : N.cN = P1.m.cls := Option.some.inj (hcN.symm.trans hfound)
  have hk : s.vm.classes[P1.m.cls]? = some N.kN := by rw [← ecls]; exact LN.cls
  have hinit := Cond.initialized_spec hfound hk (a' (.initialized Bundle.nN) (by simp [Bundle.npeArmAtoms]))
  have hctor : N.kN.findMethod "<init>" "()V" = some P1.m.idx := findMethod_of_methodNamed hP1m hk
  obtain ⟨c1, k1, hc1, hk1, -, -, -, hn⟩ := Cond.instantiable_spec (a' (.instantiable Bundle.nN n) (by simp [Bundle.npeArmAtoms]))
  cases Option.some.inj (hc1.symm.trans hfound)
  cases Option.some.inj (hk1.symm.trans hk)
  have hfsz : (freshCell P1.m.cls N.kN).slots.size = n := by simp [hn]
  have hlink1 : P1.sup = PR.m := Option.some.inj (hP1s.symm.trans hPRm)
  have hlinkR : PR.sup = PE.m := Option.some.inj (hPRs.symm.trans hPEm)
  have hlinkE : PE.sup = Z.m T.toThrowableT := Option.some.inj (hPEs.symm.trans Y.init0)
  have hLs : ∀ P, P ∈ [PR, PE] → P.Links0 e.platform s := fun P hP => by
    simp only [List.mem_cons, List.not_mem_nil, or_false] at hP
    rcases hP with rfl | rfl
    · exact LR
    · exact LEx
  have hsel0 : selectMethod e.platform s.vm P1.m.cls T.fill0 = .method T.fill0 := by
    obtain ⟨c2, r2, m2, q1, q2, q3, q4, -⟩ := Cond.selects_spec (a' (.selects Bundle.nN Bundle.tFill0 Bundle.tFill0) (by simp [Bundle.npeArmAtoms]))
    cases Option.some.inj (q1.symm.trans hfound)
    cases Option.some.inj (q2.symm.trans (State.methodFound?_of_named Y.fill0 (by decide)))
    cases Option.some.inj (q3.symm.trans Y.fill0)
    rw [Launch.admits_selectMethod X.admits]; exact q4
  have hselF : selectMethod e.platform s.vm P1.m.cls T.fill = .method N.fill := by
    obtain ⟨c2, r2, m2, q1, q2, q3, q4, -⟩ := Cond.selects_spec (a' (.selects Bundle.nN Bundle.tFill Bundle.nFill) (by simp [Bundle.npeArmAtoms]))
    cases Option.some.inj (q1.symm.trans hfound)
    cases Option.some.inj (q2.symm.trans (State.methodFound?_of_named Y.fill (by decide)))
    cases Option.some.inj (q3.symm.trans hnNF)
    rw [Launch.admits_selectMethod X.admits]; exact q4
  obtain ⟨cellS0, hcS0, hiss⟩ := Y.statics
  obtain ⟨u0, hu0⟩ := Cond.staticRefV Y.unassigned L.unassignedStatic L.statics hcS0 hiss (a' (.isRef (.static Bundle.tN "UNASSIGNED_STACK" Bundle.steD)) (by simp [Bundle.npeArmAtoms]))
  obtain ⟨sen, hsen⟩ := Cond.staticRefV Y.sentinel L.sentinelStatic L.statics hcS0 hiss (a' (.isRef (.static Bundle.tN "SUPPRESSED_SENTINEL" Bundle.listD)) (by simp [Bundle.npeArmAtoms]))
  obtain ⟨ci198, i198, fB, hk198, hg198, ha198, hsB, -, hnB, htB, hffB⟩ := Cond.ownField (t := .object "java/lang/Object") Y.found L.cls (by decide +kernel) (a' (.fieldLink Bundle.tN 198 Bundle.tN "backtrace" Bundle.objD) (by simp [Bundle.npeArmAtoms])) (a' (.lays Bundle.tN Bundle.tN "backtrace" Bundle.objD) (by simp [Bundle.npeArmAtoms])) e.platform hpl
  obtain ⟨cellS, hcS', heS, -, hkeep⟩ := X.same.2.2.2.2.2 T.aS cellS0 hcS0
  have hcellS : W.heap[T.aS]? = some cellS := hcS'
  have hout' : ∀ i, (⟨T.aS, i⟩ : Loc) ∉ locs := fun i hmem => by
    have := hlocs _ hmem cellS0 hcS0
    rw [hiss] at this; cases this
  have hknownS : cellS.vm ≠ .unknown := by
    rw [heS]; intro hu
    rw [show cellS0.vm = .unknown from hu] at hiss
    cases hiss
  have hvU : cellS.slots[T.fUnassigned.slot]? = some u0.v := by rw [hkeep _ (hout' _)]; exact hu0
  have hvSen : cellS.slots[T.fSentinel.slot]? = some sen.v := by rw [hkeep _ (hout' _)]; exact hsen
  obtain ⟨tyC, dC, hdC, hdnC⟩ := Cond.laysAt hfound hk Y.cause (a' (.lays Bundle.nN Bundle.tN "cause" "Ljava/lang/Throwable;") (by simp [Bundle.npeArmAtoms]))
  obtain ⟨tyS, dS, hdS, hdnS⟩ := Cond.laysAt hfound hk Y.stack (a' (.lays Bundle.nN Bundle.tN "stackTrace" Bundle.steD) (by simp [Bundle.npeArmAtoms]))
  obtain ⟨tyP, dP, hdP, hdnP⟩ := Cond.laysAt hfound hk Y.supp (a' (.lays Bundle.nN Bundle.tN "suppressedExceptions" Bundle.listD) (by simp [Bundle.npeArmAtoms]))
  obtain ⟨tyX, dX, hdX, hdnX⟩ := Cond.laysAt hfound hk hffS (a' (.lays Bundle.nN Bundle.nN "extendedMessageState" "I") (by simp [Bundle.npeArmAtoms, Bundle.npeAtoms]))
  obtain ⟨hnX, htX⟩ := State.fieldFound?_type hffS (t := .int) (by decide +kernel)
  have xC := Cond.laysApart hdC hdX hdnC hdnX (by rw [hnX, Y.causeName]; decide)
  have xS := Cond.laysApart hdS hdX hdnS hdnX (by rw [hnX, Y.stackName]; decide)
  have xP := Cond.laysApart hdP hdX hdnP hdnX (by rw [hnX, Y.suppName]; decide)
  have hv0 : (freshCell P1.m.cls N.kN).slots[N.fState.slot]? = some (.int 0) := by
    have := fresh_default (c := P1.m.cls) tyX
    rw [htX] at this; exact this
  obtain ⟨tyB, dB, hdB, hdnB⟩ := Cond.laysAt hfound hk hffB (a' (.lays Bundle.nN Bundle.tN "backtrace" Bundle.objD) (by simp [Bundle.npeArmAtoms]))
  have bC := Cond.laysApart hdB hdC hdnB hdnC (by rw [hnB, Y.causeName]; decide)
  have bS := Cond.laysApart hdB hdS hdnB hdnS (by rw [hnB, Y.stackName]; decide)
  have bP := Cond.laysApart hdB hdP hdnB hdnP (by rw [hnB, Y.suppName]; decide)
  have bX := Cond.laysApart hdB hdX hdnB hdnX (by rw [hnB, hnX]; decide)
  have hbk : ((npeCell N.toNpeT (preparedCellV T.toThrowableT (freshCell P1.m.cls N.kN) W.heap.size u0 sen) W.cur).withEntry W.cur).slots[fB.slot]? = some .null := by
    have := fresh_default (c := P1.m.cls) tyB
    rw [htB] at this
    simpa [npeCell, preparedCellV, Cell.setSlot, Cell.withEntry, Array.getElem?_setIfInBounds, bC, bS, bP, bX, bC.symm, bS.symm, bP.symm, bX.symm, defaultValue] using this
  have tkC := Takes.of_laid (v := .ref W.heap.size) hk hordN tyC (by rw [Y.causeType]; rfl)
  have tkS := Takes.of_laid (v := u0.v) hk hordN tyS (by rw [Y.stackType]; exact fits_refV_array _ u0)
  have tkP := Takes.of_laid (v := sen.v) hk hordN tyP (by rw [Y.suppType]; exact fits_refV_object _ sen)
  have tkX := Takes.of_laid (v := .int 1) hk hordN tyX (by rw [htX]; rfl)
  have hskip : SkipFacts T e.platform s (fun u => u) u0 ((npeCell N.toNpeT (preparedCellV T.toThrowableT (freshCell P1.m.cls N.kN) W.heap.size u0 sen) W.cur).withEntry W.cur) := ⟨{ ci198 := ci198, i198 := i198, fBack := fB }, ⟨hk198, hg198, ha198, hsB⟩, hbk, fun _ _ => rfl⟩
  obtain ⟨vm', X3, st, -⟩ := X.throwsNpeColdBareVAt hexec hg hsize T L Z LZ N LN P1 L1 [PR, PE] hLs hlink1 ⟨hlinkR, hlinkE, trivial⟩ hfound hk hinit hordN hctor hsel0 hselF hcellS hknownS hvU hvSen
    hv0 xC xS xP tkC tkS tkP tkX Y.objLocals hskip (fun _ _ hA hW _ hroom _ hrest => L.nativeOff p htr hA hW hroom hrest) (by simpa using hRframes) hRlocals (by simp) hRcells (by rw [hn]; exact hRslots)
  have hlt : W.heap.size < ((W.pushCell (freshCell P1.m.cls N.kN)).setVm vm').heap.size := by
    show W.heap.size < (W.pushCell (freshCell P1.m.cls N.kN)).heap.size
    rw [State.heap_size_pushCell]; omega
  rw [hfsz] at X3
  obtain ⟨g₁, hfrM⟩ := X3.frames_eq
  have hU : ((((W.pushCell (freshCell P1.m.cls N.kN)).setVm vm').setCell W.heap.size (npeBareV T.toThrowableT N.toNpeT (freshCell P1.m.cls N.kN) W.heap.size u0 sen)).setTop g).pushFrame (.throwing W.heap.size) = (((W.pushCell (freshCell P1.m.cls N.kN)).setVm vm').setCell W.heap.size (npeBareV T.toThrowableT N.toNpeT (freshCell P1.m.cls N.kN) W.heap.size u0 sen)).setFrames (.throwing W.heap.size :: .java g :: below) := by
    rw [State.pushFrame, State.frames_setTop _ hfrM, State.setTop_of_frames _ hfrM, State.setFrames_setFrames]
  refine ⟨_, W.heap.size, _, fun target ht => st.trans (by rw [← hU]; exact ht), X3.forget (fun y hy => ?_), heapAt_setCell_self _ hlt, hfound, rfl⟩
  simp only [List.mem_cons, List.not_mem_nil, or_false] at hy
  have hge : s.heap.size ≤ W.heap.size := X.same.2.1
  rcases hy with rfl | rfl | rfl | rfl | rfl <;> exact hge
/-- the words of a machine's NullPointerException, but the four that speak of the heap -/
def vx_atN (n : Nat) : List Cond := (Bundle.npeArmAtoms n).filter vx_no
/-- the words of a machine's throw with a message, but the four that speak of the heap -/
def vx_atM (X : String) (names : List String) : List Cond := (Bundle.messageArmAtoms X names).filter vx_no
section
variable {p : Program} {l : Launch} {e : Env} {R : Room} {s : State} {m : MethodId} {args : Array Value} {below : List Frame} {meth : Method} {c : Code} {H : Heap} {locs : List Loc} {cells slots : Nat}
/-- a frame seen from a rebased start, seen from the first start again -/
theorem vx_back9 {T S : State} {R' : Room} {k n : Nat} (X : Stand p l e R s m args below meth c T locs cells slots) (Y : Stand p l e R' ((T.setVm s.vm).setFrames (.invoking m args :: below)) m args below meth c T [] 0 0) (Z : Stand p l e R' ((T.setVm s.vm).setFrames (.invoking m args :: below)) m args below meth c S [] k n) :
    Stand p l e R s m args below meth c S locs (cells + k) (slots + n) := by
  have hW0 : s.WarmedH ((T.setVm s.vm).setFrames (.invoking m args :: below)).vm := State.WarmedH.refl s
  refine { admits := X.admits, cas := X.cas, clock := X.clock, frames := X.frames, room := X.room, hears := X.hears, method := X.method, code := X.code, here := Z.here, tail := Z.tail, warmed := State.WarmedH.trans hW0 Z.warmed, limits := Z.limits.trans (Y.limits.symm.trans X.limits), bytes := Z.bytes.trans (Y.bytes.symm.trans X.bytes), same := ?_ }
  obtain ⟨e1, e2⟩ := Z.same
  rw [State.setFrames_setFrames] at e1
  have h2 : (T.setVm s.vm).sameButNew (S.setVm s.vm) [] k n := ⟨e1, e2⟩
  have h3 := X.same.trans h2
  rw [List.append_nil] at h3
  exact h3
/-- from the machine's note that E is thrown here with this text -/
def vx_Note (p : Program) (l : Launch) (e : Env) (R : Room) (s : State) (m : MethodId) (args : Array Value) (below : List Frame) (meth : Method) (c : Code) (H : Heap) (locs : List Loc) (cells slots : Nat) (Q : State → Prop) (g : JFrame) (E text : String) : Prop :=
  ∀ T : State, T.heap = H → Stand p l e R s m args below meth c T locs cells slots → ∃ t, Steps p.tables e below ((T.setTop g).pushFrame (.throwNew E (some text) none)) t ∧ Q t
theorem vx_vm {pc : Nat} {ls : Array Slot} {rest : List Value} {Q : State → Prop} (hexec : p.tables.exec = Jvm.exec) (hl : l.stackTraces = false) {cls text : String} {names : List String} {nb : Nat} {A : Nat → Prop}
    (hcls : Bundle.fit cls = true) (hnames : ∀ n ∈ names, Bundle.fit n = true) (hsoe : (cls == "java/lang/StackOverflowError") = false) (hoom : (cls == "java/lang/OutOfMemoryError") = false)
    (hat : ∀ w ∈ vx_atM cls names, w.before args s = true) (hgood : ∀ w ∈ vx_atM cls names, vx_ot w = true)
    (hU : vx_Zq Bundle.tN "UNASSIGNED_STACK" Bundle.steD A s s.heap) (hN : vx_Zq Bundle.tN "SUPPRESSED_SENTINEL" Bundle.listD A s s.heap) (hS : va_S A s.heap H locs) (hsize : ls.size = c.maxLocals)
    (htext : (text == notModelled) = false) (hnb : (stringBytes (stringToUtf16 text)).size ≤ nb) (hnb1 : nb ≤ 1000)
    (hRframes : names.length + 4 < R.frames) (hRlocals : (rest.map fun v => v.category).sum + 10240 ≤ R.locals) (hshort : 13 * names.length + 55 ≤ 10240) (hRcells : cells + 3 ≤ R.cells) (hRslots : slots + (nb + 10) ≤ R.slots) (hlocks : meth.locks = false)
    (k : ∀ (H1 : Heap) (q9 : Addr) (ce : Cell), H.size ≤ H1.size → (∀ q : Nat, q < H.size → H1[q]? = H[q]?) → va_S A s.heap H1 locs → H1[q9]? = some ce → ce.vm = .none → s.vm.findClass cls = some ce.cls → vx_W p l e R s m args below meth c H1 locs (cells + 3) (slots + (nb + 10)) Q (F0 m pc ls rest) q9) :
    vx_Note p l e R s m args below meth c H locs cells slots Q (F0 m pc ls rest) cls text := by
  intro T hT X
  have htr : e.platform.stackTraces = false := (show e.platform.stackTraces = l.stackTraces by rw [X.admits.platform]).trans hl
  have Y := vx_rebase X (R' := { frames := R.frames, locals := R.locals, cells := 3, slots := nb + 10 }) (Nat.le_refl _) (Nat.le_refl _) hRcells hRslots
  have hhp : ((T.setVm s.vm).setFrames (.invoking m args :: below)).heap = H := hT
  have hW0 : s.WarmedH ((T.setVm s.vm).setFrames (.invoking m args :: below)).vm := State.WarmedH.refl s
  have hat' : ∀ w ∈ vx_atM cls names, w.before args ((T.setVm s.vm).setFrames (.invoking m args :: below)) = true := fun w hw => vx_ot_at hW0 rfl (hgood w hw) (hat w hw)
  have hU' : vx_Zq Bundle.tN "UNASSIGNED_STACK" Bundle.steD A ((T.setVm s.vm).setFrames (.invoking m args :: below)) ((T.setVm s.vm).setFrames (.invoking m args :: below)).heap := by rw [hhp]; exact vx_Zq.moved hW0.alike (hU.kept hS.2.1)
  have hN' : vx_Zq Bundle.tN "SUPPRESSED_SENTINEL" Bundle.listD A ((T.setVm s.vm).setFrames (.invoking m args :: below)) ((T.setVm s.vm).setFrames (.invoking m args :: below)).heap := by rw [hhp]; exact vx_Zq.moved hW0.alike (hN.kept hS.2.1)
  obtain ⟨S, q, ce, st, Z, hce, hcl', hv⟩ := vx_vmAt Y hexec htr (cls := cls) (names := names) (text := text) hcls hnames hsoe hoom (vx_own hat' (vx_isRefq hU'.1) (vx_isRefq hN'.1) hU'.2.word hN'.2.word) (fun x hx => nomatch hx) htext
    (by rw [Launch.admits_arrayLengthLimit X.admits]; omega) (by rw [Launch.admits_maxHeapBytes X.admits]; simp only [componentBytes]; omega)
    (g := F0 m pc ls rest) rfl hsize hRframes (by show 2 * 0 + (rest.map fun v => v.category).sum + 10240 ≤ R.locals; omega) hshort (by show 0 + 3 ≤ 3; omega) (by show 0 + (_ + 4 + 6) ≤ nb + 10; omega) hlocks
  obtain ⟨f1, f2⟩ := vx_frame Z.same
  have f1' : H.size ≤ S.heap.size := by rw [← hT]; exact f1
  have f2' : ∀ q : Nat, q < H.size → S.heap[q]? = H[q]? := fun q hq => by
    rw [← hT]
    exact f2 q (by rw [← hT] at hq; exact hq) (fun z hz => nomatch hz)
  have X5 := vx_back9 X Y Z
  have X6 : Stand p l e R s m args below meth c S locs (cells + 3) (slots + (nb + 10)) := { X5 with same := X5.same.mono (by omega) (by omega) }
  obtain ⟨t, a1, b1⟩ := k S.heap q ce f1' f2' ⟨Nat.le_trans hS.1 f1', fun q h1 h2 => (f2' q (Nat.lt_of_lt_of_le h1 hS.1)).trans (hS.2.1 q h1 h2), hS.2.2⟩ hce hv hcl' S rfl X6
  exact ⟨t, st t a1, b1⟩
/-- from the machine's note that NullPointerException is thrown here -/
def vx_NoteN (p : Program) (l : Launch) (e : Env) (R : Room) (s : State) (m : MethodId) (args : Array Value) (below : List Frame) (meth : Method) (c : Code) (H : Heap) (locs : List Loc) (cells slots : Nat) (Q : State → Prop) (g : JFrame) : Prop :=
  ∀ T : State, T.heap = H → Stand p l e R s m args below meth c T locs cells slots → ∃ t, Steps p.tables e below ((T.setTop g).pushFrame (.throwNew "java/lang/NullPointerException" none none)) t ∧ Q t
theorem vx_npe {pc : Nat} {ls : Array Slot} {rest : List Value} {Q : State → Prop} (hexec : p.tables.exec = Jvm.exec) (hl : l.stackTraces = false) {nb : Nat} {A : Nat → Prop}
    (hat : ∀ w ∈ vx_atN nb, w.before args s = true) (hgood : ∀ w ∈ vx_atN nb, vx_ot w = true)
    (hU : vx_Zq Bundle.tN "UNASSIGNED_STACK" Bundle.steD A s s.heap) (hN : vx_Zq Bundle.tN "SUPPRESSED_SENTINEL" Bundle.listD A s s.heap) (hS : va_S A s.heap H locs) (hsize : ls.size = c.maxLocals)
    (hRframes : 7 < R.frames) (hRlocals : (rest.map fun v => v.category).sum + 10240 ≤ R.locals) (hRcells : cells + 1 ≤ R.cells) (hRslots : slots + nb ≤ R.slots) (hlocks : meth.locks = false)
    (k : ∀ (H1 : Heap) (q9 : Addr) (ce : Cell), H.size ≤ H1.size → (∀ q : Nat, q < H.size → H1[q]? = H[q]?) → va_S A s.heap H1 locs → H1[q9]? = some ce → ce.vm = .none → s.vm.findClass "java/lang/NullPointerException" = some ce.cls → vx_W p l e R s m args below meth c H1 locs (cells + 1) (slots + nb) Q (F0 m pc ls rest) q9) :
    vx_NoteN p l e R s m args below meth c H locs cells slots Q (F0 m pc ls rest) := by
  intro T hT X
  have htr : e.platform.stackTraces = false := (show e.platform.stackTraces = l.stackTraces by rw [X.admits.platform]).trans hl
  have Y := vx_rebase X (R' := { frames := R.frames, locals := R.locals, cells := 1, slots := nb }) (Nat.le_refl _) (Nat.le_refl _) hRcells hRslots
  have hhp : ((T.setVm s.vm).setFrames (.invoking m args :: below)).heap = H := hT
  have hW0 : s.WarmedH ((T.setVm s.vm).setFrames (.invoking m args :: below)).vm := State.WarmedH.refl s
  have hat' : ∀ w ∈ vx_atN nb, w.before args ((T.setVm s.vm).setFrames (.invoking m args :: below)) = true := fun w hw => vx_ot_at hW0 rfl (hgood w hw) (hat w hw)
  have hU' : vx_Zq Bundle.tN "UNASSIGNED_STACK" Bundle.steD A ((T.setVm s.vm).setFrames (.invoking m args :: below)) ((T.setVm s.vm).setFrames (.invoking m args :: below)).heap := by rw [hhp]; exact vx_Zq.moved hW0.alike (hU.kept hS.2.1)
  have hN' : vx_Zq Bundle.tN "SUPPRESSED_SENTINEL" Bundle.listD A ((T.setVm s.vm).setFrames (.invoking m args :: below)) ((T.setVm s.vm).setFrames (.invoking m args :: below)).heap := by rw [hhp]; exact vx_Zq.moved hW0.alike (hN.kept hS.2.1)
  obtain ⟨S, q, ce, st, Z, hce, hcl', hv⟩ := vx_npeAt Y hexec htr (n := nb) (vx_own hat' (vx_isRefq hU'.1) (vx_isRefq hN'.1) hU'.2.word hN'.2.word) (fun x hx => nomatch hx)
    (g := F0 m pc ls rest) rfl hsize hRframes (by show 2 * 0 + (rest.map fun v => v.category).sum + 10240 ≤ R.locals; omega) (by show 0 + 1 ≤ 1; omega) (by show 0 + nb ≤ nb; omega) hlocks
  obtain ⟨f1, f2⟩ := vx_frame Z.same
  have f1' : H.size ≤ S.heap.size := by rw [← hT]; exact f1
  have f2' : ∀ q : Nat, q < H.size → S.heap[q]? = H[q]? := fun q hq => by
    rw [← hT]
    exact f2 q (by rw [← hT] at hq; exact hq) (fun z hz => nomatch hz)
  have X5 := vx_back9 X Y Z
  have X6 : Stand p l e R s m args below meth c S locs (cells + 1) (slots + nb) := { X5 with same := X5.same.mono (by omega) (by omega) }
  obtain ⟨t, a1, b1⟩ := k S.heap q ce f1' f2' ⟨Nat.le_trans hS.1 f1', fun q h1 h2 => (f2' q (Nat.lt_of_lt_of_le h1 hS.1)).trans (hS.2.1 q h1 h2), hS.2.2⟩ hce hv hcl' S rfl X6
  exact ⟨t, st t a1, b1⟩
variable {Q : State → Prop} {cc : ByteArray} {pc : Nat} {ls : Array Slot} {rest : List Value}
theorem vx_idivZ (hexec : p.tables.exec = Jvm.exec) (hb : c.code = cc) {a b : Int32} (h0 : b = 0) (d : decode cc pc = .ok (.idiv, 1)) (k : vx_Note p l e R s m args below meth c H locs cells slots Q (F0 m pc ls rest) "java/lang/ArithmeticException" "/ by zero") :
    W p l e R s m args below meth c H locs cells slots Q (F0 m pc ls (.int b :: .int a :: rest)) := by
  intro T hT X
  obtain ⟨t, st, q⟩ := k T hT X
  exact ⟨t, X.idivZero hexec (g := F0 m pc ls (.int b :: .int a :: rest)) rfl (a := a) (rest := rest) (by rw [h0]) (by rw [hb]; exact d) t st, q⟩
theorem vx_iremZ (hexec : p.tables.exec = Jvm.exec) (hb : c.code = cc) {a b : Int32} (h0 : b = 0) (d : decode cc pc = .ok (.irem, 1)) (k : vx_Note p l e R s m args below meth c H locs cells slots Q (F0 m pc ls rest) "java/lang/ArithmeticException" "/ by zero") :
    W p l e R s m args below meth c H locs cells slots Q (F0 m pc ls (.int b :: .int a :: rest)) := by
  intro T hT X
  obtain ⟨t, st, q⟩ := k T hT X
  exact ⟨t, X.iremZero hexec (g := F0 m pc ls (.int b :: .int a :: rest)) rfl (a := a) (rest := rest) (by rw [h0]) (by rw [hb]; exact d) t st, q⟩
theorem vx_ldivZ (hexec : p.tables.exec = Jvm.exec) (hb : c.code = cc) {a b : Int64} (h0 : b = 0) (d : decode cc pc = .ok (.ldiv, 1)) (k : vx_Note p l e R s m args below meth c H locs cells slots Q (F0 m pc ls rest) "java/lang/ArithmeticException" "/ by zero") :
    W p l e R s m args below meth c H locs cells slots Q (F0 m pc ls (.long b :: .long a :: rest)) := by
  intro T hT X
  obtain ⟨t, st, q⟩ := k T hT X
  exact ⟨t, X.ldivZero hexec (g := F0 m pc ls (.long b :: .long a :: rest)) rfl (a := a) (rest := rest) (by rw [h0]) (by rw [hb]; exact d) t st, q⟩
theorem vx_lremZ (hexec : p.tables.exec = Jvm.exec) (hb : c.code = cc) {a b : Int64} (h0 : b = 0) (d : decode cc pc = .ok (.lrem, 1)) (k : vx_Note p l e R s m args below meth c H locs cells slots Q (F0 m pc ls rest) "java/lang/ArithmeticException" "/ by zero") :
    W p l e R s m args below meth c H locs cells slots Q (F0 m pc ls (.long b :: .long a :: rest)) := by
  intro T hT X
  obtain ⟨t, st, q⟩ := k T hT X
  exact ⟨t, X.lremZero hexec (g := F0 m pc ls (.long b :: .long a :: rest)) rfl (a := a) (rest := rest) (by rw [h0]) (by rw [hb]; exact d) t st, q⟩
theorem vx_ialdZ {D : va_G} {cl : List vw_C} {ws : va_W} {tys : List (ClassId × FieldType)} {a : Nat} (hexec : p.tables.exec = Jvm.exec) (hb : c.code = cc) (hK : va_K D cl tys s) (hP : va_P D cl ws H) (q0 t0 : Nat) {cA : ClassId} {n : Nat} {f : Nat → Int32} (ha : ws[q0]? = some (a, .inl (cA, n, .inl f))) (ht : tys[t0]? = some (cA, .int)) {i : Int32} (hout : ¬ vp_in i n) (hdg : decode cc pc = .ok (.iaload, 1))
    (k : ∀ tx : String, tx = (toString "Index " ++ toString i ++ toString " out of bounds for length " ++ toString n : String) → vx_Note p l e R s m args below meth c H locs cells slots Q (F0 m pc ls rest) "java/lang/ArrayIndexOutOfBoundsException" tx) : W p l e R s m args below meth c H locs cells slots Q (F0 m pc ls (.int i :: .ref a :: rest)) := by
  intro T hT X
  obtain ⟨t, st, q⟩ := k _ rfl T hT X
  refine ⟨t, ?_, q⟩
  have h1 := X.ialoadOut hexec (by rw [hT]; exact hP q0 _ ha) ((hK.2 t0 _ ht).1 n (fun j => .int (f j))) (j := i) (by show (i < 0 ∨ (arrV _ _ _).slots.size ≤ _); rw [arrV_size]; exact Classical.byContradiction hout) (g := F0 m pc ls (.int i :: .ref a :: rest)) rfl (rest := rest) rfl (by rw [hb]; exact hdg) t
  simp only [arrV_size] at h1
  exact h1 st
theorem vx_iastZ {D : va_G} {cl : List vw_C} {ws : va_W} {tys : List (ClassId × FieldType)} {a : Nat} (hexec : p.tables.exec = Jvm.exec) (hb : c.code = cc) (hK : va_K D cl tys s) (hP : va_P D cl ws H) (q0 t0 : Nat) {cA : ClassId} {n : Nat} {f : Nat → Int32} (ha : ws[q0]? = some (a, .inl (cA, n, .inl f))) (ht : tys[t0]? = some (cA, .int)) {i : Int32} {x : Int32} (hout : ¬ vp_in i n) (hdg : decode cc pc = .ok (.iastore, 1))
    (k : ∀ tx : String, tx = (toString "Index " ++ toString i ++ toString " out of bounds for length " ++ toString n : String) → vx_Note p l e R s m args below meth c H locs cells slots Q (F0 m pc ls rest) "java/lang/ArrayIndexOutOfBoundsException" tx) : W p l e R s m args below meth c H locs cells slots Q (F0 m pc ls (.int x :: .int i :: .ref a :: rest)) := by
  intro T hT X
  obtain ⟨t, st, q⟩ := k _ rfl T hT X
  refine ⟨t, ?_, q⟩
  have h1 := X.iastoreOut hexec (by rw [hT]; exact hP q0 _ ha) ((hK.2 t0 _ ht).1 n (fun j => .int (f j))) (j := i) (by show (i < 0 ∨ (arrV _ _ _).slots.size ≤ _); rw [arrV_size]; exact Classical.byContradiction hout) (g := F0 m pc ls (.int x :: .int i :: .ref a :: rest)) rfl (rest := rest) rfl (by rw [hb]; exact hdg) t
  simp only [arrV_size] at h1
  exact h1 st
theorem vx_baldZ {D : va_G} {cl : List vw_C} {ws : va_W} {tys : List (ClassId × FieldType)} {a : Nat} (hexec : p.tables.exec = Jvm.exec) (hb : c.code = cc) (hK : va_K D cl tys s) (hP : va_P D cl ws H) (q0 t0 : Nat) {cA : ClassId} {n : Nat} {f : Nat → Int32} (ha : ws[q0]? = some (a, .inl (cA, n, .inl f))) (ht : tys[t0]? = some (cA, .byte)) {i : Int32} (hout : ¬ vp_in i n) (hdg : decode cc pc = .ok (.baload, 1))
    (k : ∀ tx : String, tx = (toString "Index " ++ toString i ++ toString " out of bounds for length " ++ toString n : String) → vx_Note p l e R s m args below meth c H locs cells slots Q (F0 m pc ls rest) "java/lang/ArrayIndexOutOfBoundsException" tx) : W p l e R s m args below meth c H locs cells slots Q (F0 m pc ls (.int i :: .ref a :: rest)) := by
  intro T hT X
  obtain ⟨t, st, q⟩ := k _ rfl T hT X
  refine ⟨t, ?_, q⟩
  have h1 := X.baloadOut hexec (by rw [hT]; exact hP q0 _ ha) ((hK.2 t0 _ ht).1 n (fun j => .int (f j))) (j := i) (by show (i < 0 ∨ (arrV _ _ _).slots.size ≤ _); rw [arrV_size]; exact Classical.byContradiction hout) (g := F0 m pc ls (.int i :: .ref a :: rest)) rfl (rest := rest) rfl (by rw [hb]; exact hdg) t
  simp only [arrV_size] at h1
  exact h1 st
theorem vx_bastZ {D : va_G} {cl : List vw_C} {ws : va_W} {tys : List (ClassId × FieldType)} {a : Nat} (hexec : p.tables.exec = Jvm.exec) (hb : c.code = cc) (hK : va_K D cl tys s) (hP : va_P D cl ws H) (q0 t0 : Nat) {cA : ClassId} {n : Nat} {f : Nat → Int32} (ha : ws[q0]? = some (a, .inl (cA, n, .inl f))) (ht : tys[t0]? = some (cA, .byte)) {i : Int32} {x : Int32} (hout : ¬ vp_in i n) (hdg : decode cc pc = .ok (.bastore, 1))
    (k : ∀ tx : String, tx = (toString "Index " ++ toString i ++ toString " out of bounds for length " ++ toString n : String) → vx_Note p l e R s m args below meth c H locs cells slots Q (F0 m pc ls rest) "java/lang/ArrayIndexOutOfBoundsException" tx) : W p l e R s m args below meth c H locs cells slots Q (F0 m pc ls (.int x :: .int i :: .ref a :: rest)) := by
  intro T hT X
  obtain ⟨t, st, q⟩ := k _ rfl T hT X
  refine ⟨t, ?_, q⟩
  have h1 := X.bastoreOut hexec (by rw [hT]; exact hP q0 _ ha) ((hK.2 t0 _ ht).1 n (fun j => .int (f j))) (j := i) (by show (i < 0 ∨ (arrV _ _ _).slots.size ≤ _); rw [arrV_size]; exact Classical.byContradiction hout) (g := F0 m pc ls (.int x :: .int i :: .ref a :: rest)) rfl (rest := rest) rfl (by rw [hb]; exact hdg) t
  simp only [arrV_size] at h1
  exact h1 st
theorem vx_zaldZ {D : va_G} {cl : List vw_C} {ws : va_W} {tys : List (ClassId × FieldType)} {a : Nat} (hexec : p.tables.exec = Jvm.exec) (hb : c.code = cc) (hK : va_K D cl tys s) (hP : va_P D cl ws H) (q0 t0 : Nat) {cA : ClassId} {n : Nat} {f : Nat → Int32} (ha : ws[q0]? = some (a, .inl (cA, n, .inl f))) (ht : tys[t0]? = some (cA, .boolean)) {i : Int32} (hout : ¬ vp_in i n) (hdg : decode cc pc = .ok (.baload, 1))
    (k : ∀ tx : String, tx = (toString "Index " ++ toString i ++ toString " out of bounds for length " ++ toString n : String) → vx_Note p l e R s m args below meth c H locs cells slots Q (F0 m pc ls rest) "java/lang/ArrayIndexOutOfBoundsException" tx) : W p l e R s m args below meth c H locs cells slots Q (F0 m pc ls (.int i :: .ref a :: rest)) := by
  intro T hT X
  obtain ⟨t, st, q⟩ := k _ rfl T hT X
  refine ⟨t, ?_, q⟩
  have h1 := X.baloadOut hexec (by rw [hT]; exact hP q0 _ ha) ((hK.2 t0 _ ht).1 n (fun j => .int (f j))) (j := i) (by show (i < 0 ∨ (arrV _ _ _).slots.size ≤ _); rw [arrV_size]; exact Classical.byContradiction hout) (g := F0 m pc ls (.int i :: .ref a :: rest)) rfl (rest := rest) rfl (by rw [hb]; exact hdg) t
  simp only [arrV_size] at h1
  exact h1 st
theorem vx_zastZ {D : va_G} {cl : List vw_C} {ws : va_W} {tys : List (ClassId × FieldType)} {a : Nat} (hexec : p.tables.exec = Jvm.exec) (hb : c.code = cc) (hK : va_K D cl tys s) (hP : va_P D cl ws H) (q0 t0 : Nat) {cA : ClassId} {n : Nat} {f : Nat → Int32} (ha : ws[q0]? = some (a, .inl (cA, n, .inl f))) (ht : tys[t0]? = some (cA, .boolean)) {i : Int32} {x : Int32} (hout : ¬ vp_in i n) (hdg : decode cc pc = .ok (.bastore, 1))
    (k : ∀ tx : String, tx = (toString "Index " ++ toString i ++ toString " out of bounds for length " ++ toString n : String) → vx_Note p l e R s m args below meth c H locs cells slots Q (F0 m pc ls rest) "java/lang/ArrayIndexOutOfBoundsException" tx) : W p l e R s m args below meth c H locs cells slots Q (F0 m pc ls (.int x :: .int i :: .ref a :: rest)) := by
  intro T hT X
  obtain ⟨t, st, q⟩ := k _ rfl T hT X
  refine ⟨t, ?_, q⟩
  have h1 := X.bastoreOut hexec (by rw [hT]; exact hP q0 _ ha) ((hK.2 t0 _ ht).1 n (fun j => .int (f j))) (j := i) (by show (i < 0 ∨ (arrV _ _ _).slots.size ≤ _); rw [arrV_size]; exact Classical.byContradiction hout) (g := F0 m pc ls (.int x :: .int i :: .ref a :: rest)) rfl (rest := rest) rfl (by rw [hb]; exact hdg) t
  simp only [arrV_size] at h1
  exact h1 st
theorem vx_caldZ {D : va_G} {cl : List vw_C} {ws : va_W} {tys : List (ClassId × FieldType)} {a : Nat} (hexec : p.tables.exec = Jvm.exec) (hb : c.code = cc) (hK : va_K D cl tys s) (hP : va_P D cl ws H) (q0 t0 : Nat) {cA : ClassId} {n : Nat} {f : Nat → Int32} (ha : ws[q0]? = some (a, .inl (cA, n, .inl f))) (ht : tys[t0]? = some (cA, .char)) {i : Int32} (hout : ¬ vp_in i n) (hdg : decode cc pc = .ok (.caload, 1))
    (k : ∀ tx : String, tx = (toString "Index " ++ toString i ++ toString " out of bounds for length " ++ toString n : String) → vx_Note p l e R s m args below meth c H locs cells slots Q (F0 m pc ls rest) "java/lang/ArrayIndexOutOfBoundsException" tx) : W p l e R s m args below meth c H locs cells slots Q (F0 m pc ls (.int i :: .ref a :: rest)) := by
  intro T hT X
  obtain ⟨t, st, q⟩ := k _ rfl T hT X
  refine ⟨t, ?_, q⟩
  have h1 := X.caloadOut hexec (by rw [hT]; exact hP q0 _ ha) ((hK.2 t0 _ ht).1 n (fun j => .int (f j))) (j := i) (by show (i < 0 ∨ (arrV _ _ _).slots.size ≤ _); rw [arrV_size]; exact Classical.byContradiction hout) (g := F0 m pc ls (.int i :: .ref a :: rest)) rfl (rest := rest) rfl (by rw [hb]; exact hdg) t
  simp only [arrV_size] at h1
  exact h1 st
theorem vx_castZ {D : va_G} {cl : List vw_C} {ws : va_W} {tys : List (ClassId × FieldType)} {a : Nat} (hexec : p.tables.exec = Jvm.exec) (hb : c.code = cc) (hK : va_K D cl tys s) (hP : va_P D cl ws H) (q0 t0 : Nat) {cA : ClassId} {n : Nat} {f : Nat → Int32} (ha : ws[q0]? = some (a, .inl (cA, n, .inl f))) (ht : tys[t0]? = some (cA, .char)) {i : Int32} {x : Int32} (hout : ¬ vp_in i n) (hdg : decode cc pc = .ok (.castore, 1))
    (k : ∀ tx : String, tx = (toString "Index " ++ toString i ++ toString " out of bounds for length " ++ toString n : String) → vx_Note p l e R s m args below meth c H locs cells slots Q (F0 m pc ls rest) "java/lang/ArrayIndexOutOfBoundsException" tx) : W p l e R s m args below meth c H locs cells slots Q (F0 m pc ls (.int x :: .int i :: .ref a :: rest)) := by
  intro T hT X
  obtain ⟨t, st, q⟩ := k _ rfl T hT X
  refine ⟨t, ?_, q⟩
  have h1 := X.castoreOut hexec (by rw [hT]; exact hP q0 _ ha) ((hK.2 t0 _ ht).1 n (fun j => .int (f j))) (j := i) (by show (i < 0 ∨ (arrV _ _ _).slots.size ≤ _); rw [arrV_size]; exact Classical.byContradiction hout) (g := F0 m pc ls (.int x :: .int i :: .ref a :: rest)) rfl (rest := rest) rfl (by rw [hb]; exact hdg) t
  simp only [arrV_size] at h1
  exact h1 st
theorem vx_saldZ {D : va_G} {cl : List vw_C} {ws : va_W} {tys : List (ClassId × FieldType)} {a : Nat} (hexec : p.tables.exec = Jvm.exec) (hb : c.code = cc) (hK : va_K D cl tys s) (hP : va_P D cl ws H) (q0 t0 : Nat) {cA : ClassId} {n : Nat} {f : Nat → Int32} (ha : ws[q0]? = some (a, .inl (cA, n, .inl f))) (ht : tys[t0]? = some (cA, .short)) {i : Int32} (hout : ¬ vp_in i n) (hdg : decode cc pc = .ok (.saload, 1))
    (k : ∀ tx : String, tx = (toString "Index " ++ toString i ++ toString " out of bounds for length " ++ toString n : String) → vx_Note p l e R s m args below meth c H locs cells slots Q (F0 m pc ls rest) "java/lang/ArrayIndexOutOfBoundsException" tx) : W p l e R s m args below meth c H locs cells slots Q (F0 m pc ls (.int i :: .ref a :: rest)) := by
  intro T hT X
  obtain ⟨t, st, q⟩ := k _ rfl T hT X
  refine ⟨t, ?_, q⟩
  have h1 := X.saloadOut hexec (by rw [hT]; exact hP q0 _ ha) ((hK.2 t0 _ ht).1 n (fun j => .int (f j))) (j := i) (by show (i < 0 ∨ (arrV _ _ _).slots.size ≤ _); rw [arrV_size]; exact Classical.byContradiction hout) (g := F0 m pc ls (.int i :: .ref a :: rest)) rfl (rest := rest) rfl (by rw [hb]; exact hdg) t
  simp only [arrV_size] at h1
  exact h1 st
theorem vx_sastZ {D : va_G} {cl : List vw_C} {ws : va_W} {tys : List (ClassId × FieldType)} {a : Nat} (hexec : p.tables.exec = Jvm.exec) (hb : c.code = cc) (hK : va_K D cl tys s) (hP : va_P D cl ws H) (q0 t0 : Nat) {cA : ClassId} {n : Nat} {f : Nat → Int32} (ha : ws[q0]? = some (a, .inl (cA, n, .inl f))) (ht : tys[t0]? = some (cA, .short)) {i : Int32} {x : Int32} (hout : ¬ vp_in i n) (hdg : decode cc pc = .ok (.sastore, 1))
    (k : ∀ tx : String, tx = (toString "Index " ++ toString i ++ toString " out of bounds for length " ++ toString n : String) → vx_Note p l e R s m args below meth c H locs cells slots Q (F0 m pc ls rest) "java/lang/ArrayIndexOutOfBoundsException" tx) : W p l e R s m args below meth c H locs cells slots Q (F0 m pc ls (.int x :: .int i :: .ref a :: rest)) := by
  intro T hT X
  obtain ⟨t, st, q⟩ := k _ rfl T hT X
  refine ⟨t, ?_, q⟩
  have h1 := X.sastoreOut hexec (by rw [hT]; exact hP q0 _ ha) ((hK.2 t0 _ ht).1 n (fun j => .int (f j))) (j := i) (by show (i < 0 ∨ (arrV _ _ _).slots.size ≤ _); rw [arrV_size]; exact Classical.byContradiction hout) (g := F0 m pc ls (.int x :: .int i :: .ref a :: rest)) rfl (rest := rest) rfl (by rw [hb]; exact hdg) t
  simp only [arrV_size] at h1
  exact h1 st
theorem vx_laldZ {D : va_G} {cl : List vw_C} {ws : va_W} {tys : List (ClassId × FieldType)} {a : Nat} (hexec : p.tables.exec = Jvm.exec) (hb : c.code = cc) (hK : va_K D cl tys s) (hP : va_P D cl ws H) (q0 t0 : Nat) {cA : ClassId} {n : Nat} {f : Nat → Int64} (ha : ws[q0]? = some (a, .inl (cA, n, .inr (.inl f)))) (ht : tys[t0]? = some (cA, .long)) {i : Int32} (hout : ¬ vp_in i n) (hdg : decode cc pc = .ok (.laload, 1))
    (k : ∀ tx : String, tx = (toString "Index " ++ toString i ++ toString " out of bounds for length " ++ toString n : String) → vx_Note p l e R s m args below meth c H locs cells slots Q (F0 m pc ls rest) "java/lang/ArrayIndexOutOfBoundsException" tx) : W p l e R s m args below meth c H locs cells slots Q (F0 m pc ls (.int i :: .ref a :: rest)) := by
  intro T hT X
  obtain ⟨t, st, q⟩ := k _ rfl T hT X
  refine ⟨t, ?_, q⟩
  have h1 := X.laloadOut hexec (by rw [hT]; exact hP q0 _ ha) ((hK.2 t0 _ ht).1 n (fun j => .long (f j))) (j := i) (by show (i < 0 ∨ (arrV _ _ _).slots.size ≤ _); rw [arrV_size]; exact Classical.byContradiction hout) (g := F0 m pc ls (.int i :: .ref a :: rest)) rfl (rest := rest) rfl (by rw [hb]; exact hdg) t
  simp only [arrV_size] at h1
  exact h1 st
theorem vx_lastZ {D : va_G} {cl : List vw_C} {ws : va_W} {tys : List (ClassId × FieldType)} {a : Nat} (hexec : p.tables.exec = Jvm.exec) (hb : c.code = cc) (hK : va_K D cl tys s) (hP : va_P D cl ws H) (q0 t0 : Nat) {cA : ClassId} {n : Nat} {f : Nat → Int64} (ha : ws[q0]? = some (a, .inl (cA, n, .inr (.inl f)))) (ht : tys[t0]? = some (cA, .long)) {i : Int32} {x : Int64} (hout : ¬ vp_in i n) (hdg : decode cc pc = .ok (.lastore, 1))
    (k : ∀ tx : String, tx = (toString "Index " ++ toString i ++ toString " out of bounds for length " ++ toString n : String) → vx_Note p l e R s m args below meth c H locs cells slots Q (F0 m pc ls rest) "java/lang/ArrayIndexOutOfBoundsException" tx) : W p l e R s m args below meth c H locs cells slots Q (F0 m pc ls (.long x :: .int i :: .ref a :: rest)) := by
  intro T hT X
  obtain ⟨t, st, q⟩ := k _ rfl T hT X
  refine ⟨t, ?_, q⟩
  have h1 := X.lastoreOut hexec (by rw [hT]; exact hP q0 _ ha) ((hK.2 t0 _ ht).1 n (fun j => .long (f j))) (j := i) (by show (i < 0 ∨ (arrV _ _ _).slots.size ≤ _); rw [arrV_size]; exact Classical.byContradiction hout) (g := F0 m pc ls (.long x :: .int i :: .ref a :: rest)) rfl (rest := rest) rfl (by rw [hb]; exact hdg) t
  simp only [arrV_size] at h1
  exact h1 st
theorem vx_faldZ {D : va_G} {cl : List vw_C} {ws : va_W} {tys : List (ClassId × FieldType)} {a : Nat} (hexec : p.tables.exec = Jvm.exec) (hb : c.code = cc) (hK : va_K D cl tys s) (hP : va_P D cl ws H) (q0 t0 : Nat) {cA : ClassId} {n : Nat} {f : Nat → UInt32} (ha : ws[q0]? = some (a, .inl (cA, n, .inr (.inr (.inl f))))) (ht : tys[t0]? = some (cA, .float)) {i : Int32} (hout : ¬ vp_in i n) (hdg : decode cc pc = .ok (.faload, 1))
    (k : ∀ tx : String, tx = (toString "Index " ++ toString i ++ toString " out of bounds for length " ++ toString n : String) → vx_Note p l e R s m args below meth c H locs cells slots Q (F0 m pc ls rest) "java/lang/ArrayIndexOutOfBoundsException" tx) : W p l e R s m args below meth c H locs cells slots Q (F0 m pc ls (.int i :: .ref a :: rest)) := by
  intro T hT X
  obtain ⟨t, st, q⟩ := k _ rfl T hT X
  refine ⟨t, ?_, q⟩
  have h1 := X.faloadOut hexec (by rw [hT]; exact hP q0 _ ha) ((hK.2 t0 _ ht).1 n (fun j => .float (f j))) (j := i) (by show (i < 0 ∨ (arrV _ _ _).slots.size ≤ _); rw [arrV_size]; exact Classical.byContradiction hout) (g := F0 m pc ls (.int i :: .ref a :: rest)) rfl (rest := rest) rfl (by rw [hb]; exact hdg) t
  simp only [arrV_size] at h1
  exact h1 st
theorem vx_fastZ {D : va_G} {cl : List vw_C} {ws : va_W} {tys : List (ClassId × FieldType)} {a : Nat} (hexec : p.tables.exec = Jvm.exec) (hb : c.code = cc) (hK : va_K D cl tys s) (hP : va_P D cl ws H) (q0 t0 : Nat) {cA : ClassId} {n : Nat} {f : Nat → UInt32} (ha : ws[q0]? = some (a, .inl (cA, n, .inr (.inr (.inl f))))) (ht : tys[t0]? = some (cA, .float)) {i : Int32} {x : UInt32} (hout : ¬ vp_in i n) (hdg : decode cc pc = .ok (.fastore, 1))
    (k : ∀ tx : String, tx = (toString "Index " ++ toString i ++ toString " out of bounds for length " ++ toString n : String) → vx_Note p l e R s m args below meth c H locs cells slots Q (F0 m pc ls rest) "java/lang/ArrayIndexOutOfBoundsException" tx) : W p l e R s m args below meth c H locs cells slots Q (F0 m pc ls (.float x :: .int i :: .ref a :: rest)) := by
  intro T hT X
  obtain ⟨t, st, q⟩ := k _ rfl T hT X
  refine ⟨t, ?_, q⟩
  have h1 := X.fastoreOut hexec (by rw [hT]; exact hP q0 _ ha) ((hK.2 t0 _ ht).1 n (fun j => .float (f j))) (j := i) (by show (i < 0 ∨ (arrV _ _ _).slots.size ≤ _); rw [arrV_size]; exact Classical.byContradiction hout) (g := F0 m pc ls (.float x :: .int i :: .ref a :: rest)) rfl (rest := rest) rfl (by rw [hb]; exact hdg) t
  simp only [arrV_size] at h1
  exact h1 st
theorem vx_daldZ {D : va_G} {cl : List vw_C} {ws : va_W} {tys : List (ClassId × FieldType)} {a : Nat} (hexec : p.tables.exec = Jvm.exec) (hb : c.code = cc) (hK : va_K D cl tys s) (hP : va_P D cl ws H) (q0 t0 : Nat) {cA : ClassId} {n : Nat} {f : Nat → UInt64} (ha : ws[q0]? = some (a, .inl (cA, n, .inr (.inr (.inr (.inl f)))))) (ht : tys[t0]? = some (cA, .double)) {i : Int32} (hout : ¬ vp_in i n) (hdg : decode cc pc = .ok (.daload, 1))
    (k : ∀ tx : String, tx = (toString "Index " ++ toString i ++ toString " out of bounds for length " ++ toString n : String) → vx_Note p l e R s m args below meth c H locs cells slots Q (F0 m pc ls rest) "java/lang/ArrayIndexOutOfBoundsException" tx) : W p l e R s m args below meth c H locs cells slots Q (F0 m pc ls (.int i :: .ref a :: rest)) := by
  intro T hT X
  obtain ⟨t, st, q⟩ := k _ rfl T hT X
  refine ⟨t, ?_, q⟩
  have h1 := X.daloadOut hexec (by rw [hT]; exact hP q0 _ ha) ((hK.2 t0 _ ht).1 n (fun j => .double (f j))) (j := i) (by show (i < 0 ∨ (arrV _ _ _).slots.size ≤ _); rw [arrV_size]; exact Classical.byContradiction hout) (g := F0 m pc ls (.int i :: .ref a :: rest)) rfl (rest := rest) rfl (by rw [hb]; exact hdg) t
  simp only [arrV_size] at h1
  exact h1 st
theorem vx_dastZ {D : va_G} {cl : List vw_C} {ws : va_W} {tys : List (ClassId × FieldType)} {a : Nat} (hexec : p.tables.exec = Jvm.exec) (hb : c.code = cc) (hK : va_K D cl tys s) (hP : va_P D cl ws H) (q0 t0 : Nat) {cA : ClassId} {n : Nat} {f : Nat → UInt64} (ha : ws[q0]? = some (a, .inl (cA, n, .inr (.inr (.inr (.inl f)))))) (ht : tys[t0]? = some (cA, .double)) {i : Int32} {x : UInt64} (hout : ¬ vp_in i n) (hdg : decode cc pc = .ok (.dastore, 1))
    (k : ∀ tx : String, tx = (toString "Index " ++ toString i ++ toString " out of bounds for length " ++ toString n : String) → vx_Note p l e R s m args below meth c H locs cells slots Q (F0 m pc ls rest) "java/lang/ArrayIndexOutOfBoundsException" tx) : W p l e R s m args below meth c H locs cells slots Q (F0 m pc ls (.double x :: .int i :: .ref a :: rest)) := by
  intro T hT X
  obtain ⟨t, st, q⟩ := k _ rfl T hT X
  refine ⟨t, ?_, q⟩
  have h1 := X.dastoreOut hexec (by rw [hT]; exact hP q0 _ ha) ((hK.2 t0 _ ht).1 n (fun j => .double (f j))) (j := i) (by show (i < 0 ∨ (arrV _ _ _).slots.size ≤ _); rw [arrV_size]; exact Classical.byContradiction hout) (g := F0 m pc ls (.double x :: .int i :: .ref a :: rest)) rfl (rest := rest) rfl (by rw [hb]; exact hdg) t
  simp only [arrV_size] at h1
  exact h1 st
theorem vx_arraylengthN (hexec : p.tables.exec = Jvm.exec) (hb : c.code = cc) (hdg : decode cc pc = .ok (.arraylength, 1)) (k : vx_NoteN p l e R s m args below meth c H locs cells slots Q (F0 m pc ls rest)) : W p l e R s m args below meth c H locs cells slots Q (F0 m pc ls (.null :: rest)) := by
  intro T hT X
  obtain ⟨t, st, q⟩ := k T hT X
  exact ⟨t, X.arraylengthNull hexec (g := F0 m pc ls (.null :: rest)) rfl (rest := rest) rfl (by rw [hb]; exact hdg) t st, q⟩
theorem vx_ialoadN (hexec : p.tables.exec = Jvm.exec) (hb : c.code = cc) {i : Int32} (hdg : decode cc pc = .ok (.iaload, 1)) (k : vx_NoteN p l e R s m args below meth c H locs cells slots Q (F0 m pc ls rest)) : W p l e R s m args below meth c H locs cells slots Q (F0 m pc ls (.int i :: .null :: rest)) := by
  intro T hT X
  obtain ⟨t, st, q⟩ := k T hT X
  exact ⟨t, X.ialoadNull hexec (g := F0 m pc ls (.int i :: .null :: rest)) rfl (rest := rest) rfl (by rw [hb]; exact hdg) t st, q⟩
theorem vx_laloadN (hexec : p.tables.exec = Jvm.exec) (hb : c.code = cc) {i : Int32} (hdg : decode cc pc = .ok (.laload, 1)) (k : vx_NoteN p l e R s m args below meth c H locs cells slots Q (F0 m pc ls rest)) : W p l e R s m args below meth c H locs cells slots Q (F0 m pc ls (.int i :: .null :: rest)) := by
  intro T hT X
  obtain ⟨t, st, q⟩ := k T hT X
  exact ⟨t, X.laloadNull hexec (g := F0 m pc ls (.int i :: .null :: rest)) rfl (rest := rest) rfl (by rw [hb]; exact hdg) t st, q⟩
theorem vx_faloadN (hexec : p.tables.exec = Jvm.exec) (hb : c.code = cc) {i : Int32} (hdg : decode cc pc = .ok (.faload, 1)) (k : vx_NoteN p l e R s m args below meth c H locs cells slots Q (F0 m pc ls rest)) : W p l e R s m args below meth c H locs cells slots Q (F0 m pc ls (.int i :: .null :: rest)) := by
  intro T hT X
  obtain ⟨t, st, q⟩ := k T hT X
  exact ⟨t, X.faloadNull hexec (g := F0 m pc ls (.int i :: .null :: rest)) rfl (rest := rest) rfl (by rw [hb]; exact hdg) t st, q⟩
theorem vx_daloadN (hexec : p.tables.exec = Jvm.exec) (hb : c.code = cc) {i : Int32} (hdg : decode cc pc = .ok (.daload, 1)) (k : vx_NoteN p l e R s m args below meth c H locs cells slots Q (F0 m pc ls rest)) : W p l e R s m args below meth c H locs cells slots Q (F0 m pc ls (.int i :: .null :: rest)) := by
  intro T hT X
  obtain ⟨t, st, q⟩ := k T hT X
  exact ⟨t, X.daloadNull hexec (g := F0 m pc ls (.int i :: .null :: rest)) rfl (rest := rest) rfl (by rw [hb]; exact hdg) t st, q⟩
theorem vx_aaloadN (hexec : p.tables.exec = Jvm.exec) (hb : c.code = cc) {i : Int32} (hdg : decode cc pc = .ok (.aaload, 1)) (k : vx_NoteN p l e R s m args below meth c H locs cells slots Q (F0 m pc ls rest)) : W p l e R s m args below meth c H locs cells slots Q (F0 m pc ls (.int i :: .null :: rest)) := by
  intro T hT X
  obtain ⟨t, st, q⟩ := k T hT X
  exact ⟨t, X.aaloadNull hexec (g := F0 m pc ls (.int i :: .null :: rest)) rfl (rest := rest) rfl (by rw [hb]; exact hdg) t st, q⟩
theorem vx_baloadN (hexec : p.tables.exec = Jvm.exec) (hb : c.code = cc) {i : Int32} (hdg : decode cc pc = .ok (.baload, 1)) (k : vx_NoteN p l e R s m args below meth c H locs cells slots Q (F0 m pc ls rest)) : W p l e R s m args below meth c H locs cells slots Q (F0 m pc ls (.int i :: .null :: rest)) := by
  intro T hT X
  obtain ⟨t, st, q⟩ := k T hT X
  exact ⟨t, X.baloadNull hexec (g := F0 m pc ls (.int i :: .null :: rest)) rfl (rest := rest) rfl (by rw [hb]; exact hdg) t st, q⟩
theorem vx_caloadN (hexec : p.tables.exec = Jvm.exec) (hb : c.code = cc) {i : Int32} (hdg : decode cc pc = .ok (.caload, 1)) (k : vx_NoteN p l e R s m args below meth c H locs cells slots Q (F0 m pc ls rest)) : W p l e R s m args below meth c H locs cells slots Q (F0 m pc ls (.int i :: .null :: rest)) := by
  intro T hT X
  obtain ⟨t, st, q⟩ := k T hT X
  exact ⟨t, X.caloadNull hexec (g := F0 m pc ls (.int i :: .null :: rest)) rfl (rest := rest) rfl (by rw [hb]; exact hdg) t st, q⟩
theorem vx_saloadN (hexec : p.tables.exec = Jvm.exec) (hb : c.code = cc) {i : Int32} (hdg : decode cc pc = .ok (.saload, 1)) (k : vx_NoteN p l e R s m args below meth c H locs cells slots Q (F0 m pc ls rest)) : W p l e R s m args below meth c H locs cells slots Q (F0 m pc ls (.int i :: .null :: rest)) := by
  intro T hT X
  obtain ⟨t, st, q⟩ := k T hT X
  exact ⟨t, X.saloadNull hexec (g := F0 m pc ls (.int i :: .null :: rest)) rfl (rest := rest) rfl (by rw [hb]; exact hdg) t st, q⟩
theorem vx_iastoreN (hexec : p.tables.exec = Jvm.exec) (hb : c.code = cc) {x : Int32} {i : Int32} (hdg : decode cc pc = .ok (.iastore, 1)) (k : vx_NoteN p l e R s m args below meth c H locs cells slots Q (F0 m pc ls rest)) : W p l e R s m args below meth c H locs cells slots Q (F0 m pc ls (.int x :: .int i :: .null :: rest)) := by
  intro T hT X
  obtain ⟨t, st, q⟩ := k T hT X
  exact ⟨t, X.iastoreNull hexec (g := F0 m pc ls (.int x :: .int i :: .null :: rest)) rfl (rest := rest) rfl (by rw [hb]; exact hdg) t st, q⟩
theorem vx_lastoreN (hexec : p.tables.exec = Jvm.exec) (hb : c.code = cc) {x : Int64} {i : Int32} (hdg : decode cc pc = .ok (.lastore, 1)) (k : vx_NoteN p l e R s m args below meth c H locs cells slots Q (F0 m pc ls rest)) : W p l e R s m args below meth c H locs cells slots Q (F0 m pc ls (.long x :: .int i :: .null :: rest)) := by
  intro T hT X
  obtain ⟨t, st, q⟩ := k T hT X
  exact ⟨t, X.lastoreNull hexec (g := F0 m pc ls (.long x :: .int i :: .null :: rest)) rfl (rest := rest) rfl (by rw [hb]; exact hdg) t st, q⟩
theorem vx_fastoreN (hexec : p.tables.exec = Jvm.exec) (hb : c.code = cc) {x : UInt32} {i : Int32} (hdg : decode cc pc = .ok (.fastore, 1)) (k : vx_NoteN p l e R s m args below meth c H locs cells slots Q (F0 m pc ls rest)) : W p l e R s m args below meth c H locs cells slots Q (F0 m pc ls (.float x :: .int i :: .null :: rest)) := by
  intro T hT X
  obtain ⟨t, st, q⟩ := k T hT X
  exact ⟨t, X.fastoreNull hexec (g := F0 m pc ls (.float x :: .int i :: .null :: rest)) rfl (rest := rest) rfl (by rw [hb]; exact hdg) t st, q⟩
theorem vx_dastoreN (hexec : p.tables.exec = Jvm.exec) (hb : c.code = cc) {x : UInt64} {i : Int32} (hdg : decode cc pc = .ok (.dastore, 1)) (k : vx_NoteN p l e R s m args below meth c H locs cells slots Q (F0 m pc ls rest)) : W p l e R s m args below meth c H locs cells slots Q (F0 m pc ls (.double x :: .int i :: .null :: rest)) := by
  intro T hT X
  obtain ⟨t, st, q⟩ := k T hT X
  exact ⟨t, X.dastoreNull hexec (g := F0 m pc ls (.double x :: .int i :: .null :: rest)) rfl (rest := rest) rfl (by rw [hb]; exact hdg) t st, q⟩
theorem vx_bastoreN (hexec : p.tables.exec = Jvm.exec) (hb : c.code = cc) {x : Int32} {i : Int32} (hdg : decode cc pc = .ok (.bastore, 1)) (k : vx_NoteN p l e R s m args below meth c H locs cells slots Q (F0 m pc ls rest)) : W p l e R s m args below meth c H locs cells slots Q (F0 m pc ls (.int x :: .int i :: .null :: rest)) := by
  intro T hT X
  obtain ⟨t, st, q⟩ := k T hT X
  exact ⟨t, X.bastoreNull hexec (g := F0 m pc ls (.int x :: .int i :: .null :: rest)) rfl (rest := rest) rfl (by rw [hb]; exact hdg) t st, q⟩
theorem vx_castoreN (hexec : p.tables.exec = Jvm.exec) (hb : c.code = cc) {x : Int32} {i : Int32} (hdg : decode cc pc = .ok (.castore, 1)) (k : vx_NoteN p l e R s m args below meth c H locs cells slots Q (F0 m pc ls rest)) : W p l e R s m args below meth c H locs cells slots Q (F0 m pc ls (.int x :: .int i :: .null :: rest)) := by
  intro T hT X
  obtain ⟨t, st, q⟩ := k T hT X
  exact ⟨t, X.castoreNull hexec (g := F0 m pc ls (.int x :: .int i :: .null :: rest)) rfl (rest := rest) rfl (by rw [hb]; exact hdg) t st, q⟩
theorem vx_sastoreN (hexec : p.tables.exec = Jvm.exec) (hb : c.code = cc) {x : Int32} {i : Int32} (hdg : decode cc pc = .ok (.sastore, 1)) (k : vx_NoteN p l e R s m args below meth c H locs cells slots Q (F0 m pc ls rest)) : W p l e R s m args below meth c H locs cells slots Q (F0 m pc ls (.int x :: .int i :: .null :: rest)) := by
  intro T hT X
  obtain ⟨t, st, q⟩ := k T hT X
  exact ⟨t, X.sastoreNull hexec (g := F0 m pc ls (.int x :: .int i :: .null :: rest)) rfl (rest := rest) rfl (by rw [hb]; exact hdg) t st, q⟩
theorem vx_invokeN {own C : String} {index maxL : Nat} {y : MethodName} {bytes : ByteArray} {ret : Option FieldType} (hexec : p.tables.exec = Jvm.exec) (hb : c.code = cc) (hown : s.vm.findClass own = some m.cls) (hlink : (Cond.methodLink own index y).before args s = true) (hinst : (Cond.instanceMethod y).before args s = true) (hcode : (Cond.code y bytes maxL ret).before args s = true) (hsel : (Cond.selects C y y).before args s = true)
    (hx : y.cls ≠ "java/lang/invoke/MethodHandle" ∧ y.cls ≠ "java/lang/invoke/VarHandle") {As : List Value} (hlen : (parseMethodDescriptor y.desc).map (fun d => d.parameters.length) = some As.length) (hdg : decode cc pc = .ok (.invokevirtual index, 3))
    (k : vx_NoteN p l e R s m args below meth c H locs cells slots Q (F0 m pc ls rest)) {st0 : List Value} (hst : st0 = As.reverse ++ .null :: rest) : W p l e R s m args below meth c H locs cells slots Q (F0 m pc ls st0) := by
  intro T hT X
  obtain ⟨r0, r, hn, hrm, hstR, hsigR⟩ := va_Decl.of hinst hcode
  obtain ⟨c2, r2, m2, q1, q2, q3, q4, kP, hkP, hkPi⟩ := Cond.selects_spec hsel
  cases hn.symm.trans q3
  have hl9 : As.length = r.sig.parameters.length := by
    rw [hsigR] at hlen
    exact (Option.some.inj hlen).symm
  obtain ⟨vm', X1, st1⟩ := X.invokevirtualNull hexec hown hlink hn hrm hstR hkP hkPi hx (g := F0 m pc ls st0) rfl (argsL := As) (rest := rest) hl9 hst (by rw [hb]; exact hdg)
  obtain ⟨t, st, q⟩ := k (T.setVm vm') hT X1
  exact ⟨t, st1 t st, q⟩
theorem vx_newarrayZ {atype : ArrayType} (hexec : p.tables.exec = Jvm.exec) (hb : c.code = cc) {n : Int32} (h0 : n < 0) (hdg : decode cc pc = .ok (.newarray atype, 2)) (k : ∀ tx : String, tx = toString n → vx_Note p l e R s m args below meth c H locs cells slots Q (F0 m pc ls rest) "java/lang/NegativeArraySizeException" tx) : W p l e R s m args below meth c H locs cells slots Q (F0 m pc ls (.int n :: rest)) := by
  intro T hT X
  obtain ⟨t, st, q⟩ := k _ rfl T hT X
  exact ⟨t, X.newarrayNegative hexec (g := F0 m pc ls (.int n :: rest)) rfl h0 (rest := rest) rfl (by rw [hb]; exact hdg) t st, q⟩
end
end VXM
/-! ===== END ===== -/
end
section
/-! ===== BEGIN printed: names, fields, word lists, decode rows ===== -/
def RX0 : String := "Tenonyard$Cutting"
def TX0 : u_T := fun k => match k with
  | 0 => ("Tenonyard$Cutting", "count", "I", false)
  | 1 => ("Tenonyard$Cutting", "isFound", "Z", false)
  | 2 => ("Tenonyard$Cutting", "canCut", "Z", false)
  | 3 => ("Tenonyard$Cutting", "usedLength", "I", false)
  | 4 => ("Tenonyard$Cutting", "chosen", "[I", true)
  | 5 => ("Tenonyard$Cutting", "lengths", "[I", true)
  | 6 => ("Tenonyard$Cutting", "breadths", "[I", true)
  | 7 => ("Tenonyard$Cutting", "grades", "[I", true)
  | 8 => ("Tenonyard$Cutting", "spans", "[I", true)
  | 9 => ("Tenonyard$Cutting", "weights", "[I", true)
  | _ => ("Tenonyard$Cutting", "costs", "[J", true)
def tyX0 : Nat → FieldType := fun k => match k with
  | 0 => .int
  | 1 => .boolean
  | 2 => .boolean
  | 3 => .int
  | 4 => .array .int
  | 5 => .array .int
  | 6 => .array .int
  | 7 => .array .int
  | 8 => .array .int
  | 9 => .array .int
  | _ => .array .long
abbrev wsX00 : List Cond := u_ws RX0 TX0 11
theorem nmX0 : ∀ a, a < 11 → ∀ b, b < 11 → a ≠ b → (TX0 a).2.1 ≠ (TX0 b).2.1 := by decide +kernel
theorem tyX0_ok : ∀ k, k < 11 → parseFieldDescriptor (TX0 k).2.2.1 = some (tyX0 k) := by decide +kernel
abbrev cX0_init : ByteArray := prog_2_method_1_code
def yX0_init : MethodName := ⟨RX0, "<init>", "()V"⟩
abbrev cX0_add : ByteArray := prog_2_method_2_code
def yX0_add : MethodName := ⟨RX0, "add", "(III)I"⟩
abbrev cX0_pieceLength : ByteArray := prog_2_method_3_code
def yX0_pieceLength : MethodName := ⟨RX0, "pieceLength", "(ILTenonyard$Frame;LTenonyard$Joinery;)I"⟩
abbrev cX0_find : ByteArray := prog_2_method_4_code
def yX0_find : MethodName := ⟨RX0, "find", "(LTenonyard$Frame;LTenonyard$Joinery;)V"⟩
abbrev cX0_measure : ByteArray := prog_2_method_5_code
def yX0_measure : MethodName := ⟨RX0, "measure", "(LTenonyard$Frame;LTenonyard$Joinery;)V"⟩
abbrev cX0_fitting : ByteArray := prog_2_method_6_code
def yX0_fitting : MethodName := ⟨RX0, "fitting", "(ILTenonyard$Frame;)I"⟩
abbrev cX0_offer : ByteArray := prog_2_method_7_code
def yX0_offer : MethodName := ⟨RX0, "offer", "(III)V"⟩
abbrev cX0_choose : ByteArray := prog_2_method_8_code
def yX0_choose : MethodName := ⟨RX0, "choose", "(J)V"⟩
abbrev cX0_leftOf : ByteArray := prog_2_method_9_code
def yX0_leftOf : MethodName := ⟨RX0, "leftOf", "(II)I"⟩
def RX1 : String := "Tenonyard$Forces"
def TX1 : u_T := fun k => match k with
  | 0 => ("Tenonyard$Forces", "isFound", "Z", false)
  | 1 => ("Tenonyard$Forces", "outcome", "C", false)
  | 2 => ("Tenonyard$Forces", "divisor", "J", false)
  | 3 => ("Tenonyard$Forces", "wholes", "[J", true)
  | 4 => ("Tenonyard$Forces", "rests", "[J", true)
  | 5 => ("Tenonyard$Forces", "amounts", "[J", true)
  | 6 => ("Tenonyard$Forces", "ways", "[I", true)
  | 7 => ("Tenonyard$Forces", "highAsked", "[I", true)
  | 8 => ("Tenonyard$Forces", "lowAsked", "[I", true)
  | 9 => ("Tenonyard$Forces", "plain", "[J", true)
  | 10 => ("Tenonyard$Forces", "high", "[J", true)
  | 11 => ("Tenonyard$Forces", "low", "[J", true)
  | 12 => ("Tenonyard$Forces", "factor", "LTenonyard$Wide;", true)
  | 13 => ("Tenonyard$Forces", "wideDivisor", "LTenonyard$Wide;", true)
  | 14 => ("Tenonyard$Forces", "product", "LTenonyard$Wide;", true)
  | 15 => ("Tenonyard$Forces", "square", "LTenonyard$Wide;", true)
  | _ => ("Tenonyard$Forces", "greatestSquare", "LTenonyard$Wide;", true)
def tyX1 : Nat → FieldType := fun k => match k with
  | 0 => .boolean
  | 1 => .char
  | 2 => .long
  | 3 => .array .long
  | 4 => .array .long
  | 5 => .array .long
  | 6 => .array .int
  | 7 => .array .int
  | 8 => .array .int
  | 9 => .array .long
  | 10 => .array .long
  | 11 => .array .long
  | 12 => .object "Tenonyard$Wide"
  | 13 => .object "Tenonyard$Wide"
  | 14 => .object "Tenonyard$Wide"
  | 15 => .object "Tenonyard$Wide"
  | _ => .object "Tenonyard$Wide"
abbrev wsX10 : List Cond := u_ws RX1 TX1 17
theorem nmX1 : ∀ a, a < 17 → ∀ b, b < 17 → a ≠ b → (TX1 a).2.1 ≠ (TX1 b).2.1 := by decide +kernel
theorem tyX1_ok : ∀ k, k < 17 → parseFieldDescriptor (TX1 k).2.2.1 = some (tyX1 k) := by decide +kernel
abbrev cX1_init : ByteArray := prog_3_method_1_code
def yX1_init : MethodName := ⟨RX1, "<init>", "()V"⟩
abbrev cX1_bearingIndex : ByteArray := prog_3_method_2_code
def yX1_bearingIndex : MethodName := ⟨RX1, "bearingIndex", "(II)I"⟩
abbrev cX1_find : ByteArray := prog_3_method_3_code
def yX1_find : MethodName := ⟨RX1, "find", "(LTenonyard$Frame;)V"⟩
abbrev cX1_findPulls : ByteArray := prog_3_method_4_code
def yX1_findPulls : MethodName := ⟨RX1, "findPulls", "(LTenonyard$Frame;)C"⟩
abbrev cX1_fillRows : ByteArray := prog_3_method_5_code
def yX1_fillRows : MethodName := ⟨RX1, "fillRows", "(LTenonyard$Frame;)V"⟩
abbrev cX1_findDeterminants : ByteArray := prog_3_method_6_code
def yX1_findDeterminants : MethodName := ⟨RX1, "findDeterminants", "(I)V"⟩
abbrev cX1_expanded : ByteArray := prog_3_method_7_code
def yX1_expanded : MethodName := ⟨RX1, "expanded", "([JII)J"⟩
abbrev cX1_setPull : ByteArray := prog_3_method_8_code
def yX1_setPull : MethodName := ⟨RX1, "setPull", "(III)V"⟩
abbrev cX1_carry : ByteArray := prog_3_method_9_code
def yX1_carry : MethodName := ⟨RX1, "carry", "(I)V"⟩
abbrev cX1_findBearings : ByteArray := prog_3_method_10_code
def yX1_findBearings : MethodName := ⟨RX1, "findBearings", "(LTenonyard$Frame;)V"⟩
abbrev cX1_findAmounts : ByteArray := prog_3_method_11_code
def yX1_findAmounts : MethodName := ⟨RX1, "findAmounts", "(LTenonyard$Frame;)V"⟩
abbrev cX1_timesLength : ByteArray := prog_3_method_12_code
def yX1_timesLength : MethodName := ⟨RX1, "timesLength", "(JJI)J"⟩
abbrev cX1_thousandths : ByteArray := prog_3_method_13_code
def yX1_thousandths : MethodName := ⟨RX1, "thousandths", "(I)J"⟩
abbrev cX1_restInThousandths : ByteArray := prog_3_method_14_code
def yX1_restInThousandths : MethodName := ⟨RX1, "restInThousandths", "(I)J"⟩
abbrev cX1_sumOfThousandths : ByteArray := prog_3_method_15_code
def yX1_sumOfThousandths : MethodName := ⟨RX1, "sumOfThousandths", "(I)D"⟩
abbrev cX1_holdsAt : ByteArray := prog_3_method_16_code
def yX1_holdsAt : MethodName := ⟨RX1, "holdsAt", "(LTenonyard$Frame;I)Z"⟩
abbrev cX1_holdsAlong : ByteArray := prog_3_method_17_code
def yX1_holdsAlong : MethodName := ⟨RX1, "holdsAlong", "(LTenonyard$Frame;II)Z"⟩
def RX2 : String := "Tenonyard$Frame"
def TX2 : u_T := fun k => match k with
  | 0 => ("Tenonyard$Frame", "nodes", "I", false)
  | 1 => ("Tenonyard$Frame", "members", "I", false)
  | 2 => ("Tenonyard$Frame", "places", "[I", true)
  | 3 => ("Tenonyard$Frame", "loads", "[I", true)
  | 4 => ("Tenonyard$Frame", "loadCounts", "[I", true)
  | 5 => ("Tenonyard$Frame", "kinds", "[C", true)
  | 6 => ("Tenonyard$Frame", "firstNodes", "[I", true)
  | 7 => ("Tenonyard$Frame", "secondNodes", "[I", true)
  | 8 => ("Tenonyard$Frame", "breadths", "[I", true)
  | 9 => ("Tenonyard$Frame", "grades", "[I", true)
  | 10 => ("Tenonyard$Frame", "cutMoistures", "[I", true)
  | _ => ("Tenonyard$Frame", "driedMoistures", "[I", true)
def tyX2 : Nat → FieldType := fun k => match k with
  | 0 => .int
  | 1 => .int
  | 2 => .array .int
  | 3 => .array .int
  | 4 => .array .int
  | 5 => .array .char
  | 6 => .array .int
  | 7 => .array .int
  | 8 => .array .int
  | 9 => .array .int
  | 10 => .array .int
  | _ => .array .int
abbrev wsX20 : List Cond := u_ws RX2 TX2 12
theorem nmX2 : ∀ a, a < 12 → ∀ b, b < 12 → a ≠ b → (TX2 a).2.1 ≠ (TX2 b).2.1 := by decide +kernel
theorem tyX2_ok : ∀ k, k < 12 → parseFieldDescriptor (TX2 k).2.2.1 = some (tyX2 k) := by decide +kernel
abbrev cX2_init : ByteArray := prog_4_method_1_code
def yX2_init : MethodName := ⟨RX2, "<init>", "()V"⟩
abbrev cX2_addNode : ByteArray := prog_4_method_2_code
def yX2_addNode : MethodName := ⟨RX2, "addNode", "(IIC)I"⟩
abbrev cX2_addMember : ByteArray := prog_4_method_3_code
def yX2_addMember : MethodName := ⟨RX2, "addMember", "(IIII)I"⟩
abbrev cX2_addLoad : ByteArray := prog_4_method_4_code
def yX2_addLoad : MethodName := ⟨RX2, "addLoad", "(III)I"⟩
abbrev cX2_isOnePlace : ByteArray := prog_4_method_5_code
def yX2_isOnePlace : MethodName := ⟨RX2, "isOnePlace", "(II)Z"⟩
abbrev cX2_isBorne : ByteArray := prog_4_method_6_code
def yX2_isBorne : MethodName := ⟨RX2, "isBorne", "(II)Z"⟩
abbrev cX2_otherEnd : ByteArray := prog_4_method_7_code
def yX2_otherEnd : MethodName := ⟨RX2, "otherEnd", "(II)I"⟩
abbrev cX2_haveCommonNode : ByteArray := prog_4_method_8_code
def yX2_haveCommonNode : MethodName := ⟨RX2, "haveCommonNode", "(II)Z"⟩
abbrev cX2_wayAlong : ByteArray := prog_4_method_9_code
def yX2_wayAlong : MethodName := ⟨RX2, "wayAlong", "(III)I"⟩
abbrev cX2_lengthSquare : ByteArray := prog_4_method_10_code
def yX2_lengthSquare : MethodName := ⟨RX2, "lengthSquare", "(I)I"⟩
abbrev cX2_isOnGround : ByteArray := prog_4_method_11_code
def yX2_isOnGround : MethodName := ⟨RX2, "isOnGround", "(I)Z"⟩
def RX3 : String := "Tenonyard$Joinery"
def TX3 : u_T := fun k => match k with
  | 0 => ("Tenonyard$Joinery", "count", "I", false)
  | 1 => ("Tenonyard$Joinery", "goingIn", "[I", true)
  | 2 => ("Tenonyard$Joinery", "receiving", "[I", true)
  | 3 => ("Tenonyard$Joinery", "ways", "[I", true)
  | 4 => ("Tenonyard$Joinery", "thicknesses", "[I", true)
  | _ => ("Tenonyard$Joinery", "marks", "[I", true)
def tyX3 : Nat → FieldType := fun k => match k with
  | 0 => .int
  | 1 => .array .int
  | 2 => .array .int
  | 3 => .array .int
  | 4 => .array .int
  | _ => .array .int
abbrev wsX30 : List Cond := u_ws RX3 TX3 6
theorem nmX3 : ∀ a, a < 6 → ∀ b, b < 6 → a ≠ b → (TX3 a).2.1 ≠ (TX3 b).2.1 := by decide +kernel
theorem tyX3_ok : ∀ k, k < 6 → parseFieldDescriptor (TX3 k).2.2.1 = some (tyX3 k) := by decide +kernel
abbrev cX3_init : ByteArray := prog_5_method_1_code
def yX3_init : MethodName := ⟨RX3, "<init>", "()V"⟩
abbrev cX3_wayIndex : ByteArray := prog_5_method_2_code
def yX3_wayIndex : MethodName := ⟨RX3, "wayIndex", "(C)I"⟩
abbrev cX3_add : ByteArray := prog_5_method_3_code
def yX3_add : MethodName := ⟨RX3, "add", "(IIIII)I"⟩
abbrev cX3_areJoined : ByteArray := prog_5_method_4_code
def yX3_areJoined : MethodName := ⟨RX3, "areJoined", "(II)Z"⟩
abbrev cX3_partner : ByteArray := prog_5_method_5_code
def yX3_partner : MethodName := ⟨RX3, "partner", "(II)I"⟩
abbrev cX3_wayFor : ByteArray := prog_5_method_6_code
def yX3_wayFor : MethodName := ⟨RX3, "wayFor", "(II)I"⟩
abbrev cX3_joinsGoingIn : ByteArray := prog_5_method_7_code
def yX3_joinsGoingIn : MethodName := ⟨RX3, "joinsGoingIn", "(I)I"⟩
abbrev cX3_isThinEnough : ByteArray := prog_5_method_8_code
def yX3_isThinEnough : MethodName := ⟨RX3, "isThinEnough", "(ILTenonyard$Frame;)Z"⟩
abbrev cX3_misreadMark : ByteArray := prog_5_method_9_code
def yX3_misreadMark : MethodName := ⟨RX3, "misreadMark", "(I)I"⟩
abbrev cX3_canBeConfused : ByteArray := prog_5_method_10_code
def yX3_canBeConfused : MethodName := ⟨RX3, "canBeConfused", "(II)Z"⟩
abbrev cX3_opening : ByteArray := prog_5_method_11_code
def yX3_opening : MethodName := ⟨RX3, "opening", "(ILTenonyard$Frame;)I"⟩
def RX4 : String := "Tenonyard$Raising"
def TX4 : u_T := fun k => match k with
  | 0 => ("Tenonyard$Raising", "limit", "I", false)
  | 1 => ("Tenonyard$Raising", "isFound", "Z", false)
  | 2 => ("Tenonyard$Raising", "all", "I", false)
  | 3 => ("Tenonyard$Raising", "hanging", "I", false)
  | 4 => ("Tenonyard$Raising", "asking", "[I", true)
  | 5 => ("Tenonyard$Raising", "joined", "[I", true)
  | 6 => ("Tenonyard$Raising", "orderCounts", "[I", true)
  | 7 => ("Tenonyard$Raising", "leadsToAll", "[Z", true)
  | _ => ("Tenonyard$Raising", "order", "[I", true)
def tyX4 : Nat → FieldType := fun k => match k with
  | 0 => .int
  | 1 => .boolean
  | 2 => .int
  | 3 => .int
  | 4 => .array .int
  | 5 => .array .int
  | 6 => .array .int
  | 7 => .array .boolean
  | _ => .array .int
abbrev wsX40 : List Cond := u_ws RX4 TX4 9
theorem nmX4 : ∀ a, a < 9 → ∀ b, b < 9 → a ≠ b → (TX4 a).2.1 ≠ (TX4 b).2.1 := by decide +kernel
theorem tyX4_ok : ∀ k, k < 9 → parseFieldDescriptor (TX4 k).2.2.1 = some (tyX4 k) := by decide +kernel
abbrev cX4_init : ByteArray := prog_6_method_1_code
def yX4_init : MethodName := ⟨RX4, "<init>", "()V"⟩
abbrev cX4_orderCount : ByteArray := prog_6_method_2_code
def yX4_orderCount : MethodName := ⟨RX4, "orderCount", "()I"⟩
abbrev cX4_find : ByteArray := prog_6_method_3_code
def yX4_find : MethodName := ⟨RX4, "find", "(LTenonyard$Frame;LTenonyard$Joinery;)V"⟩
abbrev cX4_gather : ByteArray := prog_6_method_4_code
def yX4_gather : MethodName := ⟨RX4, "gather", "(LTenonyard$Frame;LTenonyard$Joinery;)V"⟩
abbrev cX4_canMoveIn : ByteArray := prog_6_method_5_code
def yX4_canMoveIn : MethodName := ⟨RX4, "canMoveIn", "(II)Z"⟩
abbrev cX4_propsFor : ByteArray := prog_6_method_6_code
def yX4_propsFor : MethodName := ⟨RX4, "propsFor", "(I)I"⟩
abbrev cX4_goForward : ByteArray := prog_6_method_7_code
def yX4_goForward : MethodName := ⟨RX4, "goForward", "(I)V"⟩
abbrev cX4_goBackward : ByteArray := prog_6_method_8_code
def yX4_goBackward : MethodName := ⟨RX4, "goBackward", "(I)V"⟩
abbrev cX4_findOrder : ByteArray := prog_6_method_9_code
def yX4_findOrder : MethodName := ⟨RX4, "findOrder", "(I)V"⟩
abbrev cX4_firstThatLeads : ByteArray := prog_6_method_10_code
def yX4_firstThatLeads : MethodName := ⟨RX4, "firstThatLeads", "(II)I"⟩
abbrev cX4_lowestStuck : ByteArray := prog_6_method_11_code
def yX4_lowestStuck : MethodName := ⟨RX4, "lowestStuck", "()I"⟩
def RX5 : String := "Tenonyard$Wide"
def TX5 : u_T := fun k => match k with
  | _ => ("Tenonyard$Wide", "parts", "[J", true)
def tyX5 : Nat → FieldType := fun k => match k with
  | _ => .array .long
abbrev wsX50 : List Cond := u_ws RX5 TX5 1
theorem nmX5 : ∀ a, a < 1 → ∀ b, b < 1 → a ≠ b → (TX5 a).2.1 ≠ (TX5 b).2.1 := by decide +kernel
theorem tyX5_ok : ∀ k, k < 1 → parseFieldDescriptor (TX5 k).2.2.1 = some (tyX5 k) := by decide +kernel
abbrev cX5_init : ByteArray := prog_7_method_1_code
def yX5_init : MethodName := ⟨RX5, "<init>", "()V"⟩
abbrev cX5_set : ByteArray := prog_7_method_2_code
def yX5_set : MethodName := ⟨RX5, "set", "(J)V"⟩
abbrev cX5_add : ByteArray := prog_7_method_3_code
def yX5_add : MethodName := ⟨RX5, "add", "(J)V"⟩
abbrev cX5_setProduct : ByteArray := prog_7_method_4_code
def yX5_setProduct : MethodName := ⟨RX5, "setProduct", "(LTenonyard$Wide;LTenonyard$Wide;)V"⟩
abbrev cX5_isAtMost : ByteArray := prog_7_method_5_code
def yX5_isAtMost : MethodName := ⟨RX5, "isAtMost", "(LTenonyard$Wide;)Z"⟩
def RX6 : String := "Tenonyard"
def TX6 : u_T := fun k => match k with
  | 0 => ("Tenonyard", "frame", "LTenonyard$Frame;", true)
  | 1 => ("Tenonyard", "forces", "LTenonyard$Forces;", true)
  | 2 => ("Tenonyard", "joinery", "LTenonyard$Joinery;", true)
  | 3 => ("Tenonyard", "cutting", "LTenonyard$Cutting;", true)
  | _ => ("Tenonyard", "raising", "LTenonyard$Raising;", true)
def tyX6 : Nat → FieldType := fun k => match k with
  | 0 => .object "Tenonyard$Frame"
  | 1 => .object "Tenonyard$Forces"
  | 2 => .object "Tenonyard$Joinery"
  | 3 => .object "Tenonyard$Cutting"
  | _ => .object "Tenonyard$Raising"
abbrev wsX60 : List Cond := u_ws RX6 TX6 5
theorem nmX6 : ∀ a, a < 5 → ∀ b, b < 5 → a ≠ b → (TX6 a).2.1 ≠ (TX6 b).2.1 := by decide +kernel
theorem tyX6_ok : ∀ k, k < 5 → parseFieldDescriptor (TX6 k).2.2.1 = some (tyX6 k) := by decide +kernel
abbrev cX6_init : ByteArray := prog_1_method_1_code
def yX6_init : MethodName := ⟨RX6, "<init>", "()V"⟩
abbrev cX6_node : ByteArray := prog_1_method_2_code
def yX6_node : MethodName := ⟨RX6, "node", "(IIC)I"⟩
abbrev cX6_member : ByteArray := prog_1_method_3_code
def yX6_member : MethodName := ⟨RX6, "member", "(IIII)I"⟩
abbrev cX6_load : ByteArray := prog_1_method_4_code
def yX6_load : MethodName := ⟨RX6, "load", "(III)I"⟩
abbrev cX6_state : ByteArray := prog_1_method_5_code
def yX6_state : MethodName := ⟨RX6, "state", "()C"⟩
abbrev cX6_force : ByteArray := prog_1_method_6_code
def yX6_force : MethodName := ⟨RX6, "force", "(I)J"⟩
abbrev cX6_pull : ByteArray := prog_1_method_7_code
def yX6_pull : MethodName := ⟨RX6, "pull", "(I)J"⟩
abbrev cX6_bearing : ByteArray := prog_1_method_8_code
def yX6_bearing : MethodName := ⟨RX6, "bearing", "(IZ)J"⟩
abbrev cX6_isBalanced : ByteArray := prog_1_method_9_code
def yX6_isBalanced : MethodName := ⟨RX6, "isBalanced", "(I)Z"⟩
abbrev cX6_weakest : ByteArray := prog_1_method_10_code
def yX6_weakest : MethodName := ⟨RX6, "weakest", "()I"⟩
abbrev cX6_joint : ByteArray := prog_1_method_11_code
def yX6_joint : MethodName := ⟨RX6, "joint", "(IICII)I"⟩
abbrev cX6_isRight : ByteArray := prog_1_method_12_code
def yX6_isRight : MethodName := ⟨RX6, "isRight", "(I)Z"⟩
abbrev cX6_misread : ByteArray := prog_1_method_13_code
def yX6_misread : MethodName := ⟨RX6, "misread", "(I)I"⟩
abbrev cX6_clashes : ByteArray := prog_1_method_14_code
def yX6_clashes : MethodName := ⟨RX6, "clashes", "()I"⟩
abbrev cX6_cutAt : ByteArray := prog_1_method_15_code
def yX6_cutAt : MethodName := ⟨RX6, "cutAt", "(II)I"⟩
abbrev cX6_dry : ByteArray := prog_1_method_16_code
def yX6_dry : MethodName := ⟨RX6, "dry", "(II)I"⟩
abbrev cX6_gap : ByteArray := prog_1_method_17_code
def yX6_gap : MethodName := ⟨RX6, "gap", "(I)I"⟩
abbrev cX6_widest : ByteArray := prog_1_method_18_code
def yX6_widest : MethodName := ⟨RX6, "widest", "()I"⟩
abbrev cX6_stick : ByteArray := prog_1_method_19_code
def yX6_stick : MethodName := ⟨RX6, "stick", "(III)I"⟩
abbrev cX6_piece : ByteArray := prog_1_method_20_code
def yX6_piece : MethodName := ⟨RX6, "piece", "(I)I"⟩
abbrev cX6_stickOf : ByteArray := prog_1_method_21_code
def yX6_stickOf : MethodName := ⟨RX6, "stickOf", "(I)I"⟩
abbrev cX6_wood : ByteArray := prog_1_method_22_code
def yX6_wood : MethodName := ⟨RX6, "wood", "()I"⟩
abbrev cX6_waste : ByteArray := prog_1_method_23_code
def yX6_waste : MethodName := ⟨RX6, "waste", "(I)I"⟩
abbrev cX6_setProps : ByteArray := prog_1_method_24_code
def yX6_setProps : MethodName := ⟨RX6, "setProps", "(I)I"⟩
abbrev cX6_raised : ByteArray := prog_1_method_25_code
def yX6_raised : MethodName := ⟨RX6, "raised", "(I)I"⟩
abbrev cX6_canRaise : ByteArray := prog_1_method_26_code
def yX6_canRaise : MethodName := ⟨RX6, "canRaise", "()Z"⟩
abbrev cX6_canTakeAway : ByteArray := prog_1_method_27_code
def yX6_canTakeAway : MethodName := ⟨RX6, "canTakeAway", "()Z"⟩
abbrev cX6_orders : ByteArray := prog_1_method_28_code
def yX6_orders : MethodName := ⟨RX6, "orders", "()I"⟩
abbrev cX6_props : ByteArray := prog_1_method_29_code
def yX6_props : MethodName := ⟨RX6, "props", "(I)I"⟩
abbrev cX6_stuck : ByteArray := prog_1_method_30_code
def yX6_stuck : MethodName := ⟨RX6, "stuck", "()I"⟩
abbrev cX6_allForce : ByteArray := prog_1_method_31_code
def yX6_allForce : MethodName := ⟨RX6, "allForce", "()J"⟩
abbrev cX6_rightShare : ByteArray := prog_1_method_32_code
def yX6_rightShare : MethodName := ⟨RX6, "rightShare", "()F"⟩
abbrev cX6_meanPull : ByteArray := prog_1_method_33_code
def yX6_meanPull : MethodName := ⟨RX6, "meanPull", "()D"⟩
abbrev cX6_isSound : ByteArray := prog_1_method_34_code
def yX6_isSound : MethodName := ⟨RX6, "isSound", "()Z"⟩
abbrev cX6_isWithin : ByteArray := prog_1_method_35_code
def yX6_isWithin : MethodName := ⟨RX6, "isWithin", "(III)Z"⟩
abbrev cX6_isSection : ByteArray := prog_1_method_36_code
def yX6_isSection : MethodName := ⟨RX6, "isSection", "(II)Z"⟩
abbrev cX6_checkNode : ByteArray := prog_1_method_37_code
def yX6_checkNode : MethodName := ⟨RX6, "checkNode", "(I)V"⟩
abbrev cX6_checkMember : ByteArray := prog_1_method_38_code
def yX6_checkMember : MethodName := ⟨RX6, "checkMember", "(I)V"⟩
abbrev cX6_checkJoint : ByteArray := prog_1_method_39_code
def yX6_checkJoint : MethodName := ⟨RX6, "checkJoint", "(I)V"⟩
abbrev cX6_checkMoisture : ByteArray := prog_1_method_40_code
def yX6_checkMoisture : MethodName := ⟨RX6, "checkMoisture", "(I)V"⟩
abbrev cX6_checkStanding : ByteArray := prog_1_method_41_code
def yX6_checkStanding : MethodName := ⟨RX6, "checkStanding", "()V"⟩
abbrev cX6_checkCut : ByteArray := prog_1_method_42_code
def yX6_checkCut : MethodName := ⟨RX6, "checkCut", "()V"⟩
abbrev cX6_checkPlaceInOrder : ByteArray := prog_1_method_43_code
def yX6_checkPlaceInOrder : MethodName := ⟨RX6, "checkPlaceInOrder", "(I)V"⟩
def RX7 : String := "TenonyardModel$Joint"
def TX7 : u_T := fun k => match k with
  | 0 => ("TenonyardModel$Joint", "member", "I", true)
  | 1 => ("TenonyardModel$Joint", "into", "I", true)
  | 2 => ("TenonyardModel$Joint", "thickness", "I", true)
  | 3 => ("TenonyardModel$Joint", "mark", "I", true)
  | _ => ("TenonyardModel$Joint", "way", "C", true)
def tyX7 : Nat → FieldType := fun k => match k with
  | 0 => .int
  | 1 => .int
  | 2 => .int
  | 3 => .int
  | _ => .char
abbrev wsX70 : List Cond := u_ws RX7 TX7 5
theorem nmX7 : ∀ a, a < 5 → ∀ b, b < 5 → a ≠ b → (TX7 a).2.1 ≠ (TX7 b).2.1 := by decide +kernel
theorem tyX7_ok : ∀ k, k < 5 → parseFieldDescriptor (TX7 k).2.2.1 = some (tyX7 k) := by decide +kernel
abbrev cX7_init : ByteArray := prog_10_method_1_code
def yX7_init : MethodName := ⟨RX7, "<init>", "(IICII)V"⟩
abbrev cX7_other : ByteArray := prog_10_method_2_code
def yX7_other : MethodName := ⟨RX7, "other", "(I)I"⟩
abbrev cX7_wayFor : ByteArray := prog_10_method_3_code
def yX7_wayFor : MethodName := ⟨RX7, "wayFor", "(I)C"⟩
abbrev cX7_turned : ByteArray := prog_10_method_4_code
def yX7_turned : MethodName := ⟨RX7, "turned", "()I"⟩
def RX8 : String := "TenonyardModel$Member"
def TX8 : u_T := fun k => match k with
  | 0 => ("TenonyardModel$Member", "from", "I", true)
  | 1 => ("TenonyardModel$Member", "to", "I", true)
  | 2 => ("TenonyardModel$Member", "breadth", "I", true)
  | 3 => ("TenonyardModel$Member", "grade", "I", true)
  | 4 => ("TenonyardModel$Member", "cut", "I", false)
  | _ => ("TenonyardModel$Member", "dry", "I", false)
def tyX8 : Nat → FieldType := fun k => match k with
  | 0 => .int
  | 1 => .int
  | 2 => .int
  | 3 => .int
  | 4 => .int
  | _ => .int
abbrev wsX80 : List Cond := u_ws RX8 TX8 6
theorem nmX8 : ∀ a, a < 6 → ∀ b, b < 6 → a ≠ b → (TX8 a).2.1 ≠ (TX8 b).2.1 := by decide +kernel
theorem tyX8_ok : ∀ k, k < 6 → parseFieldDescriptor (TX8 k).2.2.1 = some (tyX8 k) := by decide +kernel
abbrev cX8_init : ByteArray := prog_11_method_1_code
def yX8_init : MethodName := ⟨RX8, "<init>", "(IIII)V"⟩
abbrev cX8_meets : ByteArray := prog_11_method_2_code
def yX8_meets : MethodName := ⟨RX8, "meets", "(LTenonyardModel$Member;)Z"⟩
def RX9 : String := "TenonyardModel$Node"
def TX9 : u_T := fun k => match k with
  | 0 => ("TenonyardModel$Node", "x", "I", true)
  | 1 => ("TenonyardModel$Node", "y", "I", true)
  | 2 => ("TenonyardModel$Node", "kind", "C", true)
  | 3 => ("TenonyardModel$Node", "right", "J", false)
  | 4 => ("TenonyardModel$Node", "up", "J", false)
  | _ => ("TenonyardModel$Node", "loads", "I", false)
def tyX9 : Nat → FieldType := fun k => match k with
  | 0 => .int
  | 1 => .int
  | 2 => .char
  | 3 => .long
  | 4 => .long
  | _ => .int
abbrev wsX90 : List Cond := u_ws RX9 TX9 6
theorem nmX9 : ∀ a, a < 6 → ∀ b, b < 6 → a ≠ b → (TX9 a).2.1 ≠ (TX9 b).2.1 := by decide +kernel
theorem tyX9_ok : ∀ k, k < 6 → parseFieldDescriptor (TX9 k).2.2.1 = some (tyX9 k) := by decide +kernel
abbrev cX9_init : ByteArray := prog_12_method_1_code
def yX9_init : MethodName := ⟨RX9, "<init>", "(IIC)V"⟩
def RX10 : String := "TenonyardModel$Stick"
def TX10 : u_T := fun k => match k with
  | 0 => ("TenonyardModel$Stick", "length", "I", true)
  | 1 => ("TenonyardModel$Stick", "breadth", "I", true)
  | _ => ("TenonyardModel$Stick", "grade", "I", true)
def tyX10 : Nat → FieldType := fun k => match k with
  | 0 => .int
  | 1 => .int
  | _ => .int
abbrev wsX100 : List Cond := u_ws RX10 TX10 3
theorem nmX10 : ∀ a, a < 3 → ∀ b, b < 3 → a ≠ b → (TX10 a).2.1 ≠ (TX10 b).2.1 := by decide +kernel
theorem tyX10_ok : ∀ k, k < 3 → parseFieldDescriptor (TX10 k).2.2.1 = some (tyX10 k) := by decide +kernel
abbrev cX10_init : ByteArray := prog_13_method_1_code
def yX10_init : MethodName := ⟨RX10, "<init>", "(III)V"⟩
def RX11 : String := "TenonyardModel$Wide"
def TX11 : u_T := fun k => match k with
  | _ => ("TenonyardModel$Wide", "limbs", "[I", true)
def tyX11 : Nat → FieldType := fun k => match k with
  | _ => .array .int
abbrev wsX110 : List Cond := u_ws RX11 TX11 1
theorem nmX11 : ∀ a, a < 1 → ∀ b, b < 1 → a ≠ b → (TX11 a).2.1 ≠ (TX11 b).2.1 := by decide +kernel
theorem tyX11_ok : ∀ k, k < 1 → parseFieldDescriptor (TX11 k).2.2.1 = some (tyX11 k) := by decide +kernel
abbrev cX11_init : ByteArray := prog_14_method_1_code
def yX11_init : MethodName := ⟨RX11, "<init>", "(J)V"⟩
abbrev cX11_times : ByteArray := prog_14_method_2_code
def yX11_times : MethodName := ⟨RX11, "times", "(LTenonyardModel$Wide;)LTenonyardModel$Wide;"⟩
abbrev cX11_isMore : ByteArray := prog_14_method_3_code
def yX11_isMore : MethodName := ⟨RX11, "isMore", "(LTenonyardModel$Wide;)Z"⟩
def RX12 : String := "TenonyardModel"
def TX12 : u_T := fun k => match k with
  | 0 => ("TenonyardModel", "nodes", "Ljava/util/ArrayList;", true)
  | 1 => ("TenonyardModel", "members", "Ljava/util/ArrayList;", true)
  | 2 => ("TenonyardModel", "joints", "Ljava/util/ArrayList;", true)
  | 3 => ("TenonyardModel", "sticks", "Ljava/util/ArrayList;", true)
  | 4 => ("TenonyardModel", "minors", "[J", true)
  | 5 => ("TenonyardModel", "pulls", "[J", true)
  | 6 => ("TenonyardModel", "forces", "[J", true)
  | 7 => ("TenonyardModel", "isEnd", "[Z", true)
  | 8 => ("TenonyardModel", "canCut", "[Z", true)
  | 9 => ("TenonyardModel", "ways", "[I", true)
  | 10 => ("TenonyardModel", "order", "[I", true)
  | 11 => ("TenonyardModel", "best", "[I", true)
  | 12 => ("TenonyardModel", "tried", "[I", true)
  | 13 => ("TenonyardModel", "left", "[I", true)
  | 14 => ("TenonyardModel", "needs", "[I", true)
  | 15 => ("TenonyardModel", "lengths", "[I", true)
  | 16 => ("TenonyardModel", "breadths", "[I", true)
  | 17 => ("TenonyardModel", "grades", "[I", true)
  | 18 => ("TenonyardModel", "base", "J", false)
  | 19 => ("TenonyardModel", "thrown", "I", false)
  | 20 => ("TenonyardModel", "props", "I", false)
  | 21 => ("TenonyardModel", "wood", "I", false)
  | 22 => ("TenonyardModel", "isReckoned", "Z", false)
  | 23 => ("TenonyardModel", "isForced", "Z", false)
  | 24 => ("TenonyardModel", "isRaised", "Z", false)
  | 25 => ("TenonyardModel", "isCut", "Z", false)
  | _ => ("TenonyardModel", "state", "C", false)
def tyX12 : Nat → FieldType := fun k => match k with
  | 0 => .object "java/util/ArrayList"
  | 1 => .object "java/util/ArrayList"
  | 2 => .object "java/util/ArrayList"
  | 3 => .object "java/util/ArrayList"
  | 4 => .array .long
  | 5 => .array .long
  | 6 => .array .long
  | 7 => .array .boolean
  | 8 => .array .boolean
  | 9 => .array .int
  | 10 => .array .int
  | 11 => .array .int
  | 12 => .array .int
  | 13 => .array .int
  | 14 => .array .int
  | 15 => .array .int
  | 16 => .array .int
  | 17 => .array .int
  | 18 => .long
  | 19 => .int
  | 20 => .int
  | 21 => .int
  | 22 => .boolean
  | 23 => .boolean
  | 24 => .boolean
  | 25 => .boolean
  | _ => .char
abbrev wsX120 : List Cond := u_ws RX12 TX12 27
theorem nmX12 : ∀ a, a < 27 → ∀ b, b < 27 → a ≠ b → (TX12 a).2.1 ≠ (TX12 b).2.1 := by decide +kernel
theorem tyX12_ok : ∀ k, k < 27 → parseFieldDescriptor (TX12 k).2.2.1 = some (tyX12 k) := by decide +kernel
abbrev cX12_init : ByteArray := prog_9_method_1_code
def yX12_init : MethodName := ⟨RX12, "<init>", "()V"⟩
abbrev cX12_thrown : ByteArray := prog_9_method_2_code
def yX12_thrown : MethodName := ⟨RX12, "thrown", "()I"⟩
abbrev cX12_fails : ByteArray := prog_9_method_3_code
def yX12_fails : MethodName := ⟨RX12, "fails", "(I)I"⟩
abbrev cX12_tell : ByteArray := prog_9_method_4_code
def yX12_tell : MethodName := ⟨RX12, "tell", "(I)I"⟩
abbrev cX12_tellLong : ByteArray := prog_9_method_5_code
def yX12_tellLong : MethodName := ⟨RX12, "tellLong", "(J)J"⟩
abbrev cX12_failsLong : ByteArray := prog_9_method_6_code
def yX12_failsLong : MethodName := ⟨RX12, "failsLong", "(I)J"⟩
abbrev cX12_refuses : ByteArray := prog_9_method_7_code
def yX12_refuses : MethodName := ⟨RX12, "refuses", "(I)Z"⟩
abbrev cX12_tells : ByteArray := prog_9_method_8_code
def yX12_tells : MethodName := ⟨RX12, "tells", "(Z)Z"⟩
abbrev cX12_in : ByteArray := prog_9_method_9_code
def yX12_in : MethodName := ⟨RX12, "in", "(JII)Z"⟩
abbrev cX12_changes : ByteArray := prog_9_method_10_code
def yX12_changes : MethodName := ⟨RX12, "changes", "()V"⟩
abbrev cX12_wayX : ByteArray := prog_9_method_11_code
def yX12_wayX : MethodName := ⟨RX12, "wayX", "(LTenonyardModel$Member;I)I"⟩
abbrev cX12_wayY : ByteArray := prog_9_method_12_code
def yX12_wayY : MethodName := ⟨RX12, "wayY", "(LTenonyardModel$Member;I)I"⟩
abbrev cX12_isBorne : ByteArray := prog_9_method_13_code
def yX12_isBorne : MethodName := ⟨RX12, "isBorne", "(IZ)Z"⟩
abbrev cX12_draws : ByteArray := prog_9_method_14_code
def yX12_draws : MethodName := ⟨RX12, "draws", "(II)I"⟩
abbrev cX12_loadIn : ByteArray := prog_9_method_15_code
def yX12_loadIn : MethodName := ⟨RX12, "loadIn", "(I)J"⟩
abbrev cX12_determinant : ByteArray := prog_9_method_16_code
def yX12_determinant : MethodName := ⟨RX12, "determinant", "(I)J"⟩
abbrev cX12_expanded : ByteArray := prog_9_method_17_code
def yX12_expanded : MethodName := ⟨RX12, "expanded", "(III)J"⟩
abbrev cX12_unknowns : ByteArray := prog_9_method_18_code
def yX12_unknowns : MethodName := ⟨RX12, "unknowns", "()I"⟩
abbrev cX12_reckons : ByteArray := prog_9_method_19_code
def yX12_reckons : MethodName := ⟨RX12, "reckons", "()V"⟩
abbrev cX12_stands : ByteArray := prog_9_method_20_code
def yX12_stands : MethodName := ⟨RX12, "stands", "()Z"⟩
abbrev cX12_thousandths : ByteArray := prog_9_method_21_code
def yX12_thousandths : MethodName := ⟨RX12, "thousandths", "(J)J"⟩
abbrev cX12_bearingOf : ByteArray := prog_9_method_22_code
def yX12_bearingOf : MethodName := ⟨RX12, "bearingOf", "(IZ)J"⟩
abbrev cX12_divisor : ByteArray := prog_9_method_23_code
def yX12_divisor : MethodName := ⟨RX12, "divisor", "(JJ)J"⟩
abbrev cX12_isAtMost : ByteArray := prog_9_method_24_code
def yX12_isAtMost : MethodName := ⟨RX12, "isAtMost", "(JJJJ)Z"⟩
abbrev cX12_forceOf : ByteArray := prog_9_method_25_code
def yX12_forceOf : MethodName := ⟨RX12, "forceOf", "(I)J"⟩
abbrev cX12_reckonsForce : ByteArray := prog_9_method_26_code
def yX12_reckonsForce : MethodName := ⟨RX12, "reckonsForce", "(I)J"⟩
abbrev cX12_canGoIn : ByteArray := prog_9_method_27_code
def yX12_canGoIn : MethodName := ⟨RX12, "canGoIn", "(II)Z"⟩
abbrev cX12_propsFor : ByteArray := prog_9_method_28_code
def yX12_propsFor : MethodName := ⟨RX12, "propsFor", "(I)I"⟩
abbrev cX12_canFollow : ByteArray := prog_9_method_29_code
def yX12_canFollow : MethodName := ⟨RX12, "canFollow", "(II)Z"⟩
abbrev cX12_raises : ByteArray := prog_9_method_30_code
def yX12_raises : MethodName := ⟨RX12, "raises", "()V"⟩
abbrev cX12_isTakenAway : ByteArray := prog_9_method_31_code
def yX12_isTakenAway : MethodName := ⟨RX12, "isTakenAway", "(I)Z"⟩
abbrev cX12_pieceOf : ByteArray := prog_9_method_32_code
def yX12_pieceOf : MethodName := ⟨RX12, "pieceOf", "(I)I"⟩
abbrev cX12_cuts : ByteArray := prog_9_method_33_code
def yX12_cuts : MethodName := ⟨RX12, "cuts", "(II)Z"⟩
abbrev cX12_sums : ByteArray := prog_9_method_34_code
def yX12_sums : MethodName := ⟨RX12, "sums", "()V"⟩
abbrev cX12_areEnough : ByteArray := prog_9_method_35_code
def yX12_areEnough : MethodName := ⟨RX12, "areEnough", "(I)Z"⟩
abbrev cX12_isFilled : ByteArray := prog_9_method_36_code
def yX12_isFilled : MethodName := ⟨RX12, "isFilled", "(ILTenonyardModel$Stick;)Z"⟩
abbrev cX12_isBefore : ByteArray := prog_9_method_37_code
def yX12_isBefore : MethodName := ⟨RX12, "isBefore", "()Z"⟩
abbrev cX12_saws : ByteArray := prog_9_method_38_code
def yX12_saws : MethodName := ⟨RX12, "saws", "()V"⟩
abbrev cX12_areCut : ByteArray := prog_9_method_39_code
def yX12_areCut : MethodName := ⟨RX12, "areCut", "()Z"⟩
abbrev cX12_isNode : ByteArray := prog_9_method_40_code
def yX12_isNode : MethodName := ⟨RX12, "isNode", "(I)Z"⟩
abbrev cX12_isMember : ByteArray := prog_9_method_41_code
def yX12_isMember : MethodName := ⟨RX12, "isMember", "(I)Z"⟩
abbrev cX12_node : ByteArray := prog_9_method_42_code
def yX12_node : MethodName := ⟨RX12, "node", "(IIC)I"⟩
abbrev cX12_member : ByteArray := prog_9_method_43_code
def yX12_member : MethodName := ⟨RX12, "member", "(IIII)I"⟩
abbrev cX12_load : ByteArray := prog_9_method_44_code
def yX12_load : MethodName := ⟨RX12, "load", "(III)I"⟩
abbrev cX12_state : ByteArray := prog_9_method_45_code
def yX12_state : MethodName := ⟨RX12, "state", "()C"⟩
abbrev cX12_force : ByteArray := prog_9_method_46_code
def yX12_force : MethodName := ⟨RX12, "force", "(I)J"⟩
abbrev cX12_pull : ByteArray := prog_9_method_47_code
def yX12_pull : MethodName := ⟨RX12, "pull", "(I)J"⟩
abbrev cX12_bearing : ByteArray := prog_9_method_48_code
def yX12_bearing : MethodName := ⟨RX12, "bearing", "(IZ)J"⟩
abbrev cX12_restOf : ByteArray := prog_9_method_49_code
def yX12_restOf : MethodName := ⟨RX12, "restOf", "(II)J"⟩
abbrev cX12_isBalanced : ByteArray := prog_9_method_50_code
def yX12_isBalanced : MethodName := ⟨RX12, "isBalanced", "(I)Z"⟩
abbrev cX12_weakest : ByteArray := prog_9_method_51_code
def yX12_weakest : MethodName := ⟨RX12, "weakest", "()I"⟩
abbrev cX12_joint : ByteArray := prog_9_method_52_code
def yX12_joint : MethodName := ⟨RX12, "joint", "(IICII)I"⟩
abbrev cX12_isJoint : ByteArray := prog_9_method_53_code
def yX12_isJoint : MethodName := ⟨RX12, "isJoint", "(I)Z"⟩
abbrev cX12_isGood : ByteArray := prog_9_method_54_code
def yX12_isGood : MethodName := ⟨RX12, "isGood", "(LTenonyardModel$Joint;)Z"⟩
abbrev cX12_isRight : ByteArray := prog_9_method_55_code
def yX12_isRight : MethodName := ⟨RX12, "isRight", "(I)Z"⟩
abbrev cX12_misread : ByteArray := prog_9_method_56_code
def yX12_misread : MethodName := ⟨RX12, "misread", "(I)I"⟩
abbrev cX12_clashes : ByteArray := prog_9_method_57_code
def yX12_clashes : MethodName := ⟨RX12, "clashes", "()I"⟩
abbrev cX12_cutAt : ByteArray := prog_9_method_58_code
def yX12_cutAt : MethodName := ⟨RX12, "cutAt", "(II)I"⟩
abbrev cX12_dry : ByteArray := prog_9_method_59_code
def yX12_dry : MethodName := ⟨RX12, "dry", "(II)I"⟩
abbrev cX12_gapOf : ByteArray := prog_9_method_60_code
def yX12_gapOf : MethodName := ⟨RX12, "gapOf", "(LTenonyardModel$Joint;)I"⟩
abbrev cX12_gap : ByteArray := prog_9_method_61_code
def yX12_gap : MethodName := ⟨RX12, "gap", "(I)I"⟩
abbrev cX12_widest : ByteArray := prog_9_method_62_code
def yX12_widest : MethodName := ⟨RX12, "widest", "()I"⟩
abbrev cX12_stick : ByteArray := prog_9_method_63_code
def yX12_stick : MethodName := ⟨RX12, "stick", "(III)I"⟩
abbrev cX12_piece : ByteArray := prog_9_method_64_code
def yX12_piece : MethodName := ⟨RX12, "piece", "(I)I"⟩
abbrev cX12_stickOf : ByteArray := prog_9_method_65_code
def yX12_stickOf : MethodName := ⟨RX12, "stickOf", "(I)I"⟩
abbrev cX12_wood : ByteArray := prog_9_method_66_code
def yX12_wood : MethodName := ⟨RX12, "wood", "()I"⟩
abbrev cX12_waste : ByteArray := prog_9_method_67_code
def yX12_waste : MethodName := ⟨RX12, "waste", "(I)I"⟩
abbrev cX12_setProps : ByteArray := prog_9_method_68_code
def yX12_setProps : MethodName := ⟨RX12, "setProps", "(I)I"⟩
abbrev cX12_hasOrder : ByteArray := prog_9_method_69_code
def yX12_hasOrder : MethodName := ⟨RX12, "hasOrder", "()Z"⟩
abbrev cX12_raised : ByteArray := prog_9_method_70_code
def yX12_raised : MethodName := ⟨RX12, "raised", "(I)I"⟩
abbrev cX12_canRaise : ByteArray := prog_9_method_71_code
def yX12_canRaise : MethodName := ⟨RX12, "canRaise", "()Z"⟩
abbrev cX12_canTakeAway : ByteArray := prog_9_method_72_code
def yX12_canTakeAway : MethodName := ⟨RX12, "canTakeAway", "()Z"⟩
abbrev cX12_orders : ByteArray := prog_9_method_73_code
def yX12_orders : MethodName := ⟨RX12, "orders", "()I"⟩
abbrev cX12_props : ByteArray := prog_9_method_74_code
def yX12_props : MethodName := ⟨RX12, "props", "(I)I"⟩
abbrev cX12_stuck : ByteArray := prog_9_method_75_code
def yX12_stuck : MethodName := ⟨RX12, "stuck", "()I"⟩
abbrev cX12_allForce : ByteArray := prog_9_method_76_code
def yX12_allForce : MethodName := ⟨RX12, "allForce", "()J"⟩
abbrev cX12_rightShare : ByteArray := prog_9_method_77_code
def yX12_rightShare : MethodName := ⟨RX12, "rightShare", "()F"⟩
abbrev cX12_meanPull : ByteArray := prog_9_method_78_code
def yX12_meanPull : MethodName := ⟨RX12, "meanPull", "()D"⟩
abbrev cX12_isSound : ByteArray := prog_9_method_79_code
def yX12_isSound : MethodName := ⟨RX12, "isSound", "()Z"⟩
def RJx145de : String := "java/io/Serializable"
def TJx145de : u_T := fun k => match k with
  | _ => ("", "", "", false)
def tyJx145de : Nat → FieldType := fun k => match k with
  | _ => .int
abbrev wsJx145de0 : List Cond := u_ws RJx145de TJx145de 0
theorem nmJx145de : ∀ a, a < 0 → ∀ b, b < 0 → a ≠ b → (TJx145de a).2.1 ≠ (TJx145de b).2.1 := by decide +kernel
theorem tyJx145de_ok : ∀ k, k < 0 → parseFieldDescriptor (TJx145de k).2.2.1 = some (tyJx145de k) := by decide +kernel
def RJx00060 : String := "java/lang/ArrayIndexOutOfBoundsException"
def TJx00060 : u_T := fun k => match k with
  | 0 => ("java/lang/Throwable", "backtrace", "Ljava/lang/Object;", false)
  | 1 => ("java/lang/Throwable", "detailMessage", "Ljava/lang/String;", false)
  | 2 => ("java/lang/Throwable", "cause", "Ljava/lang/Throwable;", false)
  | 3 => ("java/lang/Throwable", "stackTrace", "[Ljava/lang/StackTraceElement;", false)
  | 4 => ("java/lang/Throwable", "depth", "I", false)
  | _ => ("java/lang/Throwable", "suppressedExceptions", "Ljava/util/List;", false)
def tyJx00060 : Nat → FieldType := fun k => match k with
  | 0 => .object "java/lang/Object"
  | 1 => .object "java/lang/String"
  | 2 => .object "java/lang/Throwable"
  | 3 => .array (.object "java/lang/StackTraceElement")
  | 4 => .int
  | _ => .object "java/util/List"
abbrev wsJx000600 : List Cond := u_ws RJx00060 TJx00060 6
theorem nmJx00060 : ∀ a, a < 6 → ∀ b, b < 6 → a ≠ b → (TJx00060 a).2.1 ≠ (TJx00060 b).2.1 := by decide +kernel
theorem tyJx00060_ok : ∀ k, k < 6 → parseFieldDescriptor (TJx00060 k).2.2.1 = some (tyJx00060 k) := by decide +kernel
abbrev cJx00060_init_a7421 : ByteArray := prog_17_method_2_code
def yJx00060_init_a7421 : MethodName := ⟨RJx00060, "<init>", "(Ljava/lang/String;)V"⟩
def RJx9f9b0 : String := "java/lang/CharSequence"
def TJx9f9b0 : u_T := fun k => match k with
  | _ => ("", "", "", false)
def tyJx9f9b0 : Nat → FieldType := fun k => match k with
  | _ => .int
abbrev wsJx9f9b00 : List Cond := u_ws RJx9f9b0 TJx9f9b0 0
theorem nmJx9f9b0 : ∀ a, a < 0 → ∀ b, b < 0 → a ≠ b → (TJx9f9b0 a).2.1 ≠ (TJx9f9b0 b).2.1 := by decide +kernel
theorem tyJx9f9b0_ok : ∀ k, k < 0 → parseFieldDescriptor (TJx9f9b0 k).2.2.1 = some (tyJx9f9b0 k) := by decide +kernel
def RJ11 : String := "java/lang/Character"
def TJ11 : u_T := fun k => match k with
  | _ => ("", "", "", false)
def tyJ11 : Nat → FieldType := fun k => match k with
  | _ => .int
abbrev wsJ110 : List Cond := u_ws RJ11 TJ11 0
theorem nmJ11 : ∀ a, a < 0 → ∀ b, b < 0 → a ≠ b → (TJ11 a).2.1 ≠ (TJ11 b).2.1 := by decide +kernel
theorem tyJ11_ok : ∀ k, k < 0 → parseFieldDescriptor (TJ11 k).2.2.1 = some (tyJ11 k) := by decide +kernel
abbrev cJ11_isValidCodePoint_9a6ad : ByteArray := prog_19_method_11_code
def yJ11_isValidCodePoint_9a6ad : MethodName := ⟨RJ11, "isValidCodePoint", "(I)Z"⟩
abbrev cJ11_highSurrogate_5068e : ByteArray := prog_19_method_28_code
def yJ11_highSurrogate_5068e : MethodName := ⟨RJ11, "highSurrogate", "(I)C"⟩
abbrev cJ11_lowSurrogate_5068e : ByteArray := prog_19_method_29_code
def yJ11_lowSurrogate_5068e : MethodName := ⟨RJ11, "lowSurrogate", "(I)C"⟩
def RJx8e188 : String := "java/lang/Cloneable"
def TJx8e188 : u_T := fun k => match k with
  | _ => ("", "", "", false)
def tyJx8e188 : Nat → FieldType := fun k => match k with
  | _ => .int
abbrev wsJx8e1880 : List Cond := u_ws RJx8e188 TJx8e188 0
theorem nmJx8e188 : ∀ a, a < 0 → ∀ b, b < 0 → a ≠ b → (TJx8e188 a).2.1 ≠ (TJx8e188 b).2.1 := by decide +kernel
theorem tyJx8e188_ok : ∀ k, k < 0 → parseFieldDescriptor (TJx8e188 k).2.2.1 = some (tyJx8e188 k) := by decide +kernel
def RJxb160c : String := "java/lang/Comparable"
def TJxb160c : u_T := fun k => match k with
  | _ => ("", "", "", false)
def tyJxb160c : Nat → FieldType := fun k => match k with
  | _ => .int
abbrev wsJxb160c0 : List Cond := u_ws RJxb160c TJxb160c 0
theorem nmJxb160c : ∀ a, a < 0 → ∀ b, b < 0 → a ≠ b → (TJxb160c a).2.1 ≠ (TJxb160c b).2.1 := by decide +kernel
theorem tyJxb160c_ok : ∀ k, k < 0 → parseFieldDescriptor (TJxb160c k).2.2.1 = some (tyJxb160c k) := by decide +kernel
def RJ6 : String := "java/lang/Integer"
def TJ6 : u_T := fun k => match k with
  | _ => ("", "", "", false)
def tyJ6 : Nat → FieldType := fun k => match k with
  | _ => .int
abbrev wsJ60 : List Cond := u_ws RJ6 TJ6 0
theorem nmJ6 : ∀ a, a < 0 → ∀ b, b < 0 → a ≠ b → (TJ6 a).2.1 ≠ (TJ6 b).2.1 := by decide +kernel
theorem tyJ6_ok : ∀ k, k < 0 → parseFieldDescriptor (TJ6 k).2.2.1 = some (tyJ6 k) := by decide +kernel
abbrev cJ6_numberOfTrailingZeros_0f7a4 : ByteArray := prog_26_method_48_code
def yJ6_numberOfTrailingZeros_0f7a4 : MethodName := ⟨RJ6, "numberOfTrailingZeros", "(I)I"⟩
abbrev cJ6_bitCount_0f7a4 : ByteArray := prog_26_method_49_code
def yJ6_bitCount_0f7a4 : MethodName := ⟨RJ6, "bitCount", "(I)I"⟩
def RJxab1ab : String := "java/lang/Iterable"
def TJxab1ab : u_T := fun k => match k with
  | _ => ("", "", "", false)
def tyJxab1ab : Nat → FieldType := fun k => match k with
  | _ => .int
abbrev wsJxab1ab0 : List Cond := u_ws RJxab1ab TJxab1ab 0
theorem nmJxab1ab : ∀ a, a < 0 → ∀ b, b < 0 → a ≠ b → (TJxab1ab a).2.1 ≠ (TJxab1ab b).2.1 := by decide +kernel
theorem tyJxab1ab_ok : ∀ k, k < 0 → parseFieldDescriptor (TJxab1ab k).2.2.1 = some (tyJxab1ab k) := by decide +kernel
def RJ9 : String := "java/lang/Math"
def TJ9 : u_T := fun k => match k with
  | _ => ("", "", "", false)
def tyJ9 : Nat → FieldType := fun k => match k with
  | _ => .int
abbrev wsJ90 : List Cond := u_ws RJ9 TJ9 0
theorem nmJ9 : ∀ a, a < 0 → ∀ b, b < 0 → a ≠ b → (TJ9 a).2.1 ≠ (TJ9 b).2.1 := by decide +kernel
theorem tyJ9_ok : ∀ k, k < 0 → parseFieldDescriptor (TJ9 k).2.2.1 = some (tyJ9 k) := by decide +kernel
abbrev cJ9_floorDiv_f86c9 : ByteArray := prog_28_method_49_code
def yJ9_floorDiv_f86c9 : MethodName := ⟨RJ9, "floorDiv", "(JJ)J"⟩
abbrev cJ9_floorMod_f86c9 : ByteArray := prog_28_method_52_code
def yJ9_floorMod_f86c9 : MethodName := ⟨RJ9, "floorMod", "(JJ)J"⟩
abbrev cJ9_abs_067f4 : ByteArray := prog_28_method_61_code
def yJ9_abs_067f4 : MethodName := ⟨RJ9, "abs", "(J)J"⟩
abbrev cJ9_max_7cf53 : ByteArray := prog_28_method_65_code
def yJ9_max_7cf53 : MethodName := ⟨RJ9, "max", "(II)I"⟩
abbrev cJ9_min_7cf53 : ByteArray := prog_28_method_69_code
def yJ9_min_7cf53 : MethodName := ⟨RJ9, "min", "(II)I"⟩
abbrev cJ9_min_f86c9 : ByteArray := prog_28_method_70_code
def yJ9_min_f86c9 : MethodName := ⟨RJ9, "min", "(JJ)J"⟩
def RJ0 : String := "java/lang/String"
def TJ0 : u_T := fun k => match k with
  | 0 => ("java/lang/String", "value", "[B", true)
  | _ => ("java/lang/String", "coder", "B", true)
def tyJ0 : Nat → FieldType := fun k => match k with
  | 0 => .array .byte
  | _ => .byte
abbrev wsJ00 : List Cond := u_ws RJ0 TJ0 2
theorem nmJ0 : ∀ a, a < 2 → ∀ b, b < 2 → a ≠ b → (TJ0 a).2.1 ≠ (TJ0 b).2.1 := by decide +kernel
theorem tyJ0_ok : ∀ k, k < 2 → parseFieldDescriptor (TJ0 k).2.2.1 = some (tyJ0 k) := by decide +kernel
abbrev cJ0_length_8abf5 : ByteArray := prog_30_method_54_code
def yJ0_length_8abf5 : MethodName := ⟨RJ0, "length", "()I"⟩
abbrev cJ0_indexOf_0f7a4 : ByteArray := prog_30_method_79_code
def yJ0_indexOf_0f7a4 : MethodName := ⟨RJ0, "indexOf", "(I)I"⟩
abbrev cJ0_indexOf_7cf53 : ByteArray := prog_30_method_80_code
def yJ0_indexOf_7cf53 : MethodName := ⟨RJ0, "indexOf", "(II)I"⟩
abbrev cJ0_coder_7d493 : ByteArray := prog_30_method_152_code
def yJ0_coder_7d493 : MethodName := ⟨RJ0, "coder", "()B"⟩
abbrev cJ0_isLatin1_aae02 : ByteArray := prog_30_method_154_code
def yJ0_isLatin1_aae02 : MethodName := ⟨RJ0, "isLatin1", "()Z"⟩
abbrev cJ0_checkBoundsBeginEnd_23922 : ByteArray := prog_30_method_158_code
def yJ0_checkBoundsBeginEnd_23922 : MethodName := ⟨RJ0, "checkBoundsBeginEnd", "(III)V"⟩
def RJ1 : String := "java/lang/StringLatin1"
def TJ1 : u_T := fun k => match k with
  | _ => ("", "", "", false)
def tyJ1 : Nat → FieldType := fun k => match k with
  | _ => .int
abbrev wsJ10 : List Cond := u_ws RJ1 TJ1 0
theorem nmJ1 : ∀ a, a < 0 → ∀ b, b < 0 → a ≠ b → (TJ1 a).2.1 ≠ (TJ1 b).2.1 := by decide +kernel
theorem tyJ1_ok : ∀ k, k < 0 → parseFieldDescriptor (TJ1 k).2.2.1 = some (tyJ1 k) := by decide +kernel
abbrev cJ1_canEncode_9a6ad : ByteArray := prog_31_method_4_code
def yJ1_canEncode_9a6ad : MethodName := ⟨RJ1, "canEncode", "(I)Z"⟩
abbrev cJ1_indexOf_4cfef : ByteArray := prog_31_method_22_code
def yJ1_indexOf_4cfef : MethodName := ⟨RJ1, "indexOf", "([BIII)I"⟩
abbrev cJ1_indexOfChar_4cfef : ByteArray := prog_31_method_23_code
def yJ1_indexOfChar_4cfef : MethodName := ⟨RJ1, "indexOfChar", "([BIII)I"⟩
def RJ2 : String := "java/lang/StringUTF16"
def TJ2 : u_T := fun k => match k with
  | _ => ("", "", "", false)
def tyJ2 : Nat → FieldType := fun k => match k with
  | _ => .int
abbrev wsJ20 : List Cond := u_ws RJ2 TJ2 0
theorem nmJ2 : ∀ a, a < 0 → ∀ b, b < 0 → a ≠ b → (TJ2 a).2.1 ≠ (TJ2 b).2.1 := by decide +kernel
theorem tyJ2_ok : ∀ k, k < 0 → parseFieldDescriptor (TJ2 k).2.2.1 = some (tyJ2 k) := by decide +kernel
abbrev cJ2_getChar_3b067 : ByteArray := prog_32_method_5_code
def yJ2_getChar_3b067 : MethodName := ⟨RJ2, "getChar", "([BI)C"⟩
abbrev cJ2_length_9d52b : ByteArray := prog_32_method_6_code
def yJ2_length_9d52b : MethodName := ⟨RJ2, "length", "([B)I"⟩
abbrev cJ2_indexOf_4cfef : ByteArray := prog_32_method_40_code
def yJ2_indexOf_4cfef : MethodName := ⟨RJ2, "indexOf", "([BIII)I"⟩
abbrev cJ2_indexOfChar_4cfef : ByteArray := prog_32_method_47_code
def yJ2_indexOfChar_4cfef : MethodName := ⟨RJ2, "indexOfChar", "([BIII)I"⟩
abbrev cJ2_indexOfCharUnsafe_4cfef : ByteArray := prog_32_method_48_code
def yJ2_indexOfCharUnsafe_4cfef : MethodName := ⟨RJ2, "indexOfCharUnsafe", "([BIII)I"⟩
abbrev cJ2_indexOfSupplementary_4cfef : ByteArray := prog_32_method_49_code
def yJ2_indexOfSupplementary_4cfef : MethodName := ⟨RJ2, "indexOfSupplementary", "([BIII)I"⟩
abbrev cJ2_checkBoundsBeginEnd_d044e : ByteArray := prog_32_method_93_code
def yJ2_checkBoundsBeginEnd_d044e : MethodName := ⟨RJ2, "checkBoundsBeginEnd", "(II[B)V"⟩
def RJ10 : String := "java/lang/System"
def TJ10 : u_T := fun k => match k with
  | _ => ("", "", "", false)
def tyJ10 : Nat → FieldType := fun k => match k with
  | _ => .int
abbrev wsJ100 : List Cond := u_ws RJ10 TJ10 0
theorem nmJ10 : ∀ a, a < 0 → ∀ b, b < 0 → a ≠ b → (TJ10 a).2.1 ≠ (TJ10 b).2.1 := by decide +kernel
theorem tyJ10_ok : ∀ k, k < 0 → parseFieldDescriptor (TJ10 k).2.2.1 = some (tyJ10 k) := by decide +kernel
def RJxfd54e : String := "java/lang/constant/Constable"
def TJxfd54e : u_T := fun k => match k with
  | _ => ("", "", "", false)
def tyJxfd54e : Nat → FieldType := fun k => match k with
  | _ => .int
abbrev wsJxfd54e0 : List Cond := u_ws RJxfd54e TJxfd54e 0
theorem nmJxfd54e : ∀ a, a < 0 → ∀ b, b < 0 → a ≠ b → (TJxfd54e a).2.1 ≠ (TJxfd54e b).2.1 := by decide +kernel
theorem tyJxfd54e_ok : ∀ k, k < 0 → parseFieldDescriptor (TJxfd54e k).2.2.1 = some (tyJxfd54e k) := by decide +kernel
def RJx3cf43 : String := "java/lang/constant/ConstantDesc"
def TJx3cf43 : u_T := fun k => match k with
  | _ => ("", "", "", false)
def tyJx3cf43 : Nat → FieldType := fun k => match k with
  | _ => .int
abbrev wsJx3cf430 : List Cond := u_ws RJx3cf43 TJx3cf43 0
theorem nmJx3cf43 : ∀ a, a < 0 → ∀ b, b < 0 → a ≠ b → (TJx3cf43 a).2.1 ≠ (TJx3cf43 b).2.1 := by decide +kernel
theorem tyJx3cf43_ok : ∀ k, k < 0 → parseFieldDescriptor (TJx3cf43 k).2.2.1 = some (tyJx3cf43 k) := by decide +kernel
def RJxa1e45 : String := "java/util/AbstractCollection"
def TJxa1e45 : u_T := fun k => match k with
  | _ => ("", "", "", false)
def tyJxa1e45 : Nat → FieldType := fun k => match k with
  | _ => .int
abbrev wsJxa1e450 : List Cond := u_ws RJxa1e45 TJxa1e45 0
theorem nmJxa1e45 : ∀ a, a < 0 → ∀ b, b < 0 → a ≠ b → (TJxa1e45 a).2.1 ≠ (TJxa1e45 b).2.1 := by decide +kernel
theorem tyJxa1e45_ok : ∀ k, k < 0 → parseFieldDescriptor (TJxa1e45 k).2.2.1 = some (tyJxa1e45 k) := by decide +kernel
abbrev cJxa1e45_init_da8c8 : ByteArray := prog_38_method_1_code
def yJxa1e45_init_da8c8 : MethodName := ⟨RJxa1e45, "<init>", "()V"⟩
def RJxc12de : String := "java/util/AbstractList"
def TJxc12de : u_T := fun k => match k with
  | _ => ("", "", "", false)
def tyJxc12de : Nat → FieldType := fun k => match k with
  | _ => .int
abbrev wsJxc12de0 : List Cond := u_ws RJxc12de TJxc12de 0
theorem nmJxc12de : ∀ a, a < 0 → ∀ b, b < 0 → a ≠ b → (TJxc12de a).2.1 ≠ (TJxc12de b).2.1 := by decide +kernel
theorem tyJxc12de_ok : ∀ k, k < 0 → parseFieldDescriptor (TJxc12de k).2.2.1 = some (tyJxc12de k) := by decide +kernel
abbrev cJxc12de_init_da8c8 : ByteArray := prog_39_method_1_code
def yJxc12de_init_da8c8 : MethodName := ⟨RJxc12de, "<init>", "()V"⟩
def RJx4a65c : String := "java/util/ArrayList"
def TJx4a65c : u_T := fun k => match k with
  | 0 => ("java/util/AbstractList", "modCount", "I", false)
  | 1 => ("java/util/ArrayList", "elementData", "[Ljava/lang/Object;", false)
  | _ => ("java/util/ArrayList", "size", "I", false)
def tyJx4a65c : Nat → FieldType := fun k => match k with
  | 0 => .int
  | 1 => .array (.object "java/lang/Object")
  | _ => .int
abbrev wsJx4a65c0 : List Cond := u_ws RJx4a65c TJx4a65c 3
theorem nmJx4a65c : ∀ a, a < 3 → ∀ b, b < 3 → a ≠ b → (TJx4a65c a).2.1 ≠ (TJx4a65c b).2.1 := by decide +kernel
theorem tyJx4a65c_ok : ∀ k, k < 3 → parseFieldDescriptor (TJx4a65c k).2.2.1 = some (tyJx4a65c k) := by decide +kernel
abbrev cJx4a65c_init_da8c8 : ByteArray := prog_40_method_2_code
def yJx4a65c_init_da8c8 : MethodName := ⟨RJx4a65c, "<init>", "()V"⟩
abbrev cJx4a65c_grow_92f84 : ByteArray := prog_40_method_6_code
def yJx4a65c_grow_92f84 : MethodName := ⟨RJx4a65c, "grow", "(I)[Ljava/lang/Object;"⟩
abbrev cJx4a65c_grow_d5877 : ByteArray := prog_40_method_7_code
def yJx4a65c_grow_d5877 : MethodName := ⟨RJx4a65c, "grow", "()[Ljava/lang/Object;"⟩
abbrev cJx4a65c_size_8abf5 : ByteArray := prog_40_method_8_code
def yJx4a65c_size_8abf5 : MethodName := ⟨RJx4a65c, "size", "()I"⟩
abbrev cJx4a65c_isEmpty_aae02 : ByteArray := prog_40_method_9_code
def yJx4a65c_isEmpty_aae02 : MethodName := ⟨RJx4a65c, "isEmpty", "()Z"⟩
abbrev cJx4a65c_elementData_915e3 : ByteArray := prog_40_method_18_code
def yJx4a65c_elementData_915e3 : MethodName := ⟨RJx4a65c, "elementData", "(I)Ljava/lang/Object;"⟩
abbrev cJx4a65c_get_915e3 : ByteArray := prog_40_method_20_code
def yJx4a65c_get_915e3 : MethodName := ⟨RJx4a65c, "get", "(I)Ljava/lang/Object;"⟩
abbrev cJx4a65c_add_72be8 : ByteArray := prog_40_method_24_code
def yJx4a65c_add_72be8 : MethodName := ⟨RJx4a65c, "add", "(Ljava/lang/Object;[Ljava/lang/Object;I)V"⟩
abbrev cJx4a65c_add_9ea2d : ByteArray := prog_40_method_25_code
def yJx4a65c_add_9ea2d : MethodName := ⟨RJx4a65c, "add", "(Ljava/lang/Object;)Z"⟩
def RJ7 : String := "java/util/Arrays"
def TJ7 : u_T := fun k => match k with
  | _ => ("", "", "", false)
def tyJ7 : Nat → FieldType := fun k => match k with
  | _ => .int
abbrev wsJ70 : List Cond := u_ws RJ7 TJ7 0
theorem nmJ7 : ∀ a, a < 0 → ∀ b, b < 0 → a ≠ b → (TJ7 a).2.1 ≠ (TJ7 b).2.1 := by decide +kernel
theorem tyJ7_ok : ∀ k, k < 0 → parseFieldDescriptor (TJ7 k).2.2.1 = some (tyJ7 k) := by decide +kernel
abbrev cJ7_copyOf_1904c : ByteArray := prog_41_method_119_code
def yJ7_copyOf_1904c : MethodName := ⟨RJ7, "copyOf", "([Ljava/lang/Object;I)[Ljava/lang/Object;"⟩
abbrev cJ7_copyOf_6403c : ByteArray := prog_41_method_120_code
def yJ7_copyOf_6403c : MethodName := ⟨RJ7, "copyOf", "([Ljava/lang/Object;ILjava/lang/Class;)[Ljava/lang/Object;"⟩
def RJx5ef63 : String := "java/util/Collection"
def TJx5ef63 : u_T := fun k => match k with
  | _ => ("", "", "", false)
def tyJx5ef63 : Nat → FieldType := fun k => match k with
  | _ => .int
abbrev wsJx5ef630 : List Cond := u_ws RJx5ef63 TJx5ef63 0
theorem nmJx5ef63 : ∀ a, a < 0 → ∀ b, b < 0 → a ≠ b → (TJx5ef63 a).2.1 ≠ (TJx5ef63 b).2.1 := by decide +kernel
theorem tyJx5ef63_ok : ∀ k, k < 0 → parseFieldDescriptor (TJx5ef63 k).2.2.1 = some (tyJx5ef63 k) := by decide +kernel
def RJxbd725 : String := "java/util/List"
def TJxbd725 : u_T := fun k => match k with
  | _ => ("", "", "", false)
def tyJxbd725 : Nat → FieldType := fun k => match k with
  | _ => .int
abbrev wsJxbd7250 : List Cond := u_ws RJxbd725 TJxbd725 0
theorem nmJxbd725 : ∀ a, a < 0 → ∀ b, b < 0 → a ≠ b → (TJxbd725 a).2.1 ≠ (TJxbd725 b).2.1 := by decide +kernel
theorem tyJxbd725_ok : ∀ k, k < 0 → parseFieldDescriptor (TJxbd725 k).2.2.1 = some (tyJxbd725 k) := by decide +kernel
def RJ15 : String := "java/util/Objects"
def TJ15 : u_T := fun k => match k with
  | _ => ("", "", "", false)
def tyJ15 : Nat → FieldType := fun k => match k with
  | _ => .int
abbrev wsJ150 : List Cond := u_ws RJ15 TJ15 0
theorem nmJ15 : ∀ a, a < 0 → ∀ b, b < 0 → a ≠ b → (TJ15 a).2.1 ≠ (TJ15 b).2.1 := by decide +kernel
theorem tyJ15_ok : ∀ k, k < 0 → parseFieldDescriptor (TJ15 k).2.2.1 = some (tyJ15 k) := by decide +kernel
abbrev cJ15_checkIndex_7cf53 : ByteArray := prog_45_method_17_code
def yJ15_checkIndex_7cf53 : MethodName := ⟨RJ15, "checkIndex", "(II)I"⟩
def RJxf0a74 : String := "java/util/RandomAccess"
def TJxf0a74 : u_T := fun k => match k with
  | _ => ("", "", "", false)
def tyJxf0a74 : Nat → FieldType := fun k => match k with
  | _ => .int
abbrev wsJxf0a740 : List Cond := u_ws RJxf0a74 TJxf0a74 0
theorem nmJxf0a74 : ∀ a, a < 0 → ∀ b, b < 0 → a ≠ b → (TJxf0a74 a).2.1 ≠ (TJxf0a74 b).2.1 := by decide +kernel
theorem tyJxf0a74_ok : ∀ k, k < 0 → parseFieldDescriptor (TJxf0a74 k).2.2.1 = some (tyJxf0a74 k) := by decide +kernel
def RJxa66e6 : String := "java/util/SequencedCollection"
def TJxa66e6 : u_T := fun k => match k with
  | _ => ("", "", "", false)
def tyJxa66e6 : Nat → FieldType := fun k => match k with
  | _ => .int
abbrev wsJxa66e60 : List Cond := u_ws RJxa66e6 TJxa66e6 0
theorem nmJxa66e6 : ∀ a, a < 0 → ∀ b, b < 0 → a ≠ b → (TJxa66e6 a).2.1 ≠ (TJxa66e6 b).2.1 := by decide +kernel
theorem tyJxa66e6_ok : ∀ k, k < 0 → parseFieldDescriptor (TJxa66e6 k).2.2.1 = some (tyJxa66e6 k) := by decide +kernel
def RJ8 : String := "jdk/internal/util/ArraysSupport"
def TJ8 : u_T := fun k => match k with
  | _ => ("", "", "", false)
def tyJ8 : Nat → FieldType := fun k => match k with
  | _ => .int
abbrev wsJ80 : List Cond := u_ws RJ8 TJ8 0
theorem nmJ8 : ∀ a, a < 0 → ∀ b, b < 0 → a ≠ b → (TJ8 a).2.1 ≠ (TJ8 b).2.1 := by decide +kernel
theorem tyJ8_ok : ∀ k, k < 0 → parseFieldDescriptor (TJ8 k).2.2.1 = some (tyJ8 k) := by decide +kernel
abbrev cJ8_newLength_cabcc : ByteArray := prog_48_method_27_code
def yJ8_newLength_cabcc : MethodName := ⟨RJ8, "newLength", "(III)I"⟩
abbrev cJ8_hugeLength_7cf53 : ByteArray := prog_48_method_28_code
def yJ8_hugeLength_7cf53 : MethodName := ⟨RJ8, "hugeLength", "(II)I"⟩
def RJ3 : String := "jdk/internal/util/Preconditions"
def TJ3 : u_T := fun k => match k with
  | _ => ("", "", "", false)
def tyJ3 : Nat → FieldType := fun k => match k with
  | _ => .int
abbrev wsJ30 : List Cond := u_ws RJ3 TJ3 0
theorem nmJ3 : ∀ a, a < 0 → ∀ b, b < 0 → a ≠ b → (TJ3 a).2.1 ≠ (TJ3 b).2.1 := by decide +kernel
theorem tyJ3_ok : ∀ k, k < 0 → parseFieldDescriptor (TJ3 k).2.2.1 = some (tyJ3 k) := by decide +kernel
abbrev cJ3_checkIndex_8e157 : ByteArray := prog_49_method_11_code
def yJ3_checkIndex_8e157 : MethodName := ⟨RJ3, "checkIndex", "(IILjava/util/function/BiFunction;)I"⟩
abbrev cJ3_checkFromToIndex_8c36e : ByteArray := prog_49_method_12_code
def yJ3_checkFromToIndex_8c36e : MethodName := ⟨RJ3, "checkFromToIndex", "(IIILjava/util/function/BiFunction;)I"⟩
def RL : String := "TenonyardLaw"
abbrev cL_node : ByteArray := method_3_code
def yL_node : MethodName := ⟨RL, "node", "(LTenonyard;IIC[J)I"⟩
abbrev cL_member : ByteArray := method_4_code
def yL_member : MethodName := ⟨RL, "member", "(LTenonyard;IIII[J)I"⟩
abbrev cL_load : ByteArray := method_5_code
def yL_load : MethodName := ⟨RL, "load", "(LTenonyard;III[J)I"⟩
abbrev cL_force : ByteArray := method_6_code
def yL_force : MethodName := ⟨RL, "force", "(LTenonyard;I[J)I"⟩
abbrev cL_pull : ByteArray := method_7_code
def yL_pull : MethodName := ⟨RL, "pull", "(LTenonyard;I[J)I"⟩
abbrev cL_bearing : ByteArray := method_8_code
def yL_bearing : MethodName := ⟨RL, "bearing", "(LTenonyard;IZ[J)I"⟩
abbrev cL_isBalanced : ByteArray := method_9_code
def yL_isBalanced : MethodName := ⟨RL, "isBalanced", "(LTenonyard;I[J)I"⟩
abbrev cL_weakest : ByteArray := method_10_code
def yL_weakest : MethodName := ⟨RL, "weakest", "(LTenonyard;[J)I"⟩
abbrev cL_joint : ByteArray := method_11_code
def yL_joint : MethodName := ⟨RL, "joint", "(LTenonyard;IICII[J)I"⟩
abbrev cL_isRight : ByteArray := method_12_code
def yL_isRight : MethodName := ⟨RL, "isRight", "(LTenonyard;I[J)I"⟩
abbrev cL_misread : ByteArray := method_13_code
def yL_misread : MethodName := ⟨RL, "misread", "(LTenonyard;I[J)I"⟩
abbrev cL_cutAt : ByteArray := method_14_code
def yL_cutAt : MethodName := ⟨RL, "cutAt", "(LTenonyard;II[J)I"⟩
abbrev cL_dry : ByteArray := method_15_code
def yL_dry : MethodName := ⟨RL, "dry", "(LTenonyard;II[J)I"⟩
abbrev cL_gap : ByteArray := method_16_code
def yL_gap : MethodName := ⟨RL, "gap", "(LTenonyard;I[J)I"⟩
abbrev cL_widest : ByteArray := method_17_code
def yL_widest : MethodName := ⟨RL, "widest", "(LTenonyard;[J)I"⟩
abbrev cL_stick : ByteArray := method_18_code
def yL_stick : MethodName := ⟨RL, "stick", "(LTenonyard;III[J)I"⟩
abbrev cL_piece : ByteArray := method_19_code
def yL_piece : MethodName := ⟨RL, "piece", "(LTenonyard;I[J)I"⟩
abbrev cL_stickOf : ByteArray := method_20_code
def yL_stickOf : MethodName := ⟨RL, "stickOf", "(LTenonyard;I[J)I"⟩
abbrev cL_wood : ByteArray := method_21_code
def yL_wood : MethodName := ⟨RL, "wood", "(LTenonyard;[J)I"⟩
abbrev cL_waste : ByteArray := method_22_code
def yL_waste : MethodName := ⟨RL, "waste", "(LTenonyard;I[J)I"⟩
abbrev cL_setProps : ByteArray := method_23_code
def yL_setProps : MethodName := ⟨RL, "setProps", "(LTenonyard;I[J)I"⟩
abbrev cL_raised : ByteArray := method_24_code
def yL_raised : MethodName := ⟨RL, "raised", "(LTenonyard;I[J)I"⟩
abbrev cL_props : ByteArray := method_25_code
def yL_props : MethodName := ⟨RL, "props", "(LTenonyard;I[J)I"⟩
abbrev cL_stuck : ByteArray := method_26_code
def yL_stuck : MethodName := ⟨RL, "stuck", "(LTenonyard;[J)I"⟩
abbrev cL_allForce : ByteArray := method_27_code
def yL_allForce : MethodName := ⟨RL, "allForce", "(LTenonyard;[J)I"⟩
abbrev cL_rightShare : ByteArray := method_28_code
def yL_rightShare : MethodName := ⟨RL, "rightShare", "(LTenonyard;[D)I"⟩
abbrev cL_meanPull : ByteArray := method_29_code
def yL_meanPull : MethodName := ⟨RL, "meanPull", "(LTenonyard;[D)I"⟩
abbrev cL_law : ByteArray := code
def yL_law : MethodName := ⟨RL, "law", "([I)Z"⟩
abbrev vwCl : List vw_C := [(RJ0, TJ0, 2), (RJx00060, TJx00060, 6), (RJx4a65c, TJx4a65c, 3), (RX0, TX0, 11), (RX1, TX1, 17), (RX2, TX2, 12), (RX3, TX3, 6), (RX4, TX4, 9), (RX5, TX5, 1), (RX6, TX6, 5), (RX7, TX7, 5), (RX8, TX8, 6), (RX9, TX9, 6), (RX10, TX10, 3), (RX11, TX11, 1), (RX12, TX12, 27)]
end
section
/-! words: one list for all methods -/
def GW : List Cond := lw_tbl.filter goodWord
def nwWord : Cond → Bool
  | .castable .. | .declares _ | .fieldLinkNest .. | .methodLinkNest .. => true
  | _ => false
def NW : List Cond := lw_tbl.filter nwWord
theorem gw_of {i : Nat} {w : Cond} (h : lw_tbl[i]? = some w) (g : goodWord w = true) : w ∈ GW := List.mem_filter.mpr ⟨List.mem_of_getElem? h, g⟩
theorem nw_of {i : Nat} {w : Cond} (h : lw_tbl[i]? = some w) (g : nwWord w = true) : w ∈ NW := List.mem_filter.mpr ⟨List.mem_of_getElem? h, g⟩
theorem gw_good {w : Cond} (h : w ∈ GW) : (w.onTables && w.keeps) = true ∨ ∃ ty, w = .arrayClass ty := good_of_word (List.mem_filter.mp h).2
theorem gw_all : GoodIn GW GW := fun _ h => ⟨h, gw_good h⟩
end
section
theorem dX6_init_0 : decode cX6_init 0 = .ok (.aload_n 0, 1) := by decide +kernel
theorem dX6_init_1 : decode cX6_init 1 = .ok (.invokespecial 3, 3) := by decide +kernel
theorem dX6_init_4 : decode cX6_init 4 = .ok (.aload_n 0, 1) := by decide +kernel
theorem dX6_init_5 : decode cX6_init 5 = .ok (.new 9, 3) := by decide +kernel
theorem dX6_init_8 : decode cX6_init 8 = .ok (.dup, 1) := by decide +kernel
theorem dX6_init_9 : decode cX6_init 9 = .ok (.invokespecial 11, 3) := by decide +kernel
theorem dX2_init_0 : decode cX2_init 0 = .ok (.aload_n 0, 1) := by decide +kernel
theorem dX2_init_1 : decode cX2_init 1 = .ok (.invokespecial 3, 3) := by decide +kernel
theorem dX2_init_4 : decode cX2_init 4 = .ok (.aload_n 0, 1) := by decide +kernel
theorem dX2_init_5 : decode cX2_init 5 = .ok (.bipush 16, 2) := by decide +kernel
theorem dX2_init_7 : decode cX2_init 7 = .ok (.newarray .int, 2) := by decide +kernel
theorem dX2_init_9 : decode cX2_init 9 = .ok (.putfield 9, 3) := by decide +kernel
theorem dX2_init_12 : decode cX2_init 12 = .ok (.aload_n 0, 1) := by decide +kernel
theorem dX2_init_13 : decode cX2_init 13 = .ok (.bipush 16, 2) := by decide +kernel
theorem dX2_init_15 : decode cX2_init 15 = .ok (.newarray .int, 2) := by decide +kernel
theorem dX2_init_17 : decode cX2_init 17 = .ok (.putfield 15, 3) := by decide +kernel
theorem dX2_init_20 : decode cX2_init 20 = .ok (.aload_n 0, 1) := by decide +kernel
theorem dX2_init_21 : decode cX2_init 21 = .ok (.bipush 8, 2) := by decide +kernel
theorem dX2_init_23 : decode cX2_init 23 = .ok (.newarray .int, 2) := by decide +kernel
theorem dX2_init_25 : decode cX2_init 25 = .ok (.putfield 18, 3) := by decide +kernel
theorem dX2_init_28 : decode cX2_init 28 = .ok (.aload_n 0, 1) := by decide +kernel
theorem dX2_init_29 : decode cX2_init 29 = .ok (.bipush 8, 2) := by decide +kernel
theorem dX2_init_31 : decode cX2_init 31 = .ok (.newarray .char, 2) := by decide +kernel
theorem dX2_init_33 : decode cX2_init 33 = .ok (.putfield 21, 3) := by decide +kernel
theorem dX2_init_36 : decode cX2_init 36 = .ok (.aload_n 0, 1) := by decide +kernel
theorem dX2_init_37 : decode cX2_init 37 = .ok (.bipush 9, 2) := by decide +kernel
theorem dX2_init_39 : decode cX2_init 39 = .ok (.newarray .int, 2) := by decide +kernel
theorem dX2_init_41 : decode cX2_init 41 = .ok (.putfield 25, 3) := by decide +kernel
theorem dX2_init_44 : decode cX2_init 44 = .ok (.aload_n 0, 1) := by decide +kernel
theorem dX2_init_45 : decode cX2_init 45 = .ok (.bipush 9, 2) := by decide +kernel
theorem dX2_init_47 : decode cX2_init 47 = .ok (.newarray .int, 2) := by decide +kernel
theorem dX2_init_49 : decode cX2_init 49 = .ok (.putfield 28, 3) := by decide +kernel
theorem dX2_init_52 : decode cX2_init 52 = .ok (.aload_n 0, 1) := by decide +kernel
theorem dX2_init_53 : decode cX2_init 53 = .ok (.bipush 9, 2) := by decide +kernel
theorem dX2_init_55 : decode cX2_init 55 = .ok (.newarray .int, 2) := by decide +kernel
theorem dX2_init_57 : decode cX2_init 57 = .ok (.putfield 31, 3) := by decide +kernel
theorem dX2_init_60 : decode cX2_init 60 = .ok (.aload_n 0, 1) := by decide +kernel
theorem dX2_init_61 : decode cX2_init 61 = .ok (.bipush 9, 2) := by decide +kernel
theorem dX2_init_63 : decode cX2_init 63 = .ok (.newarray .int, 2) := by decide +kernel
theorem dX2_init_65 : decode cX2_init 65 = .ok (.putfield 34, 3) := by decide +kernel
theorem dX2_init_68 : decode cX2_init 68 = .ok (.aload_n 0, 1) := by decide +kernel
theorem dX2_init_69 : decode cX2_init 69 = .ok (.bipush 9, 2) := by decide +kernel
theorem dX2_init_71 : decode cX2_init 71 = .ok (.newarray .int, 2) := by decide +kernel
theorem dX2_init_73 : decode cX2_init 73 = .ok (.putfield 37, 3) := by decide +kernel
theorem dX2_init_76 : decode cX2_init 76 = .ok (.aload_n 0, 1) := by decide +kernel
theorem dX2_init_77 : decode cX2_init 77 = .ok (.bipush 9, 2) := by decide +kernel
theorem dX2_init_79 : decode cX2_init 79 = .ok (.newarray .int, 2) := by decide +kernel
theorem dX2_init_81 : decode cX2_init 81 = .ok (.putfield 40, 3) := by decide +kernel
theorem dX2_init_84 : decode cX2_init 84 = .ok (.return_, 1) := by decide +kernel
theorem dX6_init_12 : decode cX6_init 12 = .ok (.putfield 12, 3) := by decide +kernel
theorem dX6_init_15 : decode cX6_init 15 = .ok (.aload_n 0, 1) := by decide +kernel
theorem dX6_init_16 : decode cX6_init 16 = .ok (.new 16, 3) := by decide +kernel
theorem dX6_init_19 : decode cX6_init 19 = .ok (.dup, 1) := by decide +kernel
theorem dX6_init_20 : decode cX6_init 20 = .ok (.invokespecial 18, 3) := by decide +kernel
theorem dX1_init_0 : decode cX1_init 0 = .ok (.aload_n 0, 1) := by decide +kernel
theorem dX1_init_1 : decode cX1_init 1 = .ok (.invokespecial 3, 3) := by decide +kernel
theorem dX1_init_4 : decode cX1_init 4 = .ok (.aload_n 0, 1) := by decide +kernel
theorem dX1_init_5 : decode cX1_init 5 = .ok (.bipush 25, 2) := by decide +kernel
theorem dX1_init_7 : decode cX1_init 7 = .ok (.newarray .long, 2) := by decide +kernel
theorem dX1_init_9 : decode cX1_init 9 = .ok (.putfield 11, 3) := by decide +kernel
theorem dX1_init_12 : decode cX1_init 12 = .ok (.aload_n 0, 1) := by decide +kernel
theorem dX1_init_13 : decode cX1_init 13 = .ok (.bipush 25, 2) := by decide +kernel
theorem dX1_init_15 : decode cX1_init 15 = .ok (.newarray .long, 2) := by decide +kernel
theorem dX1_init_17 : decode cX1_init 17 = .ok (.putfield 15, 3) := by decide +kernel
theorem dX1_init_20 : decode cX1_init 20 = .ok (.aload_n 0, 1) := by decide +kernel
theorem dX1_init_21 : decode cX1_init 21 = .ok (.bipush 9, 2) := by decide +kernel
theorem dX1_init_23 : decode cX1_init 23 = .ok (.newarray .long, 2) := by decide +kernel
theorem dX1_init_25 : decode cX1_init 25 = .ok (.putfield 18, 3) := by decide +kernel
theorem dX1_init_28 : decode cX1_init 28 = .ok (.aload_n 0, 1) := by decide +kernel
theorem dX1_init_29 : decode cX1_init 29 = .ok (.bipush 81, 2) := by decide +kernel
theorem dX1_init_31 : decode cX1_init 31 = .ok (.newarray .int, 2) := by decide +kernel
theorem dX1_init_33 : decode cX1_init 33 = .ok (.putfield 21, 3) := by decide +kernel
theorem dX1_init_36 : decode cX1_init 36 = .ok (.aload_n 0, 1) := by decide +kernel
theorem dX1_init_37 : decode cX1_init 37 = .ok (.bipush 9, 2) := by decide +kernel
theorem dX1_init_39 : decode cX1_init 39 = .ok (.newarray .int, 2) := by decide +kernel
theorem dX1_init_41 : decode cX1_init 41 = .ok (.putfield 25, 3) := by decide +kernel
theorem dX1_init_44 : decode cX1_init 44 = .ok (.aload_n 0, 1) := by decide +kernel
theorem dX1_init_45 : decode cX1_init 45 = .ok (.bipush 9, 2) := by decide +kernel
theorem dX1_init_47 : decode cX1_init 47 = .ok (.newarray .int, 2) := by decide +kernel
theorem dX1_init_49 : decode cX1_init 49 = .ok (.putfield 28, 3) := by decide +kernel
theorem dX1_init_52 : decode cX1_init 52 = .ok (.aload_n 0, 1) := by decide +kernel
theorem dX1_init_53 : decode cX1_init 53 = .ok (.sipush 512, 3) := by decide +kernel
theorem dX1_init_56 : decode cX1_init 56 = .ok (.newarray .long, 2) := by decide +kernel
theorem dX1_init_58 : decode cX1_init 58 = .ok (.putfield 31, 3) := by decide +kernel
theorem dX1_init_61 : decode cX1_init 61 = .ok (.aload_n 0, 1) := by decide +kernel
theorem dX1_init_62 : decode cX1_init 62 = .ok (.sipush 512, 3) := by decide +kernel
theorem dX1_init_65 : decode cX1_init 65 = .ok (.newarray .long, 2) := by decide +kernel
theorem dX1_init_67 : decode cX1_init 67 = .ok (.putfield 34, 3) := by decide +kernel
theorem dX1_init_70 : decode cX1_init 70 = .ok (.aload_n 0, 1) := by decide +kernel
theorem dX1_init_71 : decode cX1_init 71 = .ok (.sipush 512, 3) := by decide +kernel
theorem dX1_init_74 : decode cX1_init 74 = .ok (.newarray .long, 2) := by decide +kernel
theorem dX1_init_76 : decode cX1_init 76 = .ok (.putfield 37, 3) := by decide +kernel
theorem dX1_init_79 : decode cX1_init 79 = .ok (.aload_n 0, 1) := by decide +kernel
theorem dX1_init_80 : decode cX1_init 80 = .ok (.new 40, 3) := by decide +kernel
theorem dX1_init_83 : decode cX1_init 83 = .ok (.dup, 1) := by decide +kernel
theorem dX1_init_84 : decode cX1_init 84 = .ok (.invokespecial 42, 3) := by decide +kernel
theorem dX5_init_0 : decode cX5_init 0 = .ok (.aload_n 0, 1) := by decide +kernel
theorem dX5_init_1 : decode cX5_init 1 = .ok (.invokespecial 1, 3) := by decide +kernel
theorem dX5_init_4 : decode cX5_init 4 = .ok (.aload_n 0, 1) := by decide +kernel
theorem dX5_init_5 : decode cX5_init 5 = .ok (.bipush 8, 2) := by decide +kernel
theorem dX5_init_7 : decode cX5_init 7 = .ok (.newarray .long, 2) := by decide +kernel
theorem dX5_init_9 : decode cX5_init 9 = .ok (.putfield 9, 3) := by decide +kernel
theorem dX5_init_12 : decode cX5_init 12 = .ok (.return_, 1) := by decide +kernel
theorem dX1_init_87 : decode cX1_init 87 = .ok (.putfield 43, 3) := by decide +kernel
theorem dX1_init_90 : decode cX1_init 90 = .ok (.aload_n 0, 1) := by decide +kernel
theorem dX1_init_91 : decode cX1_init 91 = .ok (.new 40, 3) := by decide +kernel
theorem dX1_init_94 : decode cX1_init 94 = .ok (.dup, 1) := by decide +kernel
theorem dX1_init_95 : decode cX1_init 95 = .ok (.invokespecial 42, 3) := by decide +kernel
theorem dX1_init_98 : decode cX1_init 98 = .ok (.putfield 47, 3) := by decide +kernel
theorem dX1_init_101 : decode cX1_init 101 = .ok (.aload_n 0, 1) := by decide +kernel
theorem dX1_init_102 : decode cX1_init 102 = .ok (.new 40, 3) := by decide +kernel
theorem dX1_init_105 : decode cX1_init 105 = .ok (.dup, 1) := by decide +kernel
theorem dX1_init_106 : decode cX1_init 106 = .ok (.invokespecial 42, 3) := by decide +kernel
theorem dX1_init_109 : decode cX1_init 109 = .ok (.putfield 50, 3) := by decide +kernel
theorem dX1_init_112 : decode cX1_init 112 = .ok (.aload_n 0, 1) := by decide +kernel
theorem dX1_init_113 : decode cX1_init 113 = .ok (.new 40, 3) := by decide +kernel
theorem dX1_init_116 : decode cX1_init 116 = .ok (.dup, 1) := by decide +kernel
theorem dX1_init_117 : decode cX1_init 117 = .ok (.invokespecial 42, 3) := by decide +kernel
theorem dX1_init_120 : decode cX1_init 120 = .ok (.putfield 53, 3) := by decide +kernel
theorem dX1_init_123 : decode cX1_init 123 = .ok (.aload_n 0, 1) := by decide +kernel
theorem dX1_init_124 : decode cX1_init 124 = .ok (.new 40, 3) := by decide +kernel
theorem dX1_init_127 : decode cX1_init 127 = .ok (.dup, 1) := by decide +kernel
theorem dX1_init_128 : decode cX1_init 128 = .ok (.invokespecial 42, 3) := by decide +kernel
theorem dX1_init_131 : decode cX1_init 131 = .ok (.putfield 56, 3) := by decide +kernel
theorem dX1_init_134 : decode cX1_init 134 = .ok (.return_, 1) := by decide +kernel
theorem dX6_init_23 : decode cX6_init 23 = .ok (.putfield 19, 3) := by decide +kernel
theorem dX6_init_26 : decode cX6_init 26 = .ok (.aload_n 0, 1) := by decide +kernel
theorem dX6_init_27 : decode cX6_init 27 = .ok (.new 23, 3) := by decide +kernel
theorem dX6_init_30 : decode cX6_init 30 = .ok (.dup, 1) := by decide +kernel
theorem dX6_init_31 : decode cX6_init 31 = .ok (.invokespecial 25, 3) := by decide +kernel
theorem dX3_init_0 : decode cX3_init 0 = .ok (.aload_n 0, 1) := by decide +kernel
theorem dX3_init_1 : decode cX3_init 1 = .ok (.invokespecial 3, 3) := by decide +kernel
theorem dX3_init_4 : decode cX3_init 4 = .ok (.aload_n 0, 1) := by decide +kernel
theorem dX3_init_5 : decode cX3_init 5 = .ok (.bipush 12, 2) := by decide +kernel
theorem dX3_init_7 : decode cX3_init 7 = .ok (.newarray .int, 2) := by decide +kernel
theorem dX3_init_9 : decode cX3_init 9 = .ok (.putfield 9, 3) := by decide +kernel
theorem dX3_init_12 : decode cX3_init 12 = .ok (.aload_n 0, 1) := by decide +kernel
theorem dX3_init_13 : decode cX3_init 13 = .ok (.bipush 12, 2) := by decide +kernel
theorem dX3_init_15 : decode cX3_init 15 = .ok (.newarray .int, 2) := by decide +kernel
theorem dX3_init_17 : decode cX3_init 17 = .ok (.putfield 15, 3) := by decide +kernel
theorem dX3_init_20 : decode cX3_init 20 = .ok (.aload_n 0, 1) := by decide +kernel
theorem dX3_init_21 : decode cX3_init 21 = .ok (.bipush 12, 2) := by decide +kernel
theorem dX3_init_23 : decode cX3_init 23 = .ok (.newarray .int, 2) := by decide +kernel
theorem dX3_init_25 : decode cX3_init 25 = .ok (.putfield 18, 3) := by decide +kernel
theorem dX3_init_28 : decode cX3_init 28 = .ok (.aload_n 0, 1) := by decide +kernel
theorem dX3_init_29 : decode cX3_init 29 = .ok (.bipush 12, 2) := by decide +kernel
theorem dX3_init_31 : decode cX3_init 31 = .ok (.newarray .int, 2) := by decide +kernel
theorem dX3_init_33 : decode cX3_init 33 = .ok (.putfield 21, 3) := by decide +kernel
theorem dX3_init_36 : decode cX3_init 36 = .ok (.aload_n 0, 1) := by decide +kernel
theorem dX3_init_37 : decode cX3_init 37 = .ok (.bipush 12, 2) := by decide +kernel
theorem dX3_init_39 : decode cX3_init 39 = .ok (.newarray .int, 2) := by decide +kernel
theorem dX3_init_41 : decode cX3_init 41 = .ok (.putfield 24, 3) := by decide +kernel
theorem dX3_init_44 : decode cX3_init 44 = .ok (.return_, 1) := by decide +kernel
theorem dX6_init_34 : decode cX6_init 34 = .ok (.putfield 26, 3) := by decide +kernel
theorem dX6_init_37 : decode cX6_init 37 = .ok (.aload_n 0, 1) := by decide +kernel
theorem dX6_init_38 : decode cX6_init 38 = .ok (.new 30, 3) := by decide +kernel
theorem dX6_init_41 : decode cX6_init 41 = .ok (.dup, 1) := by decide +kernel
theorem dX6_init_42 : decode cX6_init 42 = .ok (.invokespecial 32, 3) := by decide +kernel
theorem dX0_init_0 : decode cX0_init 0 = .ok (.aload_n 0, 1) := by decide +kernel
theorem dX0_init_1 : decode cX0_init 1 = .ok (.invokespecial 3, 3) := by decide +kernel
theorem dX0_init_4 : decode cX0_init 4 = .ok (.aload_n 0, 1) := by decide +kernel
theorem dX0_init_5 : decode cX0_init 5 = .ok (.bipush 9, 2) := by decide +kernel
theorem dX0_init_7 : decode cX0_init 7 = .ok (.newarray .int, 2) := by decide +kernel
theorem dX0_init_9 : decode cX0_init 9 = .ok (.putfield 9, 3) := by decide +kernel
theorem dX0_init_12 : decode cX0_init 12 = .ok (.aload_n 0, 1) := by decide +kernel
theorem dX0_init_13 : decode cX0_init 13 = .ok (.iconst 5, 1) := by decide +kernel
theorem dX0_init_14 : decode cX0_init 14 = .ok (.newarray .int, 2) := by decide +kernel
theorem dX0_init_16 : decode cX0_init 16 = .ok (.putfield 15, 3) := by decide +kernel
theorem dX0_init_19 : decode cX0_init 19 = .ok (.aload_n 0, 1) := by decide +kernel
theorem dX0_init_20 : decode cX0_init 20 = .ok (.iconst 5, 1) := by decide +kernel
theorem dX0_init_21 : decode cX0_init 21 = .ok (.newarray .int, 2) := by decide +kernel
theorem dX0_init_23 : decode cX0_init 23 = .ok (.putfield 18, 3) := by decide +kernel
theorem dX0_init_26 : decode cX0_init 26 = .ok (.aload_n 0, 1) := by decide +kernel
theorem dX0_init_27 : decode cX0_init 27 = .ok (.iconst 5, 1) := by decide +kernel
theorem dX0_init_28 : decode cX0_init 28 = .ok (.newarray .int, 2) := by decide +kernel
theorem dX0_init_30 : decode cX0_init 30 = .ok (.putfield 21, 3) := by decide +kernel
theorem dX0_init_33 : decode cX0_init 33 = .ok (.aload_n 0, 1) := by decide +kernel
theorem dX0_init_34 : decode cX0_init 34 = .ok (.sipush 512, 3) := by decide +kernel
theorem dX0_init_37 : decode cX0_init 37 = .ok (.newarray .int, 2) := by decide +kernel
theorem dX0_init_39 : decode cX0_init 39 = .ok (.putfield 24, 3) := by decide +kernel
theorem dX0_init_42 : decode cX0_init 42 = .ok (.aload_n 0, 1) := by decide +kernel
theorem dX0_init_43 : decode cX0_init 43 = .ok (.sipush 512, 3) := by decide +kernel
theorem dX0_init_46 : decode cX0_init 46 = .ok (.newarray .int, 2) := by decide +kernel
theorem dX0_init_48 : decode cX0_init 48 = .ok (.putfield 27, 3) := by decide +kernel
theorem dX0_init_51 : decode cX0_init 51 = .ok (.aload_n 0, 1) := by decide +kernel
theorem dX0_init_52 : decode cX0_init 52 = .ok (.sipush 512, 3) := by decide +kernel
theorem dX0_init_55 : decode cX0_init 55 = .ok (.newarray .long, 2) := by decide +kernel
theorem dX0_init_57 : decode cX0_init 57 = .ok (.putfield 30, 3) := by decide +kernel
theorem dX0_init_60 : decode cX0_init 60 = .ok (.return_, 1) := by decide +kernel
theorem dX6_init_45 : decode cX6_init 45 = .ok (.putfield 33, 3) := by decide +kernel
theorem dX6_init_48 : decode cX6_init 48 = .ok (.aload_n 0, 1) := by decide +kernel
theorem dX6_init_49 : decode cX6_init 49 = .ok (.new 37, 3) := by decide +kernel
theorem dX6_init_52 : decode cX6_init 52 = .ok (.dup, 1) := by decide +kernel
theorem dX6_init_53 : decode cX6_init 53 = .ok (.invokespecial 39, 3) := by decide +kernel
theorem dX4_init_0 : decode cX4_init 0 = .ok (.aload_n 0, 1) := by decide +kernel
theorem dX4_init_1 : decode cX4_init 1 = .ok (.invokespecial 3, 3) := by decide +kernel
theorem dX4_init_4 : decode cX4_init 4 = .ok (.aload_n 0, 1) := by decide +kernel
theorem dX4_init_5 : decode cX4_init 5 = .ok (.iconst 2, 1) := by decide +kernel
theorem dX4_init_6 : decode cX4_init 6 = .ok (.putfield 9, 3) := by decide +kernel
theorem dX4_init_9 : decode cX4_init 9 = .ok (.aload_n 0, 1) := by decide +kernel
theorem dX4_init_10 : decode cX4_init 10 = .ok (.bipush 45, 2) := by decide +kernel
theorem dX4_init_12 : decode cX4_init 12 = .ok (.newarray .int, 2) := by decide +kernel
theorem dX4_init_14 : decode cX4_init 14 = .ok (.putfield 17, 3) := by decide +kernel
theorem dX4_init_17 : decode cX4_init 17 = .ok (.aload_n 0, 1) := by decide +kernel
theorem dX4_init_18 : decode cX4_init 18 = .ok (.bipush 9, 2) := by decide +kernel
theorem dX4_init_20 : decode cX4_init 20 = .ok (.newarray .int, 2) := by decide +kernel
theorem dX4_init_22 : decode cX4_init 22 = .ok (.putfield 21, 3) := by decide +kernel
theorem dX4_init_25 : decode cX4_init 25 = .ok (.aload_n 0, 1) := by decide +kernel
theorem dX4_init_26 : decode cX4_init 26 = .ok (.sipush 512, 3) := by decide +kernel
theorem dX4_init_29 : decode cX4_init 29 = .ok (.newarray .int, 2) := by decide +kernel
theorem dX4_init_31 : decode cX4_init 31 = .ok (.putfield 24, 3) := by decide +kernel
theorem dX4_init_34 : decode cX4_init 34 = .ok (.aload_n 0, 1) := by decide +kernel
theorem dX4_init_35 : decode cX4_init 35 = .ok (.sipush 512, 3) := by decide +kernel
theorem dX4_init_38 : decode cX4_init 38 = .ok (.newarray .boolean, 2) := by decide +kernel
theorem dX4_init_40 : decode cX4_init 40 = .ok (.putfield 27, 3) := by decide +kernel
theorem dX4_init_43 : decode cX4_init 43 = .ok (.aload_n 0, 1) := by decide +kernel
theorem dX4_init_44 : decode cX4_init 44 = .ok (.bipush 9, 2) := by decide +kernel
theorem dX4_init_46 : decode cX4_init 46 = .ok (.newarray .int, 2) := by decide +kernel
theorem dX4_init_48 : decode cX4_init 48 = .ok (.putfield 31, 3) := by decide +kernel
theorem dX4_init_51 : decode cX4_init 51 = .ok (.return_, 1) := by decide +kernel
theorem dX6_init_56 : decode cX6_init 56 = .ok (.putfield 40, 3) := by decide +kernel
theorem dX6_init_59 : decode cX6_init 59 = .ok (.return_, 1) := by decide +kernel
theorem dX12_init_0 : decode cX12_init 0 = .ok (.aload_n 0, 1) := by decide +kernel
theorem dX12_init_1 : decode cX12_init 1 = .ok (.invokespecial 1, 3) := by decide +kernel
theorem dX12_init_4 : decode cX12_init 4 = .ok (.aload_n 0, 1) := by decide +kernel
theorem dX12_init_5 : decode cX12_init 5 = .ok (.new 7, 3) := by decide +kernel
theorem dX12_init_8 : decode cX12_init 8 = .ok (.dup, 1) := by decide +kernel
theorem dX12_init_9 : decode cX12_init 9 = .ok (.invokespecial 9, 3) := by decide +kernel
theorem dJx4a65c_init_da8c8_0 : decode cJx4a65c_init_da8c8 0 = .ok (.aload_n 0, 1) := by decide +kernel
theorem dJx4a65c_init_da8c8_1 : decode cJx4a65c_init_da8c8 1 = .ok (.invokespecial 1, 3) := by decide +kernel
theorem dJxc12de_init_da8c8_0 : decode cJxc12de_init_da8c8 0 = .ok (.aload_n 0, 1) := by decide +kernel
theorem dJxc12de_init_da8c8_1 : decode cJxc12de_init_da8c8 1 = .ok (.invokespecial 1, 3) := by decide +kernel
theorem dJxa1e45_init_da8c8_0 : decode cJxa1e45_init_da8c8 0 = .ok (.aload_n 0, 1) := by decide +kernel
theorem dJxa1e45_init_da8c8_1 : decode cJxa1e45_init_da8c8 1 = .ok (.invokespecial 1, 3) := by decide +kernel
theorem dJxa1e45_init_da8c8_4 : decode cJxa1e45_init_da8c8 4 = .ok (.return_, 1) := by decide +kernel
theorem dJxc12de_init_da8c8_4 : decode cJxc12de_init_da8c8 4 = .ok (.aload_n 0, 1) := by decide +kernel
theorem dJxc12de_init_da8c8_5 : decode cJxc12de_init_da8c8 5 = .ok (.iconst 0, 1) := by decide +kernel
theorem dJxc12de_init_da8c8_6 : decode cJxc12de_init_da8c8 6 = .ok (.putfield 7, 3) := by decide +kernel
theorem dJxc12de_init_da8c8_9 : decode cJxc12de_init_da8c8 9 = .ok (.return_, 1) := by decide +kernel
theorem dJx4a65c_init_da8c8_4 : decode cJx4a65c_init_da8c8 4 = .ok (.aload_n 0, 1) := by decide +kernel
theorem dJx4a65c_init_da8c8_5 : decode cJx4a65c_init_da8c8 5 = .ok (.getstatic 39, 3) := by decide +kernel
theorem dJx4a65c_init_da8c8_8 : decode cJx4a65c_init_da8c8 8 = .ok (.putfield 9, 3) := by decide +kernel
theorem dJx4a65c_init_da8c8_11 : decode cJx4a65c_init_da8c8 11 = .ok (.return_, 1) := by decide +kernel
theorem dX12_init_12 : decode cX12_init 12 = .ok (.putfield 10, 3) := by decide +kernel
theorem dX12_init_15 : decode cX12_init 15 = .ok (.aload_n 0, 1) := by decide +kernel
theorem dX12_init_16 : decode cX12_init 16 = .ok (.new 7, 3) := by decide +kernel
theorem dX12_init_19 : decode cX12_init 19 = .ok (.dup, 1) := by decide +kernel
theorem dX12_init_20 : decode cX12_init 20 = .ok (.invokespecial 9, 3) := by decide +kernel
theorem dX12_init_23 : decode cX12_init 23 = .ok (.putfield 16, 3) := by decide +kernel
theorem dX12_init_26 : decode cX12_init 26 = .ok (.aload_n 0, 1) := by decide +kernel
theorem dX12_init_27 : decode cX12_init 27 = .ok (.new 7, 3) := by decide +kernel
theorem dX12_init_30 : decode cX12_init 30 = .ok (.dup, 1) := by decide +kernel
theorem dX12_init_31 : decode cX12_init 31 = .ok (.invokespecial 9, 3) := by decide +kernel
theorem dX12_init_34 : decode cX12_init 34 = .ok (.putfield 19, 3) := by decide +kernel
theorem dX12_init_37 : decode cX12_init 37 = .ok (.aload_n 0, 1) := by decide +kernel
theorem dX12_init_38 : decode cX12_init 38 = .ok (.new 7, 3) := by decide +kernel
theorem dX12_init_41 : decode cX12_init 41 = .ok (.dup, 1) := by decide +kernel
theorem dX12_init_42 : decode cX12_init 42 = .ok (.invokespecial 9, 3) := by decide +kernel
theorem dX12_init_45 : decode cX12_init 45 = .ok (.putfield 22, 3) := by decide +kernel
theorem dX12_init_48 : decode cX12_init 48 = .ok (.aload_n 0, 1) := by decide +kernel
theorem dX12_init_49 : decode cX12_init 49 = .ok (.sipush 512, 3) := by decide +kernel
theorem dX12_init_52 : decode cX12_init 52 = .ok (.newarray .long, 2) := by decide +kernel
theorem dX12_init_54 : decode cX12_init 54 = .ok (.putfield 25, 3) := by decide +kernel
theorem dX12_init_57 : decode cX12_init 57 = .ok (.aload_n 0, 1) := by decide +kernel
theorem dX12_init_58 : decode cX12_init 58 = .ok (.bipush 9, 2) := by decide +kernel
theorem dX12_init_60 : decode cX12_init 60 = .ok (.newarray .long, 2) := by decide +kernel
theorem dX12_init_62 : decode cX12_init 62 = .ok (.putfield 29, 3) := by decide +kernel
theorem dX12_init_65 : decode cX12_init 65 = .ok (.aload_n 0, 1) := by decide +kernel
theorem dX12_init_66 : decode cX12_init 66 = .ok (.bipush 9, 2) := by decide +kernel
theorem dX12_init_68 : decode cX12_init 68 = .ok (.newarray .long, 2) := by decide +kernel
theorem dX12_init_70 : decode cX12_init 70 = .ok (.putfield 32, 3) := by decide +kernel
theorem dX12_init_73 : decode cX12_init 73 = .ok (.aload_n 0, 1) := by decide +kernel
theorem dX12_init_74 : decode cX12_init 74 = .ok (.sipush 512, 3) := by decide +kernel
theorem dX12_init_77 : decode cX12_init 77 = .ok (.newarray .boolean, 2) := by decide +kernel
theorem dX12_init_79 : decode cX12_init 79 = .ok (.putfield 35, 3) := by decide +kernel
theorem dX12_init_82 : decode cX12_init 82 = .ok (.aload_n 0, 1) := by decide +kernel
theorem dX12_init_83 : decode cX12_init 83 = .ok (.sipush 512, 3) := by decide +kernel
theorem dX12_init_86 : decode cX12_init 86 = .ok (.newarray .boolean, 2) := by decide +kernel
theorem dX12_init_88 : decode cX12_init 88 = .ok (.putfield 39, 3) := by decide +kernel
theorem dX12_init_91 : decode cX12_init 91 = .ok (.aload_n 0, 1) := by decide +kernel
theorem dX12_init_92 : decode cX12_init 92 = .ok (.sipush 512, 3) := by decide +kernel
theorem dX12_init_95 : decode cX12_init 95 = .ok (.newarray .int, 2) := by decide +kernel
theorem dX12_init_97 : decode cX12_init 97 = .ok (.putfield 42, 3) := by decide +kernel
theorem dX12_init_100 : decode cX12_init 100 = .ok (.aload_n 0, 1) := by decide +kernel
theorem dX12_init_101 : decode cX12_init 101 = .ok (.bipush 9, 2) := by decide +kernel
theorem dX12_init_103 : decode cX12_init 103 = .ok (.newarray .int, 2) := by decide +kernel
theorem dX12_init_105 : decode cX12_init 105 = .ok (.putfield 46, 3) := by decide +kernel
theorem dX12_init_108 : decode cX12_init 108 = .ok (.aload_n 0, 1) := by decide +kernel
theorem dX12_init_109 : decode cX12_init 109 = .ok (.bipush 9, 2) := by decide +kernel
theorem dX12_init_111 : decode cX12_init 111 = .ok (.newarray .int, 2) := by decide +kernel
theorem dX12_init_113 : decode cX12_init 113 = .ok (.putfield 49, 3) := by decide +kernel
theorem dX12_init_116 : decode cX12_init 116 = .ok (.aload_n 0, 1) := by decide +kernel
theorem dX12_init_117 : decode cX12_init 117 = .ok (.bipush 9, 2) := by decide +kernel
theorem dX12_init_119 : decode cX12_init 119 = .ok (.newarray .int, 2) := by decide +kernel
theorem dX12_init_121 : decode cX12_init 121 = .ok (.putfield 52, 3) := by decide +kernel
theorem dX12_init_124 : decode cX12_init 124 = .ok (.aload_n 0, 1) := by decide +kernel
theorem dX12_init_125 : decode cX12_init 125 = .ok (.iconst 5, 1) := by decide +kernel
theorem dX12_init_126 : decode cX12_init 126 = .ok (.newarray .int, 2) := by decide +kernel
theorem dX12_init_128 : decode cX12_init 128 = .ok (.putfield 55, 3) := by decide +kernel
theorem dX12_init_131 : decode cX12_init 131 = .ok (.aload_n 0, 1) := by decide +kernel
theorem dX12_init_132 : decode cX12_init 132 = .ok (.bipush 9, 2) := by decide +kernel
theorem dX12_init_134 : decode cX12_init 134 = .ok (.newarray .int, 2) := by decide +kernel
theorem dX12_init_136 : decode cX12_init 136 = .ok (.putfield 58, 3) := by decide +kernel
theorem dX12_init_139 : decode cX12_init 139 = .ok (.aload_n 0, 1) := by decide +kernel
theorem dX12_init_140 : decode cX12_init 140 = .ok (.sipush 512, 3) := by decide +kernel
theorem dX12_init_143 : decode cX12_init 143 = .ok (.newarray .int, 2) := by decide +kernel
theorem dX12_init_145 : decode cX12_init 145 = .ok (.putfield 61, 3) := by decide +kernel
theorem dX12_init_148 : decode cX12_init 148 = .ok (.aload_n 0, 1) := by decide +kernel
theorem dX12_init_149 : decode cX12_init 149 = .ok (.sipush 512, 3) := by decide +kernel
theorem dX12_init_152 : decode cX12_init 152 = .ok (.newarray .int, 2) := by decide +kernel
theorem dX12_init_154 : decode cX12_init 154 = .ok (.putfield 64, 3) := by decide +kernel
theorem dX12_init_157 : decode cX12_init 157 = .ok (.aload_n 0, 1) := by decide +kernel
theorem dX12_init_158 : decode cX12_init 158 = .ok (.sipush 512, 3) := by decide +kernel
theorem dX12_init_161 : decode cX12_init 161 = .ok (.newarray .int, 2) := by decide +kernel
theorem dX12_init_163 : decode cX12_init 163 = .ok (.putfield 67, 3) := by decide +kernel
theorem dX12_init_166 : decode cX12_init 166 = .ok (.aload_n 0, 1) := by decide +kernel
theorem dX12_init_167 : decode cX12_init 167 = .ok (.iconst 2, 1) := by decide +kernel
theorem dX12_init_168 : decode cX12_init 168 = .ok (.putfield 70, 3) := by decide +kernel
theorem dX12_init_171 : decode cX12_init 171 = .ok (.return_, 1) := by decide +kernel
theorem dL_law_192 : decode cL_law 192 = .ok (.aload_n 1, 1) := by decide +kernel
theorem dL_law_193 : decode cL_law 193 = .ok (.aload_n 0, 1) := by decide +kernel
theorem dL_law_194 : decode cL_law 194 = .ok (.iload 5, 2) := by decide +kernel
theorem dL_law_196 : decode cL_law 196 = .ok (.iconst 1, 1) := by decide +kernel
theorem dL_law_197 : decode cL_law 197 = .ok (.iadd, 1) := by decide +kernel
theorem dL_law_198 : decode cL_law 198 = .ok (.iaload, 1) := by decide +kernel
theorem dL_law_199 : decode cL_law 199 = .ok (.aload_n 0, 1) := by decide +kernel
theorem dL_law_200 : decode cL_law 200 = .ok (.iload 5, 2) := by decide +kernel
theorem dL_law_202 : decode cL_law 202 = .ok (.iconst 2, 1) := by decide +kernel
theorem dL_law_203 : decode cL_law 203 = .ok (.iadd, 1) := by decide +kernel
theorem dL_law_204 : decode cL_law 204 = .ok (.iaload, 1) := by decide +kernel
theorem dL_law_205 : decode cL_law 205 = .ok (.aload_n 0, 1) := by decide +kernel
theorem dL_law_206 : decode cL_law 206 = .ok (.iload 5, 2) := by decide +kernel
theorem dL_law_208 : decode cL_law 208 = .ok (.iconst 3, 1) := by decide +kernel
theorem dL_law_209 : decode cL_law 209 = .ok (.iadd, 1) := by decide +kernel
theorem dL_law_210 : decode cL_law 210 = .ok (.iaload, 1) := by decide +kernel
theorem dL_law_211 : decode cL_law 211 = .ok (.i2c, 1) := by decide +kernel
theorem dL_law_212 : decode cL_law 212 = .ok (.aload_n 3, 1) := by decide +kernel
theorem dL_law_213 : decode cL_law 213 = .ok (.invokestatic 119, 3) := by decide +kernel
theorem dL_node_0 : decode cL_node 0 = .ok (.aload 4, 2) := by decide +kernel
theorem dL_node_2 : decode cL_node 2 = .ok (.iconst 0, 1) := by decide +kernel
theorem dL_node_3 : decode cL_node 3 = .ok (.aload_n 0, 1) := by decide +kernel
theorem dL_node_4 : decode cL_node 4 = .ok (.iload_n 1, 1) := by decide +kernel
theorem dL_node_5 : decode cL_node 5 = .ok (.iload_n 2, 1) := by decide +kernel
theorem dL_node_6 : decode cL_node 6 = .ok (.iload_n 3, 1) := by decide +kernel
theorem dL_node_7 : decode cL_node 7 = .ok (.invokevirtual 7, 3) := by decide +kernel
theorem dX6_node_0 : decode cX6_node 0 = .ok (.iload_n 1, 1) := by decide +kernel
theorem dX6_node_1 : decode cX6_node 1 = .ok (.iconst 0, 1) := by decide +kernel
theorem dX6_node_2 : decode cX6_node 2 = .ok (.bipush 30, 2) := by decide +kernel
theorem dX6_node_4 : decode cX6_node 4 = .ok (.invokestatic 44, 3) := by decide +kernel
theorem dX6_isWithin_0 : decode cX6_isWithin 0 = .ok (.iload_n 0, 1) := by decide +kernel
theorem dX6_isWithin_1 : decode cX6_isWithin 1 = .ok (.iload_n 1, 1) := by decide +kernel
theorem dX6_isWithin_2 : decode cX6_isWithin 2 = .ok (.if_icmp .lt 12, 3) := by decide +kernel
theorem dX6_isWithin_14 : decode cX6_isWithin 14 = .ok (.iconst 0, 1) := by decide +kernel
theorem dX6_isWithin_15 : decode cX6_isWithin 15 = .ok (.ireturn, 1) := by decide +kernel
theorem dX6_node_7 : decode cX6_node 7 = .ok (.ifCond .eq 22, 3) := by decide +kernel
theorem dX6_node_29 : decode cX6_node 29 = .ok (.new 56, 3) := by decide +kernel
theorem dX6_node_32 : decode cX6_node 32 = .ok (.dup, 1) := by decide +kernel
theorem dX6_node_33 : decode cX6_node 33 = .ok (.ldc 58, 2) := by decide +kernel
theorem dX6_node_35 : decode cX6_node 35 = .ok (.invokespecial 60, 3) := by decide +kernel
theorem dX6_node_38 : decode cX6_node 38 = .ok (.athrow, 1) := by decide +kernel
theorem dL_node_15 : decode cL_node 15 = .ok (.astore 5, 2) := by decide +kernel
theorem dL_node_17 : decode cL_node 17 = .ok (.iconst 1, 1) := by decide +kernel
theorem dL_node_18 : decode cL_node 18 = .ok (.ireturn, 1) := by decide +kernel
theorem dL_law_216 : decode cL_law 216 = .ok (.istore 6, 2) := by decide +kernel
theorem dL_law_218 : decode cL_law 218 = .ok (.aload_n 2, 1) := by decide +kernel
theorem dL_law_219 : decode cL_law 219 = .ok (.aload_n 0, 1) := by decide +kernel
theorem dL_law_220 : decode cL_law 220 = .ok (.iload 5, 2) := by decide +kernel
theorem dL_law_222 : decode cL_law 222 = .ok (.iconst 1, 1) := by decide +kernel
theorem dL_law_223 : decode cL_law 223 = .ok (.iadd, 1) := by decide +kernel
theorem dL_law_224 : decode cL_law 224 = .ok (.iaload, 1) := by decide +kernel
theorem dL_law_225 : decode cL_law 225 = .ok (.aload_n 0, 1) := by decide +kernel
theorem dL_law_226 : decode cL_law 226 = .ok (.iload 5, 2) := by decide +kernel
theorem dL_law_228 : decode cL_law 228 = .ok (.iconst 2, 1) := by decide +kernel
theorem dL_law_229 : decode cL_law 229 = .ok (.iadd, 1) := by decide +kernel
theorem dL_law_230 : decode cL_law 230 = .ok (.iaload, 1) := by decide +kernel
theorem dL_law_231 : decode cL_law 231 = .ok (.aload_n 0, 1) := by decide +kernel
theorem dL_law_232 : decode cL_law 232 = .ok (.iload 5, 2) := by decide +kernel
theorem dL_law_234 : decode cL_law 234 = .ok (.iconst 3, 1) := by decide +kernel
theorem dL_law_235 : decode cL_law 235 = .ok (.iadd, 1) := by decide +kernel
theorem dL_law_236 : decode cL_law 236 = .ok (.iaload, 1) := by decide +kernel
theorem dL_law_237 : decode cL_law 237 = .ok (.i2c, 1) := by decide +kernel
theorem dL_law_238 : decode cL_law 238 = .ok (.invokevirtual 124, 3) := by decide +kernel
theorem dX12_node_0 : decode cX12_node 0 = .ok (.iload_n 1, 1) := by decide +kernel
theorem dX12_node_1 : decode cX12_node 1 = .ok (.i2l, 1) := by decide +kernel
theorem dX12_node_2 : decode cX12_node 2 = .ok (.iconst 0, 1) := by decide +kernel
theorem dX12_node_3 : decode cX12_node 3 = .ok (.bipush 30, 2) := by decide +kernel
theorem dX12_node_5 : decode cX12_node 5 = .ok (.invokestatic 285, 3) := by decide +kernel
theorem dX12_in_0 : decode cX12_in 0 = .ok (.lload_n 0, 1) := by decide +kernel
theorem dX12_in_1 : decode cX12_in 1 = .ok (.iload_n 2, 1) := by decide +kernel
theorem dX12_in_2 : decode cX12_in 2 = .ok (.i2l, 1) := by decide +kernel
theorem dX12_in_3 : decode cX12_in 3 = .ok (.lcmp, 1) := by decide +kernel
theorem dX12_in_4 : decode cX12_in 4 = .ok (.ifCond .lt 14, 3) := by decide +kernel
theorem dX12_in_18 : decode cX12_in 18 = .ok (.iconst 0, 1) := by decide +kernel
theorem dX12_in_19 : decode cX12_in 19 = .ok (.ireturn, 1) := by decide +kernel
theorem dX12_node_8 : decode cX12_node 8 = .ok (.ifCond .eq 32, 3) := by decide +kernel
theorem dX12_node_40 : decode cX12_node 40 = .ok (.aload_n 0, 1) := by decide +kernel
theorem dX12_node_41 : decode cX12_node 41 = .ok (.iconst 1, 1) := by decide +kernel
theorem dX12_node_42 : decode cX12_node 42 = .ok (.invokevirtual 289, 3) := by decide +kernel
theorem dX12_fails_0 : decode cX12_fails 0 = .ok (.aload_n 0, 1) := by decide +kernel
theorem dX12_fails_1 : decode cX12_fails 1 = .ok (.iload_n 1, 1) := by decide +kernel
theorem dX12_fails_2 : decode cX12_fails 2 = .ok (.putfield 74, 3) := by decide +kernel
theorem dX12_fails_5 : decode cX12_fails 5 = .ok (.iconst 0, 1) := by decide +kernel
theorem dX12_fails_6 : decode cX12_fails 6 = .ok (.ireturn, 1) := by decide +kernel
theorem dX12_node_45 : decode cX12_node 45 = .ok (.ireturn, 1) := by decide +kernel
theorem dL_law_241 : decode cL_law 241 = .ok (.istore 7, 2) := by decide +kernel
theorem dL_law_243 : decode cL_law 243 = .ok (.aload_n 2, 1) := by decide +kernel
theorem dL_law_244 : decode cL_law 244 = .ok (.invokevirtual 125, 3) := by decide +kernel
theorem dX12_thrown_0 : decode cX12_thrown 0 = .ok (.aload_n 0, 1) := by decide +kernel
theorem dX12_thrown_1 : decode cX12_thrown 1 = .ok (.getfield 74, 3) := by decide +kernel
theorem dX12_thrown_4 : decode cX12_thrown 4 = .ok (.ireturn, 1) := by decide +kernel
theorem dL_law_247 : decode cL_law 247 = .ok (.iload 6, 2) := by decide +kernel
theorem dL_law_249 : decode cL_law 249 = .ok (.if_icmp .eq 5, 3) := by decide +kernel
theorem dL_law_254 : decode cL_law 254 = .ok (.iload 6, 2) := by decide +kernel
theorem dL_law_256 : decode cL_law 256 = .ok (.ifCond .ne 15, 3) := by decide +kernel
theorem dL_law_271 : decode cL_law 271 = .ok (.goto 1692, 3) := by decide +kernel
theorem dX6_isWithin_5 : decode cX6_isWithin 5 = .ok (.iload_n 0, 1) := by decide +kernel
theorem dX6_isWithin_6 : decode cX6_isWithin 6 = .ok (.iload_n 2, 1) := by decide +kernel
theorem dX6_isWithin_7 : decode cX6_isWithin 7 = .ok (.if_icmp .gt 7, 3) := by decide +kernel
theorem dX12_in_7 : decode cX12_in 7 = .ok (.lload_n 0, 1) := by decide +kernel
theorem dX12_in_8 : decode cX12_in 8 = .ok (.iload_n 3, 1) := by decide +kernel
theorem dX12_in_9 : decode cX12_in 9 = .ok (.i2l, 1) := by decide +kernel
theorem dX12_in_10 : decode cX12_in 10 = .ok (.lcmp, 1) := by decide +kernel
theorem dX12_in_11 : decode cX12_in 11 = .ok (.ifCond .gt 7, 3) := by decide +kernel
theorem dX6_isWithin_10 : decode cX6_isWithin 10 = .ok (.iconst 1, 1) := by decide +kernel
theorem dX6_isWithin_11 : decode cX6_isWithin 11 = .ok (.goto 4, 3) := by decide +kernel
theorem dX6_node_10 : decode cX6_node 10 = .ok (.iload_n 2, 1) := by decide +kernel
theorem dX6_node_11 : decode cX6_node 11 = .ok (.iconst 0, 1) := by decide +kernel
theorem dX6_node_12 : decode cX6_node 12 = .ok (.bipush 30, 2) := by decide +kernel
theorem dX6_node_14 : decode cX6_node 14 = .ok (.invokestatic 44, 3) := by decide +kernel
theorem dX6_node_17 : decode cX6_node 17 = .ok (.ifCond .eq 12, 3) := by decide +kernel
theorem dX12_in_14 : decode cX12_in 14 = .ok (.iconst 1, 1) := by decide +kernel
theorem dX12_in_15 : decode cX12_in 15 = .ok (.goto 4, 3) := by decide +kernel
theorem dX12_node_11 : decode cX12_node 11 = .ok (.iload_n 2, 1) := by decide +kernel
theorem dX12_node_12 : decode cX12_node 12 = .ok (.i2l, 1) := by decide +kernel
theorem dX12_node_13 : decode cX12_node 13 = .ok (.iconst 0, 1) := by decide +kernel
theorem dX12_node_14 : decode cX12_node 14 = .ok (.bipush 30, 2) := by decide +kernel
theorem dX12_node_16 : decode cX12_node 16 = .ok (.invokestatic 285, 3) := by decide +kernel
theorem dX12_node_19 : decode cX12_node 19 = .ok (.ifCond .eq 21, 3) := by decide +kernel
theorem dX6_node_20 : decode cX6_node 20 = .ok (.ldc 48, 2) := by decide +kernel
theorem dX6_node_22 : decode cX6_node 22 = .ok (.iload_n 3, 1) := by decide +kernel
theorem dX6_node_23 : decode cX6_node 23 = .ok (.invokevirtual 50, 3) := by decide +kernel
theorem dJ0_indexOf_0f7a4_0 : decode cJ0_indexOf_0f7a4 0 = .ok (.aload_n 0, 1) := by decide +kernel
theorem dJ0_indexOf_0f7a4_1 : decode cJ0_indexOf_0f7a4 1 = .ok (.iload_n 1, 1) := by decide +kernel
theorem dJ0_indexOf_0f7a4_2 : decode cJ0_indexOf_0f7a4 2 = .ok (.iconst 0, 1) := by decide +kernel
theorem dJ0_indexOf_0f7a4_3 : decode cJ0_indexOf_0f7a4 3 = .ok (.invokevirtual 633, 3) := by decide +kernel
theorem dJ0_indexOf_7cf53_0 : decode cJ0_indexOf_7cf53 0 = .ok (.aload_n 0, 1) := by decide +kernel
theorem dJ0_indexOf_7cf53_1 : decode cJ0_indexOf_7cf53 1 = .ok (.invokevirtual 492, 3) := by decide +kernel
theorem dJ0_isLatin1_aae02_0 : decode cJ0_isLatin1_aae02 0 = .ok (.getstatic 38, 3) := by decide +kernel
theorem dJ0_isLatin1_aae02_3 : decode cJ0_isLatin1_aae02 3 = .ok (.ifCond .eq 14, 3) := by decide +kernel
theorem dJ0_isLatin1_aae02_6 : decode cJ0_isLatin1_aae02 6 = .ok (.aload_n 0, 1) := by decide +kernel
theorem dJ0_isLatin1_aae02_7 : decode cJ0_isLatin1_aae02 7 = .ok (.getfield 15, 3) := by decide +kernel
theorem dJ0_isLatin1_aae02_10 : decode cJ0_isLatin1_aae02 10 = .ok (.ifCond .ne 7, 3) := by decide +kernel
theorem dJ0_isLatin1_aae02_13 : decode cJ0_isLatin1_aae02 13 = .ok (.iconst 1, 1) := by decide +kernel
theorem dJ0_isLatin1_aae02_14 : decode cJ0_isLatin1_aae02 14 = .ok (.goto 4, 3) := by decide +kernel
theorem dJ0_isLatin1_aae02_18 : decode cJ0_isLatin1_aae02 18 = .ok (.ireturn, 1) := by decide +kernel
theorem dJ0_indexOf_7cf53_4 : decode cJ0_indexOf_7cf53 4 = .ok (.ifCond .eq 19, 3) := by decide +kernel
theorem dJ0_indexOf_7cf53_7 : decode cJ0_indexOf_7cf53 7 = .ok (.aload_n 0, 1) := by decide +kernel
theorem dJ0_indexOf_7cf53_8 : decode cJ0_indexOf_7cf53 8 = .ok (.getfield 9, 3) := by decide +kernel
theorem dJ0_indexOf_7cf53_11 : decode cJ0_indexOf_7cf53 11 = .ok (.iload_n 1, 1) := by decide +kernel
theorem dJ0_indexOf_7cf53_12 : decode cJ0_indexOf_7cf53 12 = .ok (.iload_n 2, 1) := by decide +kernel
theorem dJ0_indexOf_7cf53_13 : decode cJ0_indexOf_7cf53 13 = .ok (.aload_n 0, 1) := by decide +kernel
theorem dJ0_indexOf_7cf53_14 : decode cJ0_indexOf_7cf53 14 = .ok (.invokevirtual 505, 3) := by decide +kernel
theorem dJ0_length_8abf5_0 : decode cJ0_length_8abf5 0 = .ok (.aload_n 0, 1) := by decide +kernel
theorem dJ0_length_8abf5_1 : decode cJ0_length_8abf5 1 = .ok (.getfield 9, 3) := by decide +kernel
theorem dJ0_length_8abf5_4 : decode cJ0_length_8abf5 4 = .ok (.arraylength, 1) := by decide +kernel
theorem dJ0_length_8abf5_5 : decode cJ0_length_8abf5 5 = .ok (.aload_n 0, 1) := by decide +kernel
theorem dJ0_length_8abf5_6 : decode cJ0_length_8abf5 6 = .ok (.invokevirtual 335, 3) := by decide +kernel
theorem dJ0_coder_7d493_0 : decode cJ0_coder_7d493 0 = .ok (.getstatic 38, 3) := by decide +kernel
theorem dJ0_coder_7d493_3 : decode cJ0_coder_7d493 3 = .ok (.ifCond .eq 10, 3) := by decide +kernel
theorem dJ0_coder_7d493_6 : decode cJ0_coder_7d493 6 = .ok (.aload_n 0, 1) := by decide +kernel
theorem dJ0_coder_7d493_7 : decode cJ0_coder_7d493 7 = .ok (.getfield 15, 3) := by decide +kernel
theorem dJ0_coder_7d493_10 : decode cJ0_coder_7d493 10 = .ok (.goto 4, 3) := by decide +kernel
theorem dJ0_coder_7d493_14 : decode cJ0_coder_7d493 14 = .ok (.ireturn, 1) := by decide +kernel
theorem dJ0_length_8abf5_9 : decode cJ0_length_8abf5 9 = .ok (.ishr, 1) := by decide +kernel
theorem dJ0_length_8abf5_10 : decode cJ0_length_8abf5 10 = .ok (.ireturn, 1) := by decide +kernel
theorem dJ0_indexOf_7cf53_17 : decode cJ0_indexOf_7cf53 17 = .ok (.invokestatic 637, 3) := by decide +kernel
theorem dJ1_indexOf_4cfef_0 : decode cJ1_indexOf_4cfef 0 = .ok (.iload_n 1, 1) := by decide +kernel
theorem dJ1_indexOf_4cfef_1 : decode cJ1_indexOf_4cfef 1 = .ok (.invokestatic 88, 3) := by decide +kernel
theorem dJ1_canEncode_9a6ad_0 : decode cJ1_canEncode_9a6ad 0 = .ok (.iload_n 0, 1) := by decide +kernel
theorem dJ1_canEncode_9a6ad_1 : decode cJ1_canEncode_9a6ad 1 = .ok (.ifCond .lt 14, 3) := by decide +kernel
theorem dJ1_canEncode_9a6ad_4 : decode cJ1_canEncode_9a6ad 4 = .ok (.iload_n 0, 1) := by decide +kernel
theorem dJ1_canEncode_9a6ad_5 : decode cJ1_canEncode_9a6ad 5 = .ok (.sipush 255, 3) := by decide +kernel
theorem dJ1_canEncode_9a6ad_8 : decode cJ1_canEncode_9a6ad 8 = .ok (.if_icmp .gt 7, 3) := by decide +kernel
theorem dJ1_canEncode_9a6ad_15 : decode cJ1_canEncode_9a6ad 15 = .ok (.iconst 0, 1) := by decide +kernel
theorem dJ1_canEncode_9a6ad_16 : decode cJ1_canEncode_9a6ad 16 = .ok (.ireturn, 1) := by decide +kernel
theorem dJ1_indexOf_4cfef_4 : decode cJ1_indexOf_4cfef 4 = .ok (.ifCond .ne 5, 3) := by decide +kernel
theorem dJ1_indexOf_4cfef_7 : decode cJ1_indexOf_4cfef 7 = .ok (.iconst (-1), 1) := by decide +kernel
theorem dJ1_indexOf_4cfef_8 : decode cJ1_indexOf_4cfef 8 = .ok (.ireturn, 1) := by decide +kernel
theorem dJ0_indexOf_7cf53_20 : decode cJ0_indexOf_7cf53 20 = .ok (.goto 16, 3) := by decide +kernel
theorem dJ0_indexOf_7cf53_36 : decode cJ0_indexOf_7cf53 36 = .ok (.ireturn, 1) := by decide +kernel
theorem dJ0_indexOf_0f7a4_6 : decode cJ0_indexOf_0f7a4 6 = .ok (.ireturn, 1) := by decide +kernel
theorem dX6_node_26 : decode cX6_node 26 = .ok (.ifCond .ge 13, 3) := by decide +kernel
theorem dX12_node_22 : decode cX12_node 22 = .ok (.iload_n 3, 1) := by decide +kernel
theorem dX12_node_23 : decode cX12_node 23 = .ok (.bipush 45, 2) := by decide +kernel
theorem dX12_node_25 : decode cX12_node 25 = .ok (.if_icmp .eq 21, 3) := by decide +kernel
theorem dX12_node_28 : decode cX12_node 28 = .ok (.iload_n 3, 1) := by decide +kernel
theorem dX12_node_29 : decode cX12_node 29 = .ok (.bipush 112, 2) := by decide +kernel
theorem dX12_node_31 : decode cX12_node 31 = .ok (.if_icmp .eq 15, 3) := by decide +kernel
theorem dX12_node_34 : decode cX12_node 34 = .ok (.iload_n 3, 1) := by decide +kernel
theorem dX12_node_35 : decode cX12_node 35 = .ok (.bipush 114, 2) := by decide +kernel
theorem dX12_node_37 : decode cX12_node 37 = .ok (.if_icmp .eq 9, 3) := by decide +kernel
theorem dJ1_canEncode_9a6ad_11 : decode cJ1_canEncode_9a6ad 11 = .ok (.iconst 1, 1) := by decide +kernel
theorem dJ1_canEncode_9a6ad_12 : decode cJ1_canEncode_9a6ad 12 = .ok (.goto 4, 3) := by decide +kernel
theorem dJ1_indexOf_4cfef_9 : decode cJ1_indexOf_4cfef 9 = .ok (.iload_n 2, 1) := by decide +kernel
theorem dJ1_indexOf_4cfef_10 : decode cJ1_indexOf_4cfef 10 = .ok (.iconst 0, 1) := by decide +kernel
theorem dJ1_indexOf_4cfef_11 : decode cJ1_indexOf_4cfef 11 = .ok (.invokestatic 92, 3) := by decide +kernel
theorem dJ1_indexOf_4cfef_14 : decode cJ1_indexOf_4cfef 14 = .ok (.istore_n 2, 1) := by decide +kernel
theorem dJ1_indexOf_4cfef_15 : decode cJ1_indexOf_4cfef 15 = .ok (.iload_n 3, 1) := by decide +kernel
theorem dJ1_indexOf_4cfef_16 : decode cJ1_indexOf_4cfef 16 = .ok (.aload_n 0, 1) := by decide +kernel
theorem dJ1_indexOf_4cfef_17 : decode cJ1_indexOf_4cfef 17 = .ok (.arraylength, 1) := by decide +kernel
theorem dJ1_indexOf_4cfef_18 : decode cJ1_indexOf_4cfef 18 = .ok (.invokestatic 38, 3) := by decide +kernel
theorem dJ1_indexOf_4cfef_21 : decode cJ1_indexOf_4cfef 21 = .ok (.istore_n 3, 1) := by decide +kernel
theorem dJ1_indexOf_4cfef_22 : decode cJ1_indexOf_4cfef 22 = .ok (.iload_n 2, 1) := by decide +kernel
theorem dJ1_indexOf_4cfef_23 : decode cJ1_indexOf_4cfef 23 = .ok (.iload_n 3, 1) := by decide +kernel
theorem dJ1_indexOf_4cfef_24 : decode cJ1_indexOf_4cfef 24 = .ok (.if_icmp .lt 5, 3) := by decide +kernel
theorem dJ1_indexOf_4cfef_29 : decode cJ1_indexOf_4cfef 29 = .ok (.aload_n 0, 1) := by decide +kernel
theorem dJ1_indexOf_4cfef_30 : decode cJ1_indexOf_4cfef 30 = .ok (.iload_n 1, 1) := by decide +kernel
theorem dJ1_indexOf_4cfef_31 : decode cJ1_indexOf_4cfef 31 = .ok (.iload_n 2, 1) := by decide +kernel
theorem dJ1_indexOf_4cfef_32 : decode cJ1_indexOf_4cfef 32 = .ok (.iload_n 3, 1) := by decide +kernel
theorem dJ1_indexOf_4cfef_33 : decode cJ1_indexOf_4cfef 33 = .ok (.invokestatic 95, 3) := by decide +kernel
theorem dJ1_indexOfChar_4cfef_0 : decode cJ1_indexOfChar_4cfef 0 = .ok (.iload_n 1, 1) := by decide +kernel
theorem dJ1_indexOfChar_4cfef_1 : decode cJ1_indexOfChar_4cfef 1 = .ok (.i2b, 1) := by decide +kernel
theorem dJ1_indexOfChar_4cfef_2 : decode cJ1_indexOfChar_4cfef 2 = .ok (.istore 4, 2) := by decide +kernel
theorem dJ1_indexOfChar_4cfef_4 : decode cJ1_indexOfChar_4cfef 4 = .ok (.iload_n 2, 1) := by decide +kernel
theorem dJ1_indexOfChar_4cfef_5 : decode cJ1_indexOfChar_4cfef 5 = .ok (.istore 5, 2) := by decide +kernel
theorem dJ1_indexOfChar_4cfef_7 : decode cJ1_indexOfChar_4cfef 7 = .ok (.iload 5, 2) := by decide +kernel
theorem dJ1_indexOfChar_4cfef_9 : decode cJ1_indexOfChar_4cfef 9 = .ok (.iload_n 3, 1) := by decide +kernel
theorem dJ1_indexOfChar_4cfef_10 : decode cJ1_indexOfChar_4cfef 10 = .ok (.if_icmp .ge 21, 3) := by decide +kernel
theorem dJ1_indexOfChar_4cfef_13 : decode cJ1_indexOfChar_4cfef 13 = .ok (.aload_n 0, 1) := by decide +kernel
theorem dJ1_indexOfChar_4cfef_14 : decode cJ1_indexOfChar_4cfef 14 = .ok (.iload 5, 2) := by decide +kernel
theorem dJ1_indexOfChar_4cfef_16 : decode cJ1_indexOfChar_4cfef 16 = .ok (.baload, 1) := by decide +kernel
theorem dJ1_indexOfChar_4cfef_17 : decode cJ1_indexOfChar_4cfef 17 = .ok (.iload 4, 2) := by decide +kernel
theorem dJ1_indexOfChar_4cfef_19 : decode cJ1_indexOfChar_4cfef 19 = .ok (.if_icmp .ne 6, 3) := by decide +kernel
theorem dJ1_indexOfChar_4cfef_25 : decode cJ1_indexOfChar_4cfef 25 = .ok (.iinc 5 1, 3) := by decide +kernel
theorem dJ1_indexOfChar_4cfef_28 : decode cJ1_indexOfChar_4cfef 28 = .ok (.goto (-21), 3) := by decide +kernel
theorem dJ1_indexOfChar_4cfef_31 : decode cJ1_indexOfChar_4cfef 31 = .ok (.iconst (-1), 1) := by decide +kernel
theorem dJ1_indexOfChar_4cfef_32 : decode cJ1_indexOfChar_4cfef 32 = .ok (.ireturn, 1) := by decide +kernel
theorem dJ1_indexOf_4cfef_36 : decode cJ1_indexOf_4cfef 36 = .ok (.ireturn, 1) := by decide +kernel
theorem dJ1_indexOfChar_4cfef_22 : decode cJ1_indexOfChar_4cfef 22 = .ok (.iload 5, 2) := by decide +kernel
theorem dJ1_indexOfChar_4cfef_24 : decode cJ1_indexOfChar_4cfef 24 = .ok (.ireturn, 1) := by decide +kernel
theorem dX6_node_39 : decode cX6_node 39 = .ok (.aload_n 0, 1) := by decide +kernel
theorem dX6_node_40 : decode cX6_node 40 = .ok (.getfield 12, 3) := by decide +kernel
theorem dX6_node_43 : decode cX6_node 43 = .ok (.getfield 63, 3) := by decide +kernel
theorem dX6_node_46 : decode cX6_node 46 = .ok (.bipush 8, 2) := by decide +kernel
theorem dX6_node_48 : decode cX6_node 48 = .ok (.if_icmp .lt 13, 3) := by decide +kernel
theorem dX6_node_61 : decode cX6_node 61 = .ok (.aload_n 0, 1) := by decide +kernel
theorem dX6_node_62 : decode cX6_node 62 = .ok (.getfield 19, 3) := by decide +kernel
theorem dX6_node_65 : decode cX6_node 65 = .ok (.iconst 0, 1) := by decide +kernel
theorem dX6_node_66 : decode cX6_node 66 = .ok (.putfield 72, 3) := by decide +kernel
theorem dX6_node_69 : decode cX6_node 69 = .ok (.aload_n 0, 1) := by decide +kernel
theorem dX6_node_70 : decode cX6_node 70 = .ok (.getfield 12, 3) := by decide +kernel
theorem dX6_node_73 : decode cX6_node 73 = .ok (.iload_n 1, 1) := by decide +kernel
theorem dX6_node_74 : decode cX6_node 74 = .ok (.iload_n 2, 1) := by decide +kernel
theorem dX6_node_75 : decode cX6_node 75 = .ok (.iload_n 3, 1) := by decide +kernel
theorem dX6_node_76 : decode cX6_node 76 = .ok (.invokevirtual 76, 3) := by decide +kernel
theorem dX2_addNode_0 : decode cX2_addNode 0 = .ok (.aload_n 0, 1) := by decide +kernel
theorem dX2_addNode_1 : decode cX2_addNode 1 = .ok (.getfield 43, 3) := by decide +kernel
theorem dX2_addNode_4 : decode cX2_addNode 4 = .ok (.istore 4, 2) := by decide +kernel
theorem dX2_addNode_6 : decode cX2_addNode 6 = .ok (.aload_n 0, 1) := by decide +kernel
theorem dX2_addNode_7 : decode cX2_addNode 7 = .ok (.getfield 9, 3) := by decide +kernel
theorem dX2_addNode_10 : decode cX2_addNode 10 = .ok (.iconst 2, 1) := by decide +kernel
theorem dX2_addNode_11 : decode cX2_addNode 11 = .ok (.iload 4, 2) := by decide +kernel
theorem dX2_addNode_13 : decode cX2_addNode 13 = .ok (.imul, 1) := by decide +kernel
theorem dX2_addNode_14 : decode cX2_addNode 14 = .ok (.iconst 0, 1) := by decide +kernel
theorem dX2_addNode_15 : decode cX2_addNode 15 = .ok (.iadd, 1) := by decide +kernel
theorem dX2_addNode_16 : decode cX2_addNode 16 = .ok (.iload_n 1, 1) := by decide +kernel
theorem dX2_addNode_17 : decode cX2_addNode 17 = .ok (.iastore, 1) := by decide +kernel
theorem dX2_addNode_18 : decode cX2_addNode 18 = .ok (.aload_n 0, 1) := by decide +kernel
theorem dX2_addNode_19 : decode cX2_addNode 19 = .ok (.getfield 9, 3) := by decide +kernel
theorem dX2_addNode_22 : decode cX2_addNode 22 = .ok (.iconst 2, 1) := by decide +kernel
theorem dX2_addNode_23 : decode cX2_addNode 23 = .ok (.iload 4, 2) := by decide +kernel
theorem dX2_addNode_25 : decode cX2_addNode 25 = .ok (.imul, 1) := by decide +kernel
theorem dX2_addNode_26 : decode cX2_addNode 26 = .ok (.iconst 1, 1) := by decide +kernel
theorem dX2_addNode_27 : decode cX2_addNode 27 = .ok (.iadd, 1) := by decide +kernel
theorem dX2_addNode_28 : decode cX2_addNode 28 = .ok (.iload_n 2, 1) := by decide +kernel
theorem dX2_addNode_29 : decode cX2_addNode 29 = .ok (.iastore, 1) := by decide +kernel
theorem dX2_addNode_30 : decode cX2_addNode 30 = .ok (.aload_n 0, 1) := by decide +kernel
theorem dX2_addNode_31 : decode cX2_addNode 31 = .ok (.getfield 21, 3) := by decide +kernel
theorem dX2_addNode_34 : decode cX2_addNode 34 = .ok (.iload 4, 2) := by decide +kernel
theorem dX2_addNode_36 : decode cX2_addNode 36 = .ok (.iload_n 3, 1) := by decide +kernel
theorem dX2_addNode_37 : decode cX2_addNode 37 = .ok (.castore, 1) := by decide +kernel
theorem dX2_addNode_38 : decode cX2_addNode 38 = .ok (.aload_n 0, 1) := by decide +kernel
theorem dX2_addNode_39 : decode cX2_addNode 39 = .ok (.iload 4, 2) := by decide +kernel
theorem dX2_addNode_41 : decode cX2_addNode 41 = .ok (.iconst 1, 1) := by decide +kernel
theorem dX2_addNode_42 : decode cX2_addNode 42 = .ok (.iadd, 1) := by decide +kernel
theorem dX2_addNode_43 : decode cX2_addNode 43 = .ok (.putfield 43, 3) := by decide +kernel
theorem dX2_addNode_46 : decode cX2_addNode 46 = .ok (.iload 4, 2) := by decide +kernel
theorem dX2_addNode_48 : decode cX2_addNode 48 = .ok (.ireturn, 1) := by decide +kernel
theorem dX6_node_79 : decode cX6_node 79 = .ok (.ireturn, 1) := by decide +kernel
theorem dL_node_10 : decode cL_node 10 = .ok (.i2l, 1) := by decide +kernel
theorem dL_node_11 : decode cL_node 11 = .ok (.lastore, 1) := by decide +kernel
theorem dL_node_12 : decode cL_node 12 = .ok (.goto 11, 3) := by decide +kernel
theorem dL_node_23 : decode cL_node 23 = .ok (.iconst 0, 1) := by decide +kernel
theorem dL_node_24 : decode cL_node 24 = .ok (.ireturn, 1) := by decide +kernel
theorem dX12_node_46 : decode cX12_node 46 = .ok (.aload_n 0, 1) := by decide +kernel
theorem dX12_node_47 : decode cX12_node 47 = .ok (.getfield 10, 3) := by decide +kernel
theorem dX12_node_50 : decode cX12_node 50 = .ok (.invokevirtual 125, 3) := by decide +kernel
theorem dJx4a65c_size_8abf5_0 : decode cJx4a65c_size_8abf5 0 = .ok (.aload_n 0, 1) := by decide +kernel
theorem dJx4a65c_size_8abf5_1 : decode cJx4a65c_size_8abf5 1 = .ok (.getfield 48, 3) := by decide +kernel
theorem dJx4a65c_size_8abf5_4 : decode cJx4a65c_size_8abf5 4 = .ok (.ireturn, 1) := by decide +kernel
theorem dX12_node_53 : decode cX12_node 53 = .ok (.bipush 8, 2) := by decide +kernel
theorem dX12_node_55 : decode cX12_node 55 = .ok (.if_icmp .ne 9, 3) := by decide +kernel
theorem dX12_node_64 : decode cX12_node 64 = .ok (.aload_n 0, 1) := by decide +kernel
theorem dX12_node_65 : decode cX12_node 65 = .ok (.getfield 10, 3) := by decide +kernel
theorem dX12_node_68 : decode cX12_node 68 = .ok (.new 99, 3) := by decide +kernel
theorem dX12_node_71 : decode cX12_node 71 = .ok (.dup, 1) := by decide +kernel
theorem dX12_node_72 : decode cX12_node 72 = .ok (.iload_n 1, 1) := by decide +kernel
theorem dX12_node_73 : decode cX12_node 73 = .ok (.iload_n 2, 1) := by decide +kernel
theorem dX12_node_74 : decode cX12_node 74 = .ok (.iload_n 3, 1) := by decide +kernel
theorem dX12_node_75 : decode cX12_node 75 = .ok (.invokespecial 292, 3) := by decide +kernel
theorem dX9_init_0 : decode cX9_init 0 = .ok (.aload_n 0, 1) := by decide +kernel
theorem dX9_init_1 : decode cX9_init 1 = .ok (.invokespecial 1, 3) := by decide +kernel
theorem dX9_init_4 : decode cX9_init 4 = .ok (.aload_n 0, 1) := by decide +kernel
theorem dX9_init_5 : decode cX9_init 5 = .ok (.iload_n 1, 1) := by decide +kernel
theorem dX9_init_6 : decode cX9_init 6 = .ok (.putfield 7, 3) := by decide +kernel
theorem dX9_init_9 : decode cX9_init 9 = .ok (.aload_n 0, 1) := by decide +kernel
theorem dX9_init_10 : decode cX9_init 10 = .ok (.iload_n 2, 1) := by decide +kernel
theorem dX9_init_11 : decode cX9_init 11 = .ok (.putfield 13, 3) := by decide +kernel
theorem dX9_init_14 : decode cX9_init 14 = .ok (.aload_n 0, 1) := by decide +kernel
theorem dX9_init_15 : decode cX9_init 15 = .ok (.iload_n 3, 1) := by decide +kernel
theorem dX9_init_16 : decode cX9_init 16 = .ok (.putfield 16, 3) := by decide +kernel
theorem dX9_init_19 : decode cX9_init 19 = .ok (.return_, 1) := by decide +kernel
theorem dX12_node_78 : decode cX12_node 78 = .ok (.invokevirtual 295, 3) := by decide +kernel
theorem dJx4a65c_add_9ea2d_0 : decode cJx4a65c_add_9ea2d 0 = .ok (.aload_n 0, 1) := by decide +kernel
theorem dJx4a65c_add_9ea2d_1 : decode cJx4a65c_add_9ea2d 1 = .ok (.dup, 1) := by decide +kernel
theorem dJx4a65c_add_9ea2d_2 : decode cJx4a65c_add_9ea2d 2 = .ok (.getfield 63, 3) := by decide +kernel
theorem dJx4a65c_add_9ea2d_5 : decode cJx4a65c_add_9ea2d 5 = .ok (.iconst 1, 1) := by decide +kernel
theorem dJx4a65c_add_9ea2d_6 : decode cJx4a65c_add_9ea2d 6 = .ok (.iadd, 1) := by decide +kernel
theorem dJx4a65c_add_9ea2d_7 : decode cJx4a65c_add_9ea2d 7 = .ok (.putfield 63, 3) := by decide +kernel
theorem dJx4a65c_add_9ea2d_10 : decode cJx4a65c_add_9ea2d 10 = .ok (.aload_n 0, 1) := by decide +kernel
theorem dJx4a65c_add_9ea2d_11 : decode cJx4a65c_add_9ea2d 11 = .ok (.aload_n 1, 1) := by decide +kernel
theorem dJx4a65c_add_9ea2d_12 : decode cJx4a65c_add_9ea2d 12 = .ok (.aload_n 0, 1) := by decide +kernel
theorem dJx4a65c_add_9ea2d_13 : decode cJx4a65c_add_9ea2d 13 = .ok (.getfield 9, 3) := by decide +kernel
theorem dJx4a65c_add_9ea2d_16 : decode cJx4a65c_add_9ea2d 16 = .ok (.aload_n 0, 1) := by decide +kernel
theorem dJx4a65c_add_9ea2d_17 : decode cJx4a65c_add_9ea2d 17 = .ok (.getfield 48, 3) := by decide +kernel
theorem dJx4a65c_add_9ea2d_20 : decode cJx4a65c_add_9ea2d 20 = .ok (.invokevirtual 131, 3) := by decide +kernel
theorem dJx4a65c_add_72be8_0 : decode cJx4a65c_add_72be8 0 = .ok (.iload_n 3, 1) := by decide +kernel
theorem dJx4a65c_add_72be8_1 : decode cJx4a65c_add_72be8 1 = .ok (.aload_n 2, 1) := by decide +kernel
theorem dJx4a65c_add_72be8_2 : decode cJx4a65c_add_72be8 2 = .ok (.arraylength, 1) := by decide +kernel
theorem dJx4a65c_add_72be8_3 : decode cJx4a65c_add_72be8 3 = .ok (.if_icmp .ne 8, 3) := by decide +kernel
theorem dJx4a65c_add_72be8_6 : decode cJx4a65c_add_72be8 6 = .ok (.aload_n 0, 1) := by decide +kernel
theorem dJx4a65c_add_72be8_7 : decode cJx4a65c_add_72be8 7 = .ok (.invokevirtual 129, 3) := by decide +kernel
theorem dJx4a65c_grow_d5877_0 : decode cJx4a65c_grow_d5877 0 = .ok (.aload_n 0, 1) := by decide +kernel
theorem dJx4a65c_grow_d5877_1 : decode cJx4a65c_grow_d5877 1 = .ok (.aload_n 0, 1) := by decide +kernel
theorem dJx4a65c_grow_d5877_2 : decode cJx4a65c_grow_d5877 2 = .ok (.getfield 48, 3) := by decide +kernel
theorem dJx4a65c_grow_d5877_5 : decode cJx4a65c_grow_d5877 5 = .ok (.iconst 1, 1) := by decide +kernel
theorem dJx4a65c_grow_d5877_6 : decode cJx4a65c_grow_d5877 6 = .ok (.iadd, 1) := by decide +kernel
theorem dJx4a65c_grow_d5877_7 : decode cJx4a65c_grow_d5877 7 = .ok (.invokevirtual 69, 3) := by decide +kernel
theorem dJx4a65c_grow_92f84_0 : decode cJx4a65c_grow_92f84 0 = .ok (.aload_n 0, 1) := by decide +kernel
theorem dJx4a65c_grow_92f84_1 : decode cJx4a65c_grow_92f84 1 = .ok (.getfield 9, 3) := by decide +kernel
theorem dJx4a65c_grow_92f84_4 : decode cJx4a65c_grow_92f84 4 = .ok (.arraylength, 1) := by decide +kernel
theorem dJx4a65c_grow_92f84_5 : decode cJx4a65c_grow_92f84 5 = .ok (.istore_n 2, 1) := by decide +kernel
theorem dJx4a65c_grow_92f84_6 : decode cJx4a65c_grow_92f84 6 = .ok (.iload_n 2, 1) := by decide +kernel
theorem dJx4a65c_grow_92f84_7 : decode cJx4a65c_grow_92f84 7 = .ok (.ifCond .gt 13, 3) := by decide +kernel
theorem dJx4a65c_grow_92f84_10 : decode cJx4a65c_grow_92f84 10 = .ok (.aload_n 0, 1) := by decide +kernel
theorem dJx4a65c_grow_92f84_11 : decode cJx4a65c_grow_92f84 11 = .ok (.getfield 9, 3) := by decide +kernel
theorem dJx4a65c_grow_92f84_14 : decode cJx4a65c_grow_92f84 14 = .ok (.getstatic 39, 3) := by decide +kernel
theorem dJx4a65c_grow_92f84_17 : decode cJx4a65c_grow_92f84 17 = .ok (.if_acmp .eq 28, 3) := by decide +kernel
theorem dJx4a65c_grow_92f84_45 : decode cJx4a65c_grow_92f84 45 = .ok (.aload_n 0, 1) := by decide +kernel
theorem dJx4a65c_grow_92f84_46 : decode cJx4a65c_grow_92f84 46 = .ok (.bipush 10, 2) := by decide +kernel
theorem dJx4a65c_grow_92f84_48 : decode cJx4a65c_grow_92f84 48 = .ok (.iload_n 1, 1) := by decide +kernel
theorem dJx4a65c_grow_92f84_49 : decode cJx4a65c_grow_92f84 49 = .ok (.invokestatic 79, 3) := by decide +kernel
theorem dJx4a65c_grow_92f84_52 : decode cJx4a65c_grow_92f84 52 = .ok (.anewarray 7, 3) := by decide +kernel
theorem dJx4a65c_grow_92f84_55 : decode cJx4a65c_grow_92f84 55 = .ok (.dup_x1, 1) := by decide +kernel
theorem dJx4a65c_grow_92f84_56 : decode cJx4a65c_grow_92f84 56 = .ok (.putfield 9, 3) := by decide +kernel
theorem dJx4a65c_grow_92f84_59 : decode cJx4a65c_grow_92f84 59 = .ok (.areturn, 1) := by decide +kernel
theorem dJx4a65c_grow_d5877_10 : decode cJx4a65c_grow_d5877 10 = .ok (.areturn, 1) := by decide +kernel
theorem dJx4a65c_add_72be8_10 : decode cJx4a65c_add_72be8 10 = .ok (.astore_n 2, 1) := by decide +kernel
theorem dJx4a65c_add_72be8_11 : decode cJx4a65c_add_72be8 11 = .ok (.aload_n 2, 1) := by decide +kernel
theorem dJx4a65c_add_72be8_12 : decode cJx4a65c_add_72be8 12 = .ok (.iload_n 3, 1) := by decide +kernel
theorem dJx4a65c_add_72be8_13 : decode cJx4a65c_add_72be8 13 = .ok (.aload_n 1, 1) := by decide +kernel
theorem dJx4a65c_add_72be8_14 : decode cJx4a65c_add_72be8 14 = .ok (.aastore, 1) := by decide +kernel
theorem dJx4a65c_add_72be8_15 : decode cJx4a65c_add_72be8 15 = .ok (.aload_n 0, 1) := by decide +kernel
theorem dJx4a65c_add_72be8_16 : decode cJx4a65c_add_72be8 16 = .ok (.iload_n 3, 1) := by decide +kernel
theorem dJx4a65c_add_72be8_17 : decode cJx4a65c_add_72be8 17 = .ok (.iconst 1, 1) := by decide +kernel
theorem dJx4a65c_add_72be8_18 : decode cJx4a65c_add_72be8 18 = .ok (.iadd, 1) := by decide +kernel
theorem dJx4a65c_add_72be8_19 : decode cJx4a65c_add_72be8 19 = .ok (.putfield 48, 3) := by decide +kernel
theorem dJx4a65c_add_72be8_22 : decode cJx4a65c_add_72be8 22 = .ok (.return_, 1) := by decide +kernel
theorem dJx4a65c_add_9ea2d_23 : decode cJx4a65c_add_9ea2d 23 = .ok (.iconst 1, 1) := by decide +kernel
theorem dJx4a65c_add_9ea2d_24 : decode cJx4a65c_add_9ea2d 24 = .ok (.ireturn, 1) := by decide +kernel
theorem dX12_node_81 : decode cX12_node 81 = .ok (.pop, 1) := by decide +kernel
theorem dX12_node_82 : decode cX12_node 82 = .ok (.aload_n 0, 1) := by decide +kernel
theorem dX12_node_83 : decode cX12_node 83 = .ok (.invokevirtual 299, 3) := by decide +kernel
theorem dX12_changes_0 : decode cX12_changes 0 = .ok (.aload_n 0, 1) := by decide +kernel
theorem dX12_changes_1 : decode cX12_changes 1 = .ok (.iconst 0, 1) := by decide +kernel
theorem dX12_changes_2 : decode cX12_changes 2 = .ok (.putfield 77, 3) := by decide +kernel
theorem dX12_changes_5 : decode cX12_changes 5 = .ok (.aload_n 0, 1) := by decide +kernel
theorem dX12_changes_6 : decode cX12_changes 6 = .ok (.iconst 0, 1) := by decide +kernel
theorem dX12_changes_7 : decode cX12_changes 7 = .ok (.putfield 81, 3) := by decide +kernel
theorem dX12_changes_10 : decode cX12_changes 10 = .ok (.aload_n 0, 1) := by decide +kernel
theorem dX12_changes_11 : decode cX12_changes 11 = .ok (.iconst 0, 1) := by decide +kernel
theorem dX12_changes_12 : decode cX12_changes 12 = .ok (.putfield 84, 3) := by decide +kernel
theorem dX12_changes_15 : decode cX12_changes 15 = .ok (.return_, 1) := by decide +kernel
theorem dX12_node_86 : decode cX12_node 86 = .ok (.aload_n 0, 1) := by decide +kernel
theorem dX12_node_87 : decode cX12_node 87 = .ok (.aload_n 0, 1) := by decide +kernel
theorem dX12_node_88 : decode cX12_node 88 = .ok (.getfield 10, 3) := by decide +kernel
theorem dX12_node_91 : decode cX12_node 91 = .ok (.invokevirtual 125, 3) := by decide +kernel
theorem dX12_node_94 : decode cX12_node 94 = .ok (.iconst 1, 1) := by decide +kernel
theorem dX12_node_95 : decode cX12_node 95 = .ok (.isub, 1) := by decide +kernel
theorem dX12_node_96 : decode cX12_node 96 = .ok (.invokevirtual 302, 3) := by decide +kernel
theorem dX12_tell_0 : decode cX12_tell 0 = .ok (.aload_n 0, 1) := by decide +kernel
theorem dX12_tell_1 : decode cX12_tell 1 = .ok (.iconst 0, 1) := by decide +kernel
theorem dX12_tell_2 : decode cX12_tell 2 = .ok (.putfield 74, 3) := by decide +kernel
theorem dX12_tell_5 : decode cX12_tell 5 = .ok (.iload_n 1, 1) := by decide +kernel
theorem dX12_tell_6 : decode cX12_tell 6 = .ok (.ireturn, 1) := by decide +kernel
theorem dX12_node_99 : decode cX12_node 99 = .ok (.ireturn, 1) := by decide +kernel
theorem dL_law_259 : decode cL_law 259 = .ok (.aload_n 3, 1) := by decide +kernel
theorem dL_law_260 : decode cL_law 260 = .ok (.iconst 0, 1) := by decide +kernel
theorem dL_law_261 : decode cL_law 261 = .ok (.laload, 1) := by decide +kernel
theorem dL_law_262 : decode cL_law 262 = .ok (.iload 7, 2) := by decide +kernel
theorem dL_law_264 : decode cL_law 264 = .ok (.i2l, 1) := by decide +kernel
theorem dL_law_265 : decode cL_law 265 = .ok (.lcmp, 1) := by decide +kernel
theorem dL_law_266 : decode cL_law 266 = .ok (.ifCond .eq 5, 3) := by decide +kernel
theorem dL_law_274 : decode cL_law 274 = .ok (.aload_n 1, 1) := by decide +kernel
theorem dL_law_275 : decode cL_law 275 = .ok (.aload_n 0, 1) := by decide +kernel
theorem dL_law_276 : decode cL_law 276 = .ok (.iload 5, 2) := by decide +kernel
theorem dL_law_278 : decode cL_law 278 = .ok (.iconst 1, 1) := by decide +kernel
theorem dL_law_279 : decode cL_law 279 = .ok (.iadd, 1) := by decide +kernel
theorem dL_law_280 : decode cL_law 280 = .ok (.iaload, 1) := by decide +kernel
theorem dL_law_281 : decode cL_law 281 = .ok (.aload_n 0, 1) := by decide +kernel
theorem dL_law_282 : decode cL_law 282 = .ok (.iload 5, 2) := by decide +kernel
theorem dL_law_284 : decode cL_law 284 = .ok (.iconst 2, 1) := by decide +kernel
theorem dL_law_285 : decode cL_law 285 = .ok (.iadd, 1) := by decide +kernel
theorem dL_law_286 : decode cL_law 286 = .ok (.iaload, 1) := by decide +kernel
theorem dL_law_287 : decode cL_law 287 = .ok (.aload_n 0, 1) := by decide +kernel
theorem dL_law_288 : decode cL_law 288 = .ok (.iload 5, 2) := by decide +kernel
theorem dL_law_290 : decode cL_law 290 = .ok (.iconst 3, 1) := by decide +kernel
theorem dL_law_291 : decode cL_law 291 = .ok (.iadd, 1) := by decide +kernel
theorem dL_law_292 : decode cL_law 292 = .ok (.iaload, 1) := by decide +kernel
theorem dL_law_293 : decode cL_law 293 = .ok (.aload_n 0, 1) := by decide +kernel
theorem dL_law_294 : decode cL_law 294 = .ok (.iload 5, 2) := by decide +kernel
theorem dL_law_296 : decode cL_law 296 = .ok (.iconst 4, 1) := by decide +kernel
theorem dL_law_297 : decode cL_law 297 = .ok (.iadd, 1) := by decide +kernel
theorem dL_law_298 : decode cL_law 298 = .ok (.iaload, 1) := by decide +kernel
theorem dL_law_299 : decode cL_law 299 = .ok (.aload_n 3, 1) := by decide +kernel
theorem dL_law_300 : decode cL_law 300 = .ok (.invokestatic 128, 3) := by decide +kernel
theorem dL_member_0 : decode cL_member 0 = .ok (.aload 5, 2) := by decide +kernel
theorem dL_member_2 : decode cL_member 2 = .ok (.iconst 0, 1) := by decide +kernel
theorem dL_member_3 : decode cL_member 3 = .ok (.aload_n 0, 1) := by decide +kernel
theorem dL_member_4 : decode cL_member 4 = .ok (.iload_n 1, 1) := by decide +kernel
theorem dL_member_5 : decode cL_member 5 = .ok (.iload_n 2, 1) := by decide +kernel
theorem dL_member_6 : decode cL_member 6 = .ok (.iload_n 3, 1) := by decide +kernel
theorem dL_member_7 : decode cL_member 7 = .ok (.iload 4, 2) := by decide +kernel
theorem dL_member_9 : decode cL_member 9 = .ok (.invokevirtual 17, 3) := by decide +kernel
theorem dX6_member_0 : decode cX6_member 0 = .ok (.aload_n 0, 1) := by decide +kernel
theorem dX6_member_1 : decode cX6_member 1 = .ok (.iload_n 1, 1) := by decide +kernel
theorem dX6_member_2 : decode cX6_member 2 = .ok (.invokevirtual 80, 3) := by decide +kernel
theorem dX6_checkNode_0 : decode cX6_checkNode 0 = .ok (.iload_n 1, 1) := by decide +kernel
theorem dX6_checkNode_1 : decode cX6_checkNode 1 = .ok (.ifCond .lt 14, 3) := by decide +kernel
theorem dX6_checkNode_15 : decode cX6_checkNode 15 = .ok (.new 228, 3) := by decide +kernel
theorem dX6_checkNode_18 : decode cX6_checkNode 18 = .ok (.dup, 1) := by decide +kernel
theorem dX6_checkNode_19 : decode cX6_checkNode 19 = .ok (.ldc_w 280, 3) := by decide +kernel
theorem dX6_checkNode_22 : decode cX6_checkNode 22 = .ok (.invokespecial 232, 3) := by decide +kernel
theorem dX6_checkNode_25 : decode cX6_checkNode 25 = .ok (.athrow, 1) := by decide +kernel
theorem dL_member_17 : decode cL_member 17 = .ok (.astore 6, 2) := by decide +kernel
theorem dL_member_19 : decode cL_member 19 = .ok (.iconst 1, 1) := by decide +kernel
theorem dL_member_20 : decode cL_member 20 = .ok (.ireturn, 1) := by decide +kernel
theorem dL_law_303 : decode cL_law 303 = .ok (.istore 6, 2) := by decide +kernel
theorem dL_law_305 : decode cL_law 305 = .ok (.aload_n 2, 1) := by decide +kernel
theorem dL_law_306 : decode cL_law 306 = .ok (.aload_n 0, 1) := by decide +kernel
theorem dL_law_307 : decode cL_law 307 = .ok (.iload 5, 2) := by decide +kernel
theorem dL_law_309 : decode cL_law 309 = .ok (.iconst 1, 1) := by decide +kernel
theorem dL_law_310 : decode cL_law 310 = .ok (.iadd, 1) := by decide +kernel
theorem dL_law_311 : decode cL_law 311 = .ok (.iaload, 1) := by decide +kernel
theorem dL_law_312 : decode cL_law 312 = .ok (.aload_n 0, 1) := by decide +kernel
theorem dL_law_313 : decode cL_law 313 = .ok (.iload 5, 2) := by decide +kernel
theorem dL_law_315 : decode cL_law 315 = .ok (.iconst 2, 1) := by decide +kernel
theorem dL_law_316 : decode cL_law 316 = .ok (.iadd, 1) := by decide +kernel
theorem dL_law_317 : decode cL_law 317 = .ok (.iaload, 1) := by decide +kernel
theorem dL_law_318 : decode cL_law 318 = .ok (.aload_n 0, 1) := by decide +kernel
theorem dL_law_319 : decode cL_law 319 = .ok (.iload 5, 2) := by decide +kernel
theorem dL_law_321 : decode cL_law 321 = .ok (.iconst 3, 1) := by decide +kernel
theorem dL_law_322 : decode cL_law 322 = .ok (.iadd, 1) := by decide +kernel
theorem dL_law_323 : decode cL_law 323 = .ok (.iaload, 1) := by decide +kernel
theorem dL_law_324 : decode cL_law 324 = .ok (.aload_n 0, 1) := by decide +kernel
theorem dL_law_325 : decode cL_law 325 = .ok (.iload 5, 2) := by decide +kernel
theorem dL_law_327 : decode cL_law 327 = .ok (.iconst 4, 1) := by decide +kernel
theorem dL_law_328 : decode cL_law 328 = .ok (.iadd, 1) := by decide +kernel
theorem dL_law_329 : decode cL_law 329 = .ok (.iaload, 1) := by decide +kernel
theorem dL_law_330 : decode cL_law 330 = .ok (.invokevirtual 131, 3) := by decide +kernel
theorem dX12_member_0 : decode cX12_member 0 = .ok (.aload_n 0, 1) := by decide +kernel
theorem dX12_member_1 : decode cX12_member 1 = .ok (.iload_n 1, 1) := by decide +kernel
theorem dX12_member_2 : decode cX12_member 2 = .ok (.invokevirtual 305, 3) := by decide +kernel
theorem dX12_isNode_0 : decode cX12_isNode 0 = .ok (.iload_n 1, 1) := by decide +kernel
theorem dX12_isNode_1 : decode cX12_isNode 1 = .ok (.i2l, 1) := by decide +kernel
theorem dX12_isNode_2 : decode cX12_isNode 2 = .ok (.iconst 0, 1) := by decide +kernel
theorem dX12_isNode_3 : decode cX12_isNode 3 = .ok (.aload_n 0, 1) := by decide +kernel
theorem dX12_isNode_4 : decode cX12_isNode 4 = .ok (.getfield 10, 3) := by decide +kernel
theorem dX12_isNode_7 : decode cX12_isNode 7 = .ok (.invokevirtual 125, 3) := by decide +kernel
theorem dX12_isNode_10 : decode cX12_isNode 10 = .ok (.iconst 1, 1) := by decide +kernel
theorem dX12_isNode_11 : decode cX12_isNode 11 = .ok (.isub, 1) := by decide +kernel
theorem dX12_isNode_12 : decode cX12_isNode 12 = .ok (.invokestatic 285, 3) := by decide +kernel
theorem dX12_isNode_15 : decode cX12_isNode 15 = .ok (.ireturn, 1) := by decide +kernel
theorem dX12_member_5 : decode cX12_member 5 = .ok (.ifCond .eq 11, 3) := by decide +kernel
theorem dX12_member_16 : decode cX12_member 16 = .ok (.aload_n 0, 1) := by decide +kernel
theorem dX12_member_17 : decode cX12_member 17 = .ok (.iconst 1, 1) := by decide +kernel
theorem dX12_member_18 : decode cX12_member 18 = .ok (.invokevirtual 289, 3) := by decide +kernel
theorem dX12_member_21 : decode cX12_member 21 = .ok (.ireturn, 1) := by decide +kernel
theorem dL_law_333 : decode cL_law 333 = .ok (.istore 7, 2) := by decide +kernel
theorem dL_law_335 : decode cL_law 335 = .ok (.aload_n 2, 1) := by decide +kernel
theorem dL_law_336 : decode cL_law 336 = .ok (.invokevirtual 125, 3) := by decide +kernel
theorem dL_law_339 : decode cL_law 339 = .ok (.iload 6, 2) := by decide +kernel
theorem dL_law_341 : decode cL_law 341 = .ok (.if_icmp .eq 5, 3) := by decide +kernel
theorem dL_law_346 : decode cL_law 346 = .ok (.iload 6, 2) := by decide +kernel
theorem dL_law_348 : decode cL_law 348 = .ok (.ifCond .ne 15, 3) := by decide +kernel
theorem dL_law_363 : decode cL_law 363 = .ok (.goto 1600, 3) := by decide +kernel
theorem dX6_checkNode_4 : decode cX6_checkNode 4 = .ok (.iload_n 1, 1) := by decide +kernel
theorem dX6_checkNode_5 : decode cX6_checkNode 5 = .ok (.aload_n 0, 1) := by decide +kernel
theorem dX6_checkNode_6 : decode cX6_checkNode 6 = .ok (.getfield 12, 3) := by decide +kernel
theorem dX6_checkNode_9 : decode cX6_checkNode 9 = .ok (.getfield 63, 3) := by decide +kernel
theorem dX6_checkNode_12 : decode cX6_checkNode 12 = .ok (.if_icmp .lt 14, 3) := by decide +kernel
theorem dL_law_366 : decode cL_law 366 = .ok (.aload_n 1, 1) := by decide +kernel
theorem dL_law_367 : decode cL_law 367 = .ok (.aload_n 0, 1) := by decide +kernel
theorem dL_law_368 : decode cL_law 368 = .ok (.iload 5, 2) := by decide +kernel
theorem dL_law_370 : decode cL_law 370 = .ok (.iconst 1, 1) := by decide +kernel
theorem dL_law_371 : decode cL_law 371 = .ok (.iadd, 1) := by decide +kernel
theorem dL_law_372 : decode cL_law 372 = .ok (.iaload, 1) := by decide +kernel
theorem dL_law_373 : decode cL_law 373 = .ok (.aload_n 0, 1) := by decide +kernel
theorem dL_law_374 : decode cL_law 374 = .ok (.iload 5, 2) := by decide +kernel
theorem dL_law_376 : decode cL_law 376 = .ok (.iconst 2, 1) := by decide +kernel
theorem dL_law_377 : decode cL_law 377 = .ok (.iadd, 1) := by decide +kernel
theorem dL_law_378 : decode cL_law 378 = .ok (.iaload, 1) := by decide +kernel
theorem dL_law_379 : decode cL_law 379 = .ok (.aload_n 0, 1) := by decide +kernel
theorem dL_law_380 : decode cL_law 380 = .ok (.iload 5, 2) := by decide +kernel
theorem dL_law_382 : decode cL_law 382 = .ok (.iconst 3, 1) := by decide +kernel
theorem dL_law_383 : decode cL_law 383 = .ok (.iadd, 1) := by decide +kernel
theorem dL_law_384 : decode cL_law 384 = .ok (.iaload, 1) := by decide +kernel
theorem dL_law_385 : decode cL_law 385 = .ok (.aload_n 3, 1) := by decide +kernel
theorem dL_law_386 : decode cL_law 386 = .ok (.invokestatic 132, 3) := by decide +kernel
theorem dL_load_0 : decode cL_load 0 = .ok (.aload 4, 2) := by decide +kernel
theorem dL_load_2 : decode cL_load 2 = .ok (.iconst 0, 1) := by decide +kernel
theorem dL_load_3 : decode cL_load 3 = .ok (.aload_n 0, 1) := by decide +kernel
theorem dL_load_4 : decode cL_load 4 = .ok (.iload_n 1, 1) := by decide +kernel
theorem dL_load_5 : decode cL_load 5 = .ok (.iload_n 2, 1) := by decide +kernel
theorem dL_load_6 : decode cL_load 6 = .ok (.iload_n 3, 1) := by decide +kernel
theorem dL_load_7 : decode cL_load 7 = .ok (.invokevirtual 23, 3) := by decide +kernel
theorem dX6_load_0 : decode cX6_load 0 = .ok (.aload_n 0, 1) := by decide +kernel
theorem dX6_load_1 : decode cX6_load 1 = .ok (.iload_n 1, 1) := by decide +kernel
theorem dX6_load_2 : decode cX6_load 2 = .ok (.invokevirtual 80, 3) := by decide +kernel
theorem dL_load_15 : decode cL_load 15 = .ok (.astore 5, 2) := by decide +kernel
theorem dL_load_17 : decode cL_load 17 = .ok (.iconst 1, 1) := by decide +kernel
theorem dL_load_18 : decode cL_load 18 = .ok (.ireturn, 1) := by decide +kernel
theorem dL_law_389 : decode cL_law 389 = .ok (.istore 6, 2) := by decide +kernel
theorem dL_law_391 : decode cL_law 391 = .ok (.aload_n 2, 1) := by decide +kernel
theorem dL_law_392 : decode cL_law 392 = .ok (.aload_n 0, 1) := by decide +kernel
theorem dL_law_393 : decode cL_law 393 = .ok (.iload 5, 2) := by decide +kernel
theorem dL_law_395 : decode cL_law 395 = .ok (.iconst 1, 1) := by decide +kernel
theorem dL_law_396 : decode cL_law 396 = .ok (.iadd, 1) := by decide +kernel
theorem dL_law_397 : decode cL_law 397 = .ok (.iaload, 1) := by decide +kernel
theorem dL_law_398 : decode cL_law 398 = .ok (.aload_n 0, 1) := by decide +kernel
theorem dL_law_399 : decode cL_law 399 = .ok (.iload 5, 2) := by decide +kernel
theorem dL_law_401 : decode cL_law 401 = .ok (.iconst 2, 1) := by decide +kernel
theorem dL_law_402 : decode cL_law 402 = .ok (.iadd, 1) := by decide +kernel
theorem dL_law_403 : decode cL_law 403 = .ok (.iaload, 1) := by decide +kernel
theorem dL_law_404 : decode cL_law 404 = .ok (.aload_n 0, 1) := by decide +kernel
theorem dL_law_405 : decode cL_law 405 = .ok (.iload 5, 2) := by decide +kernel
theorem dL_law_407 : decode cL_law 407 = .ok (.iconst 3, 1) := by decide +kernel
theorem dL_law_408 : decode cL_law 408 = .ok (.iadd, 1) := by decide +kernel
theorem dL_law_409 : decode cL_law 409 = .ok (.iaload, 1) := by decide +kernel
theorem dL_law_410 : decode cL_law 410 = .ok (.invokevirtual 135, 3) := by decide +kernel
theorem dX12_load_0 : decode cX12_load 0 = .ok (.aload_n 0, 1) := by decide +kernel
theorem dX12_load_1 : decode cX12_load 1 = .ok (.iload_n 1, 1) := by decide +kernel
theorem dX12_load_2 : decode cX12_load 2 = .ok (.invokevirtual 305, 3) := by decide +kernel
theorem dX12_load_5 : decode cX12_load 5 = .ok (.ifCond .ne 9, 3) := by decide +kernel
theorem dX12_load_8 : decode cX12_load 8 = .ok (.aload_n 0, 1) := by decide +kernel
theorem dX12_load_9 : decode cX12_load 9 = .ok (.iconst 1, 1) := by decide +kernel
theorem dX12_load_10 : decode cX12_load 10 = .ok (.invokevirtual 289, 3) := by decide +kernel
theorem dX12_load_13 : decode cX12_load 13 = .ok (.ireturn, 1) := by decide +kernel
theorem dL_law_413 : decode cL_law 413 = .ok (.istore 7, 2) := by decide +kernel
theorem dL_law_415 : decode cL_law 415 = .ok (.aload_n 2, 1) := by decide +kernel
theorem dL_law_416 : decode cL_law 416 = .ok (.invokevirtual 125, 3) := by decide +kernel
theorem dL_law_419 : decode cL_law 419 = .ok (.iload 6, 2) := by decide +kernel
theorem dL_law_421 : decode cL_law 421 = .ok (.if_icmp .eq 5, 3) := by decide +kernel
theorem dL_law_426 : decode cL_law 426 = .ok (.iload 6, 2) := by decide +kernel
theorem dL_law_428 : decode cL_law 428 = .ok (.ifCond .ne 15, 3) := by decide +kernel
theorem dL_law_443 : decode cL_law 443 = .ok (.goto 1520, 3) := by decide +kernel
theorem dL_law_446 : decode cL_law 446 = .ok (.aload_n 1, 1) := by decide +kernel
theorem dL_law_447 : decode cL_law 447 = .ok (.invokevirtual 136, 3) := by decide +kernel
theorem dX6_state_0 : decode cX6_state 0 = .ok (.aload_n 0, 1) := by decide +kernel
theorem dX6_state_1 : decode cX6_state 1 = .ok (.getfield 19, 3) := by decide +kernel
theorem dX6_state_4 : decode cX6_state 4 = .ok (.aload_n 0, 1) := by decide +kernel
theorem dX6_state_5 : decode cX6_state 5 = .ok (.getfield 12, 3) := by decide +kernel
theorem dX6_state_8 : decode cX6_state 8 = .ok (.invokevirtual 110, 3) := by decide +kernel
theorem dX1_find_0 : decode cX1_find 0 = .ok (.aload_n 0, 1) := by decide +kernel
theorem dX1_find_1 : decode cX1_find 1 = .ok (.getfield 59, 3) := by decide +kernel
theorem dX1_find_4 : decode cX1_find 4 = .ok (.ifCond .eq 4, 3) := by decide +kernel
theorem dX1_find_8 : decode cX1_find 8 = .ok (.aload_n 0, 1) := by decide +kernel
theorem dX1_find_9 : decode cX1_find 9 = .ok (.aload_n 0, 1) := by decide +kernel
theorem dX1_find_10 : decode cX1_find 10 = .ok (.aload_n 1, 1) := by decide +kernel
theorem dX1_find_11 : decode cX1_find 11 = .ok (.invokevirtual 63, 3) := by decide +kernel
theorem dX1_findPulls_0 : decode cX1_findPulls 0 = .ok (.iconst 0, 1) := by decide +kernel
theorem dX1_findPulls_1 : decode cX1_findPulls 1 = .ok (.istore_n 2, 1) := by decide +kernel
theorem dX1_findPulls_2 : decode cX1_findPulls 2 = .ok (.iconst 0, 1) := by decide +kernel
theorem dX1_findPulls_3 : decode cX1_findPulls 3 = .ok (.istore_n 3, 1) := by decide +kernel
theorem dX1_findPulls_4 : decode cX1_findPulls 4 = .ok (.iload_n 3, 1) := by decide +kernel
theorem dX1_findPulls_5 : decode cX1_findPulls 5 = .ok (.aload_n 1, 1) := by decide +kernel
theorem dX1_findPulls_6 : decode cX1_findPulls 6 = .ok (.getfield 78, 3) := by decide +kernel
theorem dX1_findPulls_9 : decode cX1_findPulls 9 = .ok (.if_icmp .ge 43, 3) := by decide +kernel
theorem dX1_findPulls_52 : decode cX1_findPulls 52 = .ok (.aload_n 1, 1) := by decide +kernel
theorem dX1_findPulls_53 : decode cX1_findPulls 53 = .ok (.getfield 88, 3) := by decide +kernel
theorem dX1_findPulls_56 : decode cX1_findPulls 56 = .ok (.iload_n 2, 1) := by decide +kernel
theorem dX1_findPulls_57 : decode cX1_findPulls 57 = .ok (.if_icmp .eq 19, 3) := by decide +kernel
theorem dX1_findPulls_76 : decode cX1_findPulls 76 = .ok (.aload_n 0, 1) := by decide +kernel
theorem dX1_findPulls_77 : decode cX1_findPulls 77 = .ok (.aload_n 1, 1) := by decide +kernel
theorem dX1_findPulls_78 : decode cX1_findPulls 78 = .ok (.invokevirtual 91, 3) := by decide +kernel
theorem dX1_fillRows_0 : decode cX1_fillRows 0 = .ok (.iconst 0, 1) := by decide +kernel
theorem dX1_fillRows_1 : decode cX1_fillRows 1 = .ok (.istore_n 2, 1) := by decide +kernel
theorem dX1_fillRows_2 : decode cX1_fillRows 2 = .ok (.iconst 0, 1) := by decide +kernel
theorem dX1_fillRows_3 : decode cX1_fillRows 3 = .ok (.istore_n 3, 1) := by decide +kernel
theorem dX1_fillRows_4 : decode cX1_fillRows 4 = .ok (.iload_n 3, 1) := by decide +kernel
theorem dX1_fillRows_5 : decode cX1_fillRows 5 = .ok (.iconst 2, 1) := by decide +kernel
theorem dX1_fillRows_6 : decode cX1_fillRows 6 = .ok (.aload_n 1, 1) := by decide +kernel
theorem dX1_fillRows_7 : decode cX1_fillRows 7 = .ok (.getfield 78, 3) := by decide +kernel
theorem dX1_fillRows_10 : decode cX1_fillRows 10 = .ok (.imul, 1) := by decide +kernel
theorem dX1_fillRows_11 : decode cX1_fillRows 11 = .ok (.if_icmp .ge 115, 3) := by decide +kernel
theorem dX1_fillRows_126 : decode cX1_fillRows 126 = .ok (.return_, 1) := by decide +kernel
theorem dX1_findPulls_81 : decode cX1_findPulls 81 = .ok (.aload_n 0, 1) := by decide +kernel
theorem dX1_findPulls_82 : decode cX1_findPulls 82 = .ok (.iload_n 2, 1) := by decide +kernel
theorem dX1_findPulls_83 : decode cX1_findPulls 83 = .ok (.invokevirtual 94, 3) := by decide +kernel
theorem dX1_findDeterminants_0 : decode cX1_findDeterminants 0 = .ok (.iconst 0, 1) := by decide +kernel
theorem dX1_findDeterminants_1 : decode cX1_findDeterminants 1 = .ok (.istore_n 2, 1) := by decide +kernel
theorem dX1_findDeterminants_2 : decode cX1_findDeterminants 2 = .ok (.iload_n 2, 1) := by decide +kernel
theorem dX1_findDeterminants_3 : decode cX1_findDeterminants 3 = .ok (.iconst 1, 1) := by decide +kernel
theorem dX1_findDeterminants_4 : decode cX1_findDeterminants 4 = .ok (.iload_n 1, 1) := by decide +kernel
theorem dX1_findDeterminants_5 : decode cX1_findDeterminants 5 = .ok (.ishl, 1) := by decide +kernel
theorem dX1_findDeterminants_6 : decode cX1_findDeterminants 6 = .ok (.if_icmp .ge 107, 3) := by decide +kernel
theorem dX1_findDeterminants_9 : decode cX1_findDeterminants 9 = .ok (.iload_n 2, 1) := by decide +kernel
theorem dX1_findDeterminants_10 : decode cX1_findDeterminants 10 = .ok (.invokestatic 119, 3) := by decide +kernel
theorem dJ6_bitCount_0f7a4_0 : decode cJ6_bitCount_0f7a4 0 = .ok (.iload_n 0, 1) := by decide +kernel
theorem dJ6_bitCount_0f7a4_1 : decode cJ6_bitCount_0f7a4 1 = .ok (.iload_n 0, 1) := by decide +kernel
theorem dJ6_bitCount_0f7a4_2 : decode cJ6_bitCount_0f7a4 2 = .ok (.iconst 1, 1) := by decide +kernel
theorem dJ6_bitCount_0f7a4_3 : decode cJ6_bitCount_0f7a4 3 = .ok (.iushr, 1) := by decide +kernel
theorem dJ6_bitCount_0f7a4_4 : decode cJ6_bitCount_0f7a4 4 = .ok (.ldc_w 265, 3) := by decide +kernel
theorem dJ6_bitCount_0f7a4_7 : decode cJ6_bitCount_0f7a4 7 = .ok (.iand, 1) := by decide +kernel
theorem dJ6_bitCount_0f7a4_8 : decode cJ6_bitCount_0f7a4 8 = .ok (.isub, 1) := by decide +kernel
theorem dJ6_bitCount_0f7a4_9 : decode cJ6_bitCount_0f7a4 9 = .ok (.istore_n 0, 1) := by decide +kernel
theorem dJ6_bitCount_0f7a4_10 : decode cJ6_bitCount_0f7a4 10 = .ok (.iload_n 0, 1) := by decide +kernel
theorem dJ6_bitCount_0f7a4_11 : decode cJ6_bitCount_0f7a4 11 = .ok (.ldc_w 266, 3) := by decide +kernel
theorem dJ6_bitCount_0f7a4_14 : decode cJ6_bitCount_0f7a4 14 = .ok (.iand, 1) := by decide +kernel
theorem dJ6_bitCount_0f7a4_15 : decode cJ6_bitCount_0f7a4 15 = .ok (.iload_n 0, 1) := by decide +kernel
theorem dJ6_bitCount_0f7a4_16 : decode cJ6_bitCount_0f7a4 16 = .ok (.iconst 2, 1) := by decide +kernel
theorem dJ6_bitCount_0f7a4_17 : decode cJ6_bitCount_0f7a4 17 = .ok (.iushr, 1) := by decide +kernel
theorem dJ6_bitCount_0f7a4_18 : decode cJ6_bitCount_0f7a4 18 = .ok (.ldc_w 266, 3) := by decide +kernel
theorem dJ6_bitCount_0f7a4_21 : decode cJ6_bitCount_0f7a4 21 = .ok (.iand, 1) := by decide +kernel
theorem dJ6_bitCount_0f7a4_22 : decode cJ6_bitCount_0f7a4 22 = .ok (.iadd, 1) := by decide +kernel
theorem dJ6_bitCount_0f7a4_23 : decode cJ6_bitCount_0f7a4 23 = .ok (.istore_n 0, 1) := by decide +kernel
theorem dJ6_bitCount_0f7a4_24 : decode cJ6_bitCount_0f7a4 24 = .ok (.iload_n 0, 1) := by decide +kernel
theorem dJ6_bitCount_0f7a4_25 : decode cJ6_bitCount_0f7a4 25 = .ok (.iload_n 0, 1) := by decide +kernel
theorem dJ6_bitCount_0f7a4_26 : decode cJ6_bitCount_0f7a4 26 = .ok (.iconst 4, 1) := by decide +kernel
theorem dJ6_bitCount_0f7a4_27 : decode cJ6_bitCount_0f7a4 27 = .ok (.iushr, 1) := by decide +kernel
theorem dJ6_bitCount_0f7a4_28 : decode cJ6_bitCount_0f7a4 28 = .ok (.iadd, 1) := by decide +kernel
theorem dJ6_bitCount_0f7a4_29 : decode cJ6_bitCount_0f7a4 29 = .ok (.ldc_w 267, 3) := by decide +kernel
theorem dJ6_bitCount_0f7a4_32 : decode cJ6_bitCount_0f7a4 32 = .ok (.iand, 1) := by decide +kernel
theorem dJ6_bitCount_0f7a4_33 : decode cJ6_bitCount_0f7a4 33 = .ok (.istore_n 0, 1) := by decide +kernel
theorem dJ6_bitCount_0f7a4_34 : decode cJ6_bitCount_0f7a4 34 = .ok (.iload_n 0, 1) := by decide +kernel
theorem dJ6_bitCount_0f7a4_35 : decode cJ6_bitCount_0f7a4 35 = .ok (.iload_n 0, 1) := by decide +kernel
theorem dJ6_bitCount_0f7a4_36 : decode cJ6_bitCount_0f7a4 36 = .ok (.bipush 8, 2) := by decide +kernel
theorem dJ6_bitCount_0f7a4_38 : decode cJ6_bitCount_0f7a4 38 = .ok (.iushr, 1) := by decide +kernel
theorem dJ6_bitCount_0f7a4_39 : decode cJ6_bitCount_0f7a4 39 = .ok (.iadd, 1) := by decide +kernel
theorem dJ6_bitCount_0f7a4_40 : decode cJ6_bitCount_0f7a4 40 = .ok (.istore_n 0, 1) := by decide +kernel
theorem dJ6_bitCount_0f7a4_41 : decode cJ6_bitCount_0f7a4 41 = .ok (.iload_n 0, 1) := by decide +kernel
theorem dJ6_bitCount_0f7a4_42 : decode cJ6_bitCount_0f7a4 42 = .ok (.iload_n 0, 1) := by decide +kernel
theorem dJ6_bitCount_0f7a4_43 : decode cJ6_bitCount_0f7a4 43 = .ok (.bipush 16, 2) := by decide +kernel
theorem dJ6_bitCount_0f7a4_45 : decode cJ6_bitCount_0f7a4 45 = .ok (.iushr, 1) := by decide +kernel
theorem dJ6_bitCount_0f7a4_46 : decode cJ6_bitCount_0f7a4 46 = .ok (.iadd, 1) := by decide +kernel
theorem dJ6_bitCount_0f7a4_47 : decode cJ6_bitCount_0f7a4 47 = .ok (.istore_n 0, 1) := by decide +kernel
theorem dJ6_bitCount_0f7a4_48 : decode cJ6_bitCount_0f7a4 48 = .ok (.iload_n 0, 1) := by decide +kernel
theorem dJ6_bitCount_0f7a4_49 : decode cJ6_bitCount_0f7a4 49 = .ok (.bipush 63, 2) := by decide +kernel
theorem dJ6_bitCount_0f7a4_51 : decode cJ6_bitCount_0f7a4 51 = .ok (.iand, 1) := by decide +kernel
theorem dJ6_bitCount_0f7a4_52 : decode cJ6_bitCount_0f7a4 52 = .ok (.ireturn, 1) := by decide +kernel
theorem dX1_findDeterminants_13 : decode cX1_findDeterminants 13 = .ok (.istore_n 3, 1) := by decide +kernel
theorem dX1_findDeterminants_14 : decode cX1_findDeterminants 14 = .ok (.aload_n 0, 1) := by decide +kernel
theorem dX1_findDeterminants_15 : decode cX1_findDeterminants 15 = .ok (.getfield 31, 3) := by decide +kernel
theorem dX1_findDeterminants_18 : decode cX1_findDeterminants 18 = .ok (.iload_n 2, 1) := by decide +kernel
theorem dX1_findDeterminants_19 : decode cX1_findDeterminants 19 = .ok (.iload_n 2, 1) := by decide +kernel
theorem dX1_findDeterminants_20 : decode cX1_findDeterminants 20 = .ok (.ifCond .ne 7, 3) := by decide +kernel
theorem dX1_findDeterminants_23 : decode cX1_findDeterminants 23 = .ok (.lconst 1, 1) := by decide +kernel
theorem dX1_findDeterminants_24 : decode cX1_findDeterminants 24 = .ok (.goto 15, 3) := by decide +kernel
theorem dX1_findDeterminants_39 : decode cX1_findDeterminants 39 = .ok (.lastore, 1) := by decide +kernel
theorem dX1_findDeterminants_40 : decode cX1_findDeterminants 40 = .ok (.iload_n 3, 1) := by decide +kernel
theorem dX1_findDeterminants_41 : decode cX1_findDeterminants 41 = .ok (.iload_n 1, 1) := by decide +kernel
theorem dX1_findDeterminants_42 : decode cX1_findDeterminants 42 = .ok (.if_icmp .ge 65, 3) := by decide +kernel
theorem dX1_findDeterminants_107 : decode cX1_findDeterminants 107 = .ok (.iinc 2 1, 3) := by decide +kernel
theorem dX1_findDeterminants_110 : decode cX1_findDeterminants 110 = .ok (.goto (-108), 3) := by decide +kernel
theorem dX1_findDeterminants_113 : decode cX1_findDeterminants 113 = .ok (.return_, 1) := by decide +kernel
theorem dX1_findPulls_86 : decode cX1_findPulls 86 = .ok (.aload_n 0, 1) := by decide +kernel
theorem dX1_findPulls_87 : decode cX1_findPulls 87 = .ok (.getfield 31, 3) := by decide +kernel
theorem dX1_findPulls_90 : decode cX1_findPulls 90 = .ok (.iconst 1, 1) := by decide +kernel
theorem dX1_findPulls_91 : decode cX1_findPulls 91 = .ok (.iload_n 2, 1) := by decide +kernel
theorem dX1_findPulls_92 : decode cX1_findPulls 92 = .ok (.ishl, 1) := by decide +kernel
theorem dX1_findPulls_93 : decode cX1_findPulls 93 = .ok (.iconst 1, 1) := by decide +kernel
theorem dX1_findPulls_94 : decode cX1_findPulls 94 = .ok (.isub, 1) := by decide +kernel
theorem dX1_findPulls_95 : decode cX1_findPulls 95 = .ok (.laload, 1) := by decide +kernel
theorem dX1_findPulls_96 : decode cX1_findPulls 96 = .ok (.lstore_n 3, 1) := by decide +kernel
theorem dX1_findPulls_97 : decode cX1_findPulls 97 = .ok (.lload_n 3, 1) := by decide +kernel
theorem dX1_findPulls_98 : decode cX1_findPulls 98 = .ok (.lconst 0, 1) := by decide +kernel
theorem dX1_findPulls_99 : decode cX1_findPulls 99 = .ok (.lcmp, 1) := by decide +kernel
theorem dX1_findPulls_100 : decode cX1_findPulls 100 = .ok (.ifCond .ne 6, 3) := by decide +kernel
theorem dX1_findPulls_106 : decode cX1_findPulls 106 = .ok (.aload_n 0, 1) := by decide +kernel
theorem dX1_findPulls_107 : decode cX1_findPulls 107 = .ok (.lload_n 3, 1) := by decide +kernel
theorem dX1_findPulls_108 : decode cX1_findPulls 108 = .ok (.invokestatic 98, 3) := by decide +kernel
theorem dX1_findPulls_111 : decode cX1_findPulls 111 = .ok (.putfield 104, 3) := by decide +kernel
theorem dX1_findPulls_114 : decode cX1_findPulls 114 = .ok (.iconst 0, 1) := by decide +kernel
theorem dX1_findPulls_115 : decode cX1_findPulls 115 = .ok (.istore 5, 2) := by decide +kernel
theorem dX1_findPulls_117 : decode cX1_findPulls 117 = .ok (.iload 5, 2) := by decide +kernel
theorem dX1_findPulls_119 : decode cX1_findPulls 119 = .ok (.iload_n 2, 1) := by decide +kernel
theorem dX1_findPulls_120 : decode cX1_findPulls 120 = .ok (.if_icmp .ge 59, 3) := by decide +kernel
theorem dX1_findPulls_179 : decode cX1_findPulls 179 = .ok (.bipush 46, 2) := by decide +kernel
theorem dX1_findPulls_181 : decode cX1_findPulls 181 = .ok (.ireturn, 1) := by decide +kernel
theorem dX1_find_14 : decode cX1_find 14 = .ok (.putfield 67, 3) := by decide +kernel
theorem dX1_find_17 : decode cX1_find 17 = .ok (.aload_n 0, 1) := by decide +kernel
theorem dX1_find_18 : decode cX1_find 18 = .ok (.getfield 67, 3) := by decide +kernel
theorem dX1_find_21 : decode cX1_find 21 = .ok (.bipush 46, 2) := by decide +kernel
theorem dX1_find_23 : decode cX1_find 23 = .ok (.if_icmp .ne 13, 3) := by decide +kernel
theorem dX1_find_26 : decode cX1_find 26 = .ok (.aload_n 0, 1) := by decide +kernel
theorem dX1_find_27 : decode cX1_find 27 = .ok (.aload_n 1, 1) := by decide +kernel
theorem dX1_find_28 : decode cX1_find 28 = .ok (.invokevirtual 71, 3) := by decide +kernel
theorem dX1_findBearings_0 : decode cX1_findBearings 0 = .ok (.iconst 0, 1) := by decide +kernel
theorem dX1_findBearings_1 : decode cX1_findBearings 1 = .ok (.istore_n 2, 1) := by decide +kernel
theorem dX1_findBearings_2 : decode cX1_findBearings 2 = .ok (.iload_n 2, 1) := by decide +kernel
theorem dX1_findBearings_3 : decode cX1_findBearings 3 = .ok (.iconst 2, 1) := by decide +kernel
theorem dX1_findBearings_4 : decode cX1_findBearings 4 = .ok (.aload_n 1, 1) := by decide +kernel
theorem dX1_findBearings_5 : decode cX1_findBearings 5 = .ok (.getfield 78, 3) := by decide +kernel
theorem dX1_findBearings_8 : decode cX1_findBearings 8 = .ok (.imul, 1) := by decide +kernel
theorem dX1_findBearings_9 : decode cX1_findBearings 9 = .ok (.if_icmp .ge 135, 3) := by decide +kernel
theorem dX1_findBearings_144 : decode cX1_findBearings 144 = .ok (.return_, 1) := by decide +kernel
theorem dX1_find_31 : decode cX1_find 31 = .ok (.aload_n 0, 1) := by decide +kernel
theorem dX1_find_32 : decode cX1_find 32 = .ok (.aload_n 1, 1) := by decide +kernel
theorem dX1_find_33 : decode cX1_find 33 = .ok (.invokevirtual 75, 3) := by decide +kernel
theorem dX1_findAmounts_0 : decode cX1_findAmounts 0 = .ok (.aload_n 0, 1) := by decide +kernel
theorem dX1_findAmounts_1 : decode cX1_findAmounts 1 = .ok (.getfield 47, 3) := by decide +kernel
theorem dX1_findAmounts_4 : decode cX1_findAmounts 4 = .ok (.aload_n 0, 1) := by decide +kernel
theorem dX1_findAmounts_5 : decode cX1_findAmounts 5 = .ok (.getfield 104, 3) := by decide +kernel
theorem dX1_findAmounts_8 : decode cX1_findAmounts 8 = .ok (.invokevirtual 141, 3) := by decide +kernel
theorem dX5_set_0 : decode cX5_set 0 = .ok (.iconst 2, 1) := by decide +kernel
theorem dX5_set_1 : decode cX5_set 1 = .ok (.istore_n 3, 1) := by decide +kernel
theorem dX5_set_2 : decode cX5_set 2 = .ok (.iload_n 3, 1) := by decide +kernel
theorem dX5_set_3 : decode cX5_set 3 = .ok (.bipush 8, 2) := by decide +kernel
theorem dX5_set_5 : decode cX5_set 5 = .ok (.if_icmp .ge 16, 3) := by decide +kernel
theorem dX5_set_8 : decode cX5_set 8 = .ok (.aload_n 0, 1) := by decide +kernel
theorem dX5_set_9 : decode cX5_set 9 = .ok (.getfield 9, 3) := by decide +kernel
theorem dX5_set_12 : decode cX5_set 12 = .ok (.iload_n 3, 1) := by decide +kernel
theorem dX5_set_13 : decode cX5_set 13 = .ok (.lconst 0, 1) := by decide +kernel
theorem dX5_set_14 : decode cX5_set 14 = .ok (.lastore, 1) := by decide +kernel
theorem dX5_set_15 : decode cX5_set 15 = .ok (.iinc 3 1, 3) := by decide +kernel
theorem dX5_set_18 : decode cX5_set 18 = .ok (.goto (-16), 3) := by decide +kernel
theorem dX5_set_21 : decode cX5_set 21 = .ok (.aload_n 0, 1) := by decide +kernel
theorem dX5_set_22 : decode cX5_set 22 = .ok (.getfield 9, 3) := by decide +kernel
theorem dX5_set_25 : decode cX5_set 25 = .ok (.iconst 0, 1) := by decide +kernel
theorem dX5_set_26 : decode cX5_set 26 = .ok (.lload_n 1, 1) := by decide +kernel
theorem dX5_set_27 : decode cX5_set 27 = .ok (.ldc2_w 13, 3) := by decide +kernel
theorem dX5_set_30 : decode cX5_set 30 = .ok (.land, 1) := by decide +kernel
theorem dX5_set_31 : decode cX5_set 31 = .ok (.lastore, 1) := by decide +kernel
theorem dX5_set_32 : decode cX5_set 32 = .ok (.aload_n 0, 1) := by decide +kernel
theorem dX5_set_33 : decode cX5_set 33 = .ok (.getfield 9, 3) := by decide +kernel
theorem dX5_set_36 : decode cX5_set 36 = .ok (.iconst 1, 1) := by decide +kernel
theorem dX5_set_37 : decode cX5_set 37 = .ok (.lload_n 1, 1) := by decide +kernel
theorem dX5_set_38 : decode cX5_set 38 = .ok (.bipush 32, 2) := by decide +kernel
theorem dX5_set_40 : decode cX5_set 40 = .ok (.lushr, 1) := by decide +kernel
theorem dX5_set_41 : decode cX5_set 41 = .ok (.lastore, 1) := by decide +kernel
theorem dX5_set_42 : decode cX5_set 42 = .ok (.return_, 1) := by decide +kernel
theorem dX1_findAmounts_11 : decode cX1_findAmounts 11 = .ok (.iconst 0, 1) := by decide +kernel
theorem dX1_findAmounts_12 : decode cX1_findAmounts 12 = .ok (.istore_n 2, 1) := by decide +kernel
theorem dX1_findAmounts_13 : decode cX1_findAmounts 13 = .ok (.iload_n 2, 1) := by decide +kernel
theorem dX1_findAmounts_14 : decode cX1_findAmounts 14 = .ok (.aload_n 1, 1) := by decide +kernel
theorem dX1_findAmounts_15 : decode cX1_findAmounts 15 = .ok (.getfield 88, 3) := by decide +kernel
theorem dX1_findAmounts_18 : decode cX1_findAmounts 18 = .ok (.if_icmp .ge 80, 3) := by decide +kernel
theorem dX1_findAmounts_98 : decode cX1_findAmounts 98 = .ok (.return_, 1) := by decide +kernel
theorem dX1_find_36 : decode cX1_find 36 = .ok (.aload_n 0, 1) := by decide +kernel
theorem dX1_find_37 : decode cX1_find 37 = .ok (.iconst 1, 1) := by decide +kernel
theorem dX1_find_38 : decode cX1_find 38 = .ok (.putfield 59, 3) := by decide +kernel
theorem dX1_find_41 : decode cX1_find 41 = .ok (.return_, 1) := by decide +kernel
theorem dX6_state_11 : decode cX6_state 11 = .ok (.aload_n 0, 1) := by decide +kernel
theorem dX6_state_12 : decode cX6_state 12 = .ok (.getfield 19, 3) := by decide +kernel
theorem dX6_state_15 : decode cX6_state 15 = .ok (.getfield 114, 3) := by decide +kernel
theorem dX6_state_18 : decode cX6_state 18 = .ok (.ireturn, 1) := by decide +kernel
theorem dL_law_450 : decode cL_law 450 = .ok (.aload_n 2, 1) := by decide +kernel
theorem dL_law_451 : decode cL_law 451 = .ok (.invokevirtual 140, 3) := by decide +kernel
theorem dX12_state_0 : decode cX12_state 0 = .ok (.aload_n 0, 1) := by decide +kernel
theorem dX12_state_1 : decode cX12_state 1 = .ok (.invokevirtual 166, 3) := by decide +kernel
theorem dX12_reckons_0 : decode cX12_reckons 0 = .ok (.aload_n 0, 1) := by decide +kernel
theorem dX12_reckons_1 : decode cX12_reckons 1 = .ok (.getfield 77, 3) := by decide +kernel
theorem dX12_reckons_4 : decode cX12_reckons 4 = .ok (.ifCond .eq 4, 3) := by decide +kernel
theorem dX12_reckons_8 : decode cX12_reckons 8 = .ok (.aload_n 0, 1) := by decide +kernel
theorem dX12_reckons_9 : decode cX12_reckons 9 = .ok (.iconst 1, 1) := by decide +kernel
theorem dX12_reckons_10 : decode cX12_reckons 10 = .ok (.putfield 77, 3) := by decide +kernel
theorem dX12_reckons_13 : decode cX12_reckons 13 = .ok (.aload_n 0, 1) := by decide +kernel
theorem dX12_reckons_14 : decode cX12_reckons 14 = .ok (.iconst 0, 1) := by decide +kernel
theorem dX12_reckons_15 : decode cX12_reckons 15 = .ok (.putfield 151, 3) := by decide +kernel
theorem dX12_reckons_18 : decode cX12_reckons 18 = .ok (.aload_n 0, 1) := by decide +kernel
theorem dX12_reckons_19 : decode cX12_reckons 19 = .ok (.invokevirtual 154, 3) := by decide +kernel
theorem dX12_unknowns_0 : decode cX12_unknowns 0 = .ok (.aload_n 0, 1) := by decide +kernel
theorem dX12_unknowns_1 : decode cX12_unknowns 1 = .ok (.getfield 16, 3) := by decide +kernel
theorem dX12_unknowns_4 : decode cX12_unknowns 4 = .ok (.invokevirtual 125, 3) := by decide +kernel
theorem dX12_unknowns_7 : decode cX12_unknowns 7 = .ok (.istore_n 1, 1) := by decide +kernel
theorem dX12_unknowns_8 : decode cX12_unknowns 8 = .ok (.iconst 0, 1) := by decide +kernel
theorem dX12_unknowns_9 : decode cX12_unknowns 9 = .ok (.istore_n 2, 1) := by decide +kernel
theorem dX12_unknowns_10 : decode cX12_unknowns 10 = .ok (.iload_n 2, 1) := by decide +kernel
theorem dX12_unknowns_11 : decode cX12_unknowns 11 = .ok (.aload_n 0, 1) := by decide +kernel
theorem dX12_unknowns_12 : decode cX12_unknowns 12 = .ok (.getfield 10, 3) := by decide +kernel
theorem dX12_unknowns_15 : decode cX12_unknowns 15 = .ok (.invokevirtual 125, 3) := by decide +kernel
theorem dX12_unknowns_18 : decode cX12_unknowns 18 = .ok (.if_icmp .ge 59, 3) := by decide +kernel
theorem dX12_unknowns_77 : decode cX12_unknowns 77 = .ok (.iload_n 1, 1) := by decide +kernel
theorem dX12_unknowns_78 : decode cX12_unknowns 78 = .ok (.ireturn, 1) := by decide +kernel
theorem dX12_reckons_22 : decode cX12_reckons 22 = .ok (.iconst 2, 1) := by decide +kernel
theorem dX12_reckons_23 : decode cX12_reckons 23 = .ok (.aload_n 0, 1) := by decide +kernel
theorem dX12_reckons_24 : decode cX12_reckons 24 = .ok (.getfield 10, 3) := by decide +kernel
theorem dX12_reckons_27 : decode cX12_reckons 27 = .ok (.invokevirtual 125, 3) := by decide +kernel
theorem dX12_reckons_30 : decode cX12_reckons 30 = .ok (.imul, 1) := by decide +kernel
theorem dX12_reckons_31 : decode cX12_reckons 31 = .ok (.isub, 1) := by decide +kernel
theorem dX12_reckons_32 : decode cX12_reckons 32 = .ok (.istore_n 1, 1) := by decide +kernel
theorem dX12_reckons_33 : decode cX12_reckons 33 = .ok (.aload_n 0, 1) := by decide +kernel
theorem dX12_reckons_34 : decode cX12_reckons 34 = .ok (.iload_n 1, 1) := by decide +kernel
theorem dX12_reckons_35 : decode cX12_reckons 35 = .ok (.ifCond .ge 8, 3) := by decide +kernel
theorem dX12_reckons_43 : decode cX12_reckons 43 = .ok (.iload_n 1, 1) := by decide +kernel
theorem dX12_reckons_44 : decode cX12_reckons 44 = .ok (.ifCond .le 8, 3) := by decide +kernel
theorem dX12_reckons_52 : decode cX12_reckons 52 = .ok (.bipush 46, 2) := by decide +kernel
theorem dX12_reckons_54 : decode cX12_reckons 54 = .ok (.putfield 157, 3) := by decide +kernel
theorem dX12_reckons_57 : decode cX12_reckons 57 = .ok (.aload_n 0, 1) := by decide +kernel
theorem dX12_reckons_58 : decode cX12_reckons 58 = .ok (.getfield 157, 3) := by decide +kernel
theorem dX12_reckons_61 : decode cX12_reckons 61 = .ok (.bipush 46, 2) := by decide +kernel
theorem dX12_reckons_63 : decode cX12_reckons 63 = .ok (.if_icmp .eq 4, 3) := by decide +kernel
theorem dX12_reckons_67 : decode cX12_reckons 67 = .ok (.aload_n 0, 1) := by decide +kernel
theorem dX12_reckons_68 : decode cX12_reckons 68 = .ok (.aload_n 0, 1) := by decide +kernel
theorem dX12_reckons_69 : decode cX12_reckons 69 = .ok (.iconst (-1), 1) := by decide +kernel
theorem dX12_reckons_70 : decode cX12_reckons 70 = .ok (.invokevirtual 160, 3) := by decide +kernel
theorem dX12_determinant_0 : decode cX12_determinant 0 = .ok (.aload_n 0, 1) := by decide +kernel
theorem dX12_determinant_1 : decode cX12_determinant 1 = .ok (.getfield 16, 3) := by decide +kernel
theorem dX12_determinant_4 : decode cX12_determinant 4 = .ok (.invokevirtual 125, 3) := by decide +kernel
theorem dX12_determinant_7 : decode cX12_determinant 7 = .ok (.istore_n 2, 1) := by decide +kernel
theorem dX12_determinant_8 : decode cX12_determinant 8 = .ok (.iconst 0, 1) := by decide +kernel
theorem dX12_determinant_9 : decode cX12_determinant 9 = .ok (.istore_n 3, 1) := by decide +kernel
theorem dX12_determinant_10 : decode cX12_determinant 10 = .ok (.iload_n 3, 1) := by decide +kernel
theorem dX12_determinant_11 : decode cX12_determinant 11 = .ok (.iconst 1, 1) := by decide +kernel
theorem dX12_determinant_12 : decode cX12_determinant 12 = .ok (.iload_n 2, 1) := by decide +kernel
theorem dX12_determinant_13 : decode cX12_determinant 13 = .ok (.ishl, 1) := by decide +kernel
theorem dX12_determinant_14 : decode cX12_determinant 14 = .ok (.if_icmp .ge 16, 3) := by decide +kernel
theorem dX12_determinant_17 : decode cX12_determinant 17 = .ok (.aload_n 0, 1) := by decide +kernel
theorem dX12_determinant_18 : decode cX12_determinant 18 = .ok (.getfield 25, 3) := by decide +kernel
theorem dX12_determinant_21 : decode cX12_determinant 21 = .ok (.iload_n 3, 1) := by decide +kernel
theorem dX12_determinant_22 : decode cX12_determinant 22 = .ok (.lconst 0, 1) := by decide +kernel
theorem dX12_determinant_23 : decode cX12_determinant 23 = .ok (.lastore, 1) := by decide +kernel
theorem dX12_determinant_24 : decode cX12_determinant 24 = .ok (.iinc 3 1, 3) := by decide +kernel
theorem dX12_determinant_27 : decode cX12_determinant 27 = .ok (.goto (-17), 3) := by decide +kernel
theorem dX12_determinant_30 : decode cX12_determinant 30 = .ok (.aload_n 0, 1) := by decide +kernel
theorem dX12_determinant_31 : decode cX12_determinant 31 = .ok (.getfield 25, 3) := by decide +kernel
theorem dX12_determinant_34 : decode cX12_determinant 34 = .ok (.iconst 0, 1) := by decide +kernel
theorem dX12_determinant_35 : decode cX12_determinant 35 = .ok (.lconst 1, 1) := by decide +kernel
theorem dX12_determinant_36 : decode cX12_determinant 36 = .ok (.lastore, 1) := by decide +kernel
theorem dX12_determinant_37 : decode cX12_determinant 37 = .ok (.iconst 0, 1) := by decide +kernel
theorem dX12_determinant_38 : decode cX12_determinant 38 = .ok (.istore_n 3, 1) := by decide +kernel
theorem dX12_determinant_39 : decode cX12_determinant 39 = .ok (.iconst 0, 1) := by decide +kernel
theorem dX12_determinant_40 : decode cX12_determinant 40 = .ok (.istore 4, 2) := by decide +kernel
theorem dX12_determinant_42 : decode cX12_determinant 42 = .ok (.iload 4, 2) := by decide +kernel
theorem dX12_determinant_44 : decode cX12_determinant 44 = .ok (.iconst 2, 1) := by decide +kernel
theorem dX12_determinant_45 : decode cX12_determinant 45 = .ok (.aload_n 0, 1) := by decide +kernel
theorem dX12_determinant_46 : decode cX12_determinant 46 = .ok (.getfield 10, 3) := by decide +kernel
theorem dX12_determinant_49 : decode cX12_determinant 49 = .ok (.invokevirtual 125, 3) := by decide +kernel
theorem dX12_determinant_52 : decode cX12_determinant 52 = .ok (.imul, 1) := by decide +kernel
theorem dX12_determinant_53 : decode cX12_determinant 53 = .ok (.if_icmp .ge 84, 3) := by decide +kernel
theorem dX12_determinant_137 : decode cX12_determinant 137 = .ok (.aload_n 0, 1) := by decide +kernel
theorem dX12_determinant_138 : decode cX12_determinant 138 = .ok (.getfield 25, 3) := by decide +kernel
theorem dX12_determinant_141 : decode cX12_determinant 141 = .ok (.iconst 1, 1) := by decide +kernel
theorem dX12_determinant_142 : decode cX12_determinant 142 = .ok (.iload_n 2, 1) := by decide +kernel
theorem dX12_determinant_143 : decode cX12_determinant 143 = .ok (.ishl, 1) := by decide +kernel
theorem dX12_determinant_144 : decode cX12_determinant 144 = .ok (.iconst 1, 1) := by decide +kernel
theorem dX12_determinant_145 : decode cX12_determinant 145 = .ok (.isub, 1) := by decide +kernel
theorem dX12_determinant_146 : decode cX12_determinant 146 = .ok (.laload, 1) := by decide +kernel
theorem dX12_determinant_147 : decode cX12_determinant 147 = .ok (.lreturn, 1) := by decide +kernel
theorem dX12_reckons_73 : decode cX12_reckons 73 = .ok (.putfield 163, 3) := by decide +kernel
theorem dX12_reckons_76 : decode cX12_reckons 76 = .ok (.aload_n 0, 1) := by decide +kernel
theorem dX12_reckons_77 : decode cX12_reckons 77 = .ok (.getfield 163, 3) := by decide +kernel
theorem dX12_reckons_80 : decode cX12_reckons 80 = .ok (.lconst 0, 1) := by decide +kernel
theorem dX12_reckons_81 : decode cX12_reckons 81 = .ok (.lcmp, 1) := by decide +kernel
theorem dX12_reckons_82 : decode cX12_reckons 82 = .ok (.ifCond .ne 9, 3) := by decide +kernel
theorem dX12_reckons_91 : decode cX12_reckons 91 = .ok (.iconst 0, 1) := by decide +kernel
theorem dX12_reckons_92 : decode cX12_reckons 92 = .ok (.istore_n 2, 1) := by decide +kernel
theorem dX12_reckons_93 : decode cX12_reckons 93 = .ok (.iload_n 2, 1) := by decide +kernel
theorem dX12_reckons_94 : decode cX12_reckons 94 = .ok (.aload_n 0, 1) := by decide +kernel
theorem dX12_reckons_95 : decode cX12_reckons 95 = .ok (.getfield 16, 3) := by decide +kernel
theorem dX12_reckons_98 : decode cX12_reckons 98 = .ok (.invokevirtual 125, 3) := by decide +kernel
theorem dX12_reckons_101 : decode cX12_reckons 101 = .ok (.if_icmp .ge 29, 3) := by decide +kernel
theorem dX12_reckons_130 : decode cX12_reckons 130 = .ok (.iconst 0, 1) := by decide +kernel
theorem dX12_reckons_131 : decode cX12_reckons 131 = .ok (.istore_n 2, 1) := by decide +kernel
theorem dX12_reckons_132 : decode cX12_reckons 132 = .ok (.iload_n 2, 1) := by decide +kernel
theorem dX12_reckons_133 : decode cX12_reckons 133 = .ok (.aload_n 0, 1) := by decide +kernel
theorem dX12_reckons_134 : decode cX12_reckons 134 = .ok (.getfield 16, 3) := by decide +kernel
theorem dX12_reckons_137 : decode cX12_reckons 137 = .ok (.invokevirtual 125, 3) := by decide +kernel
theorem dX12_reckons_140 : decode cX12_reckons 140 = .ok (.if_icmp .ge 31, 3) := by decide +kernel
theorem dX12_reckons_171 : decode cX12_reckons 171 = .ok (.aload_n 0, 1) := by decide +kernel
theorem dX12_reckons_172 : decode cX12_reckons 172 = .ok (.aload_n 0, 1) := by decide +kernel
theorem dX12_reckons_173 : decode cX12_reckons 173 = .ok (.getfield 163, 3) := by decide +kernel
theorem dX12_reckons_176 : decode cX12_reckons 176 = .ok (.lconst 0, 1) := by decide +kernel
theorem dX12_reckons_177 : decode cX12_reckons 177 = .ok (.lcmp, 1) := by decide +kernel
theorem dX12_reckons_178 : decode cX12_reckons 178 = .ok (.ifCond .ge 11, 3) := by decide +kernel
theorem dX12_reckons_189 : decode cX12_reckons 189 = .ok (.aload_n 0, 1) := by decide +kernel
theorem dX12_reckons_190 : decode cX12_reckons 190 = .ok (.getfield 163, 3) := by decide +kernel
theorem dX12_reckons_193 : decode cX12_reckons 193 = .ok (.putfield 163, 3) := by decide +kernel
theorem dX12_reckons_196 : decode cX12_reckons 196 = .ok (.return_, 1) := by decide +kernel
theorem dX12_state_4 : decode cX12_state 4 = .ok (.aload_n 0, 1) := by decide +kernel
theorem dX12_state_5 : decode cX12_state 5 = .ok (.iconst 0, 1) := by decide +kernel
theorem dX12_state_6 : decode cX12_state 6 = .ok (.putfield 74, 3) := by decide +kernel
theorem dX12_state_9 : decode cX12_state 9 = .ok (.aload_n 0, 1) := by decide +kernel
theorem dX12_state_10 : decode cX12_state 10 = .ok (.getfield 157, 3) := by decide +kernel
theorem dX12_state_13 : decode cX12_state 13 = .ok (.ireturn, 1) := by decide +kernel
theorem dL_law_454 : decode cL_law 454 = .ok (.if_icmp .eq 1509, 3) := by decide +kernel
theorem dL_law_459 : decode cL_law 459 = .ok (.aload_n 1, 1) := by decide +kernel
theorem dL_law_460 : decode cL_law 460 = .ok (.aload_n 0, 1) := by decide +kernel
theorem dL_law_461 : decode cL_law 461 = .ok (.iload 5, 2) := by decide +kernel
theorem dL_law_463 : decode cL_law 463 = .ok (.iconst 1, 1) := by decide +kernel
theorem dL_law_464 : decode cL_law 464 = .ok (.iadd, 1) := by decide +kernel
theorem dL_law_465 : decode cL_law 465 = .ok (.iaload, 1) := by decide +kernel
theorem dL_law_466 : decode cL_law 466 = .ok (.aload_n 3, 1) := by decide +kernel
theorem dL_law_467 : decode cL_law 467 = .ok (.invokestatic 141, 3) := by decide +kernel
theorem dL_force_0 : decode cL_force 0 = .ok (.aload_n 2, 1) := by decide +kernel
theorem dL_force_1 : decode cL_force 1 = .ok (.iconst 0, 1) := by decide +kernel
theorem dL_force_2 : decode cL_force 2 = .ok (.aload_n 0, 1) := by decide +kernel
theorem dL_force_3 : decode cL_force 3 = .ok (.iload_n 1, 1) := by decide +kernel
theorem dL_force_4 : decode cL_force 4 = .ok (.invokevirtual 27, 3) := by decide +kernel
theorem dX6_force_0 : decode cX6_force 0 = .ok (.aload_n 0, 1) := by decide +kernel
theorem dX6_force_1 : decode cX6_force 1 = .ok (.iload_n 1, 1) := by decide +kernel
theorem dX6_force_2 : decode cX6_force 2 = .ok (.invokevirtual 118, 3) := by decide +kernel
theorem dX6_checkMember_0 : decode cX6_checkMember 0 = .ok (.iload_n 1, 1) := by decide +kernel
theorem dX6_checkMember_1 : decode cX6_checkMember 1 = .ok (.ifCond .lt 14, 3) := by decide +kernel
theorem dX6_checkMember_15 : decode cX6_checkMember 15 = .ok (.new 228, 3) := by decide +kernel
theorem dX6_checkMember_18 : decode cX6_checkMember 18 = .ok (.dup, 1) := by decide +kernel
theorem dX6_checkMember_19 : decode cX6_checkMember 19 = .ok (.ldc_w 282, 3) := by decide +kernel
theorem dX6_checkMember_22 : decode cX6_checkMember 22 = .ok (.invokespecial 232, 3) := by decide +kernel
theorem dX6_checkMember_25 : decode cX6_checkMember 25 = .ok (.athrow, 1) := by decide +kernel
theorem dL_force_11 : decode cL_force 11 = .ok (.astore_n 3, 1) := by decide +kernel
theorem dL_force_12 : decode cL_force 12 = .ok (.iconst 1, 1) := by decide +kernel
theorem dL_force_13 : decode cL_force 13 = .ok (.ireturn, 1) := by decide +kernel
theorem dL_law_470 : decode cL_law 470 = .ok (.istore 6, 2) := by decide +kernel
theorem dL_law_472 : decode cL_law 472 = .ok (.aload_n 2, 1) := by decide +kernel
theorem dL_law_473 : decode cL_law 473 = .ok (.aload_n 0, 1) := by decide +kernel
theorem dL_law_474 : decode cL_law 474 = .ok (.iload 5, 2) := by decide +kernel
theorem dL_law_476 : decode cL_law 476 = .ok (.iconst 1, 1) := by decide +kernel
theorem dL_law_477 : decode cL_law 477 = .ok (.iadd, 1) := by decide +kernel
theorem dL_law_478 : decode cL_law 478 = .ok (.iaload, 1) := by decide +kernel
theorem dL_law_479 : decode cL_law 479 = .ok (.invokevirtual 144, 3) := by decide +kernel
theorem dX12_force_0 : decode cX12_force 0 = .ok (.aload_n 0, 1) := by decide +kernel
theorem dX12_force_1 : decode cX12_force 1 = .ok (.iload_n 1, 1) := by decide +kernel
theorem dX12_force_2 : decode cX12_force 2 = .ok (.invokevirtual 314, 3) := by decide +kernel
theorem dX12_isMember_0 : decode cX12_isMember 0 = .ok (.iload_n 1, 1) := by decide +kernel
theorem dX12_isMember_1 : decode cX12_isMember 1 = .ok (.i2l, 1) := by decide +kernel
theorem dX12_isMember_2 : decode cX12_isMember 2 = .ok (.iconst 0, 1) := by decide +kernel
theorem dX12_isMember_3 : decode cX12_isMember 3 = .ok (.aload_n 0, 1) := by decide +kernel
theorem dX12_isMember_4 : decode cX12_isMember 4 = .ok (.getfield 16, 3) := by decide +kernel
theorem dX12_isMember_7 : decode cX12_isMember 7 = .ok (.invokevirtual 125, 3) := by decide +kernel
theorem dX12_isMember_10 : decode cX12_isMember 10 = .ok (.iconst 1, 1) := by decide +kernel
theorem dX12_isMember_11 : decode cX12_isMember 11 = .ok (.isub, 1) := by decide +kernel
theorem dX12_isMember_12 : decode cX12_isMember 12 = .ok (.invokestatic 285, 3) := by decide +kernel
theorem dX12_isMember_15 : decode cX12_isMember 15 = .ok (.ireturn, 1) := by decide +kernel
theorem dX12_force_5 : decode cX12_force 5 = .ok (.ifCond .ne 9, 3) := by decide +kernel
theorem dX12_force_8 : decode cX12_force 8 = .ok (.aload_n 0, 1) := by decide +kernel
theorem dX12_force_9 : decode cX12_force 9 = .ok (.iconst 1, 1) := by decide +kernel
theorem dX12_force_10 : decode cX12_force 10 = .ok (.invokevirtual 317, 3) := by decide +kernel
theorem dX12_failsLong_0 : decode cX12_failsLong 0 = .ok (.aload_n 0, 1) := by decide +kernel
theorem dX12_failsLong_1 : decode cX12_failsLong 1 = .ok (.iload_n 1, 1) := by decide +kernel
theorem dX12_failsLong_2 : decode cX12_failsLong 2 = .ok (.putfield 74, 3) := by decide +kernel
theorem dX12_failsLong_5 : decode cX12_failsLong 5 = .ok (.lconst 0, 1) := by decide +kernel
theorem dX12_failsLong_6 : decode cX12_failsLong 6 = .ok (.lreturn, 1) := by decide +kernel
theorem dX12_force_13 : decode cX12_force 13 = .ok (.lreturn, 1) := by decide +kernel
theorem dL_law_482 : decode cL_law 482 = .ok (.lstore 7, 2) := by decide +kernel
theorem dL_law_484 : decode cL_law 484 = .ok (.aload_n 2, 1) := by decide +kernel
theorem dL_law_485 : decode cL_law 485 = .ok (.invokevirtual 125, 3) := by decide +kernel
theorem dL_law_488 : decode cL_law 488 = .ok (.iload 6, 2) := by decide +kernel
theorem dL_law_490 : decode cL_law 490 = .ok (.if_icmp .eq 5, 3) := by decide +kernel
theorem dL_law_495 : decode cL_law 495 = .ok (.iload 6, 2) := by decide +kernel
theorem dL_law_497 : decode cL_law 497 = .ok (.ifCond .ne 14, 3) := by decide +kernel
theorem dL_law_511 : decode cL_law 511 = .ok (.goto 1452, 3) := by decide +kernel
theorem dX6_checkMember_4 : decode cX6_checkMember 4 = .ok (.iload_n 1, 1) := by decide +kernel
theorem dX6_checkMember_5 : decode cX6_checkMember 5 = .ok (.aload_n 0, 1) := by decide +kernel
theorem dX6_checkMember_6 : decode cX6_checkMember 6 = .ok (.getfield 12, 3) := by decide +kernel
theorem dX6_checkMember_9 : decode cX6_checkMember 9 = .ok (.getfield 93, 3) := by decide +kernel
theorem dX6_checkMember_12 : decode cX6_checkMember 12 = .ok (.if_icmp .lt 14, 3) := by decide +kernel
theorem dL_law_514 : decode cL_law 514 = .ok (.aload_n 1, 1) := by decide +kernel
theorem dL_law_515 : decode cL_law 515 = .ok (.aload_n 0, 1) := by decide +kernel
theorem dL_law_516 : decode cL_law 516 = .ok (.iload 5, 2) := by decide +kernel
theorem dL_law_518 : decode cL_law 518 = .ok (.iconst 1, 1) := by decide +kernel
theorem dL_law_519 : decode cL_law 519 = .ok (.iadd, 1) := by decide +kernel
theorem dL_law_520 : decode cL_law 520 = .ok (.iaload, 1) := by decide +kernel
theorem dL_law_521 : decode cL_law 521 = .ok (.aload_n 3, 1) := by decide +kernel
theorem dL_law_522 : decode cL_law 522 = .ok (.invokestatic 145, 3) := by decide +kernel
theorem dL_pull_0 : decode cL_pull 0 = .ok (.aload_n 2, 1) := by decide +kernel
theorem dL_pull_1 : decode cL_pull 1 = .ok (.iconst 0, 1) := by decide +kernel
theorem dL_pull_2 : decode cL_pull 2 = .ok (.aload_n 0, 1) := by decide +kernel
theorem dL_pull_3 : decode cL_pull 3 = .ok (.iload_n 1, 1) := by decide +kernel
theorem dL_pull_4 : decode cL_pull 4 = .ok (.invokevirtual 31, 3) := by decide +kernel
theorem dX6_pull_0 : decode cX6_pull 0 = .ok (.aload_n 0, 1) := by decide +kernel
theorem dX6_pull_1 : decode cX6_pull 1 = .ok (.iload_n 1, 1) := by decide +kernel
theorem dX6_pull_2 : decode cX6_pull 2 = .ok (.invokevirtual 118, 3) := by decide +kernel
theorem dL_pull_11 : decode cL_pull 11 = .ok (.astore_n 3, 1) := by decide +kernel
theorem dL_pull_12 : decode cL_pull 12 = .ok (.iconst 1, 1) := by decide +kernel
theorem dL_pull_13 : decode cL_pull 13 = .ok (.ireturn, 1) := by decide +kernel
theorem dL_law_525 : decode cL_law 525 = .ok (.istore 6, 2) := by decide +kernel
theorem dL_law_527 : decode cL_law 527 = .ok (.aload_n 2, 1) := by decide +kernel
theorem dL_law_528 : decode cL_law 528 = .ok (.aload_n 0, 1) := by decide +kernel
theorem dL_law_529 : decode cL_law 529 = .ok (.iload 5, 2) := by decide +kernel
theorem dL_law_531 : decode cL_law 531 = .ok (.iconst 1, 1) := by decide +kernel
theorem dL_law_532 : decode cL_law 532 = .ok (.iadd, 1) := by decide +kernel
theorem dL_law_533 : decode cL_law 533 = .ok (.iaload, 1) := by decide +kernel
theorem dL_law_534 : decode cL_law 534 = .ok (.invokevirtual 147, 3) := by decide +kernel
theorem dX12_pull_0 : decode cX12_pull 0 = .ok (.aload_n 0, 1) := by decide +kernel
theorem dX12_pull_1 : decode cX12_pull 1 = .ok (.iload_n 1, 1) := by decide +kernel
theorem dX12_pull_2 : decode cX12_pull 2 = .ok (.invokevirtual 314, 3) := by decide +kernel
theorem dX12_pull_5 : decode cX12_pull 5 = .ok (.ifCond .ne 9, 3) := by decide +kernel
theorem dX12_pull_8 : decode cX12_pull 8 = .ok (.aload_n 0, 1) := by decide +kernel
theorem dX12_pull_9 : decode cX12_pull 9 = .ok (.iconst 1, 1) := by decide +kernel
theorem dX12_pull_10 : decode cX12_pull 10 = .ok (.invokevirtual 317, 3) := by decide +kernel
theorem dX12_pull_13 : decode cX12_pull 13 = .ok (.lreturn, 1) := by decide +kernel
theorem dL_law_537 : decode cL_law 537 = .ok (.lstore 7, 2) := by decide +kernel
theorem dL_law_539 : decode cL_law 539 = .ok (.aload_n 2, 1) := by decide +kernel
theorem dL_law_540 : decode cL_law 540 = .ok (.invokevirtual 125, 3) := by decide +kernel
theorem dL_law_543 : decode cL_law 543 = .ok (.iload 6, 2) := by decide +kernel
theorem dL_law_545 : decode cL_law 545 = .ok (.if_icmp .eq 5, 3) := by decide +kernel
theorem dL_law_550 : decode cL_law 550 = .ok (.iload 6, 2) := by decide +kernel
theorem dL_law_552 : decode cL_law 552 = .ok (.ifCond .ne 14, 3) := by decide +kernel
theorem dL_law_566 : decode cL_law 566 = .ok (.goto 1397, 3) := by decide +kernel
theorem dL_law_569 : decode cL_law 569 = .ok (.aload_n 1, 1) := by decide +kernel
theorem dL_law_570 : decode cL_law 570 = .ok (.aload_n 0, 1) := by decide +kernel
theorem dL_law_571 : decode cL_law 571 = .ok (.iload 5, 2) := by decide +kernel
theorem dL_law_573 : decode cL_law 573 = .ok (.iconst 1, 1) := by decide +kernel
theorem dL_law_574 : decode cL_law 574 = .ok (.iadd, 1) := by decide +kernel
theorem dL_law_575 : decode cL_law 575 = .ok (.iaload, 1) := by decide +kernel
theorem dL_law_576 : decode cL_law 576 = .ok (.aload_n 0, 1) := by decide +kernel
theorem dL_law_577 : decode cL_law 577 = .ok (.iload 5, 2) := by decide +kernel
theorem dL_law_579 : decode cL_law 579 = .ok (.iconst 2, 1) := by decide +kernel
theorem dL_law_580 : decode cL_law 580 = .ok (.iadd, 1) := by decide +kernel
theorem dL_law_581 : decode cL_law 581 = .ok (.iaload, 1) := by decide +kernel
theorem dL_law_582 : decode cL_law 582 = .ok (.ifCond .eq 7, 3) := by decide +kernel
theorem dL_law_589 : decode cL_law 589 = .ok (.iconst 0, 1) := by decide +kernel
theorem dL_law_590 : decode cL_law 590 = .ok (.aload_n 3, 1) := by decide +kernel
theorem dL_law_591 : decode cL_law 591 = .ok (.invokestatic 148, 3) := by decide +kernel
theorem dL_bearing_0 : decode cL_bearing 0 = .ok (.aload_n 3, 1) := by decide +kernel
theorem dL_bearing_1 : decode cL_bearing 1 = .ok (.iconst 0, 1) := by decide +kernel
theorem dL_bearing_2 : decode cL_bearing 2 = .ok (.aload_n 0, 1) := by decide +kernel
theorem dL_bearing_3 : decode cL_bearing 3 = .ok (.iload_n 1, 1) := by decide +kernel
theorem dL_bearing_4 : decode cL_bearing 4 = .ok (.iload_n 2, 1) := by decide +kernel
theorem dL_bearing_5 : decode cL_bearing 5 = .ok (.invokevirtual 34, 3) := by decide +kernel
theorem dX6_bearing_0 : decode cX6_bearing 0 = .ok (.aload_n 0, 1) := by decide +kernel
theorem dX6_bearing_1 : decode cX6_bearing 1 = .ok (.iload_n 1, 1) := by decide +kernel
theorem dX6_bearing_2 : decode cX6_bearing 2 = .ok (.invokevirtual 80, 3) := by decide +kernel
theorem dL_bearing_12 : decode cL_bearing 12 = .ok (.astore 4, 2) := by decide +kernel
theorem dL_bearing_14 : decode cL_bearing 14 = .ok (.iconst 1, 1) := by decide +kernel
theorem dL_bearing_15 : decode cL_bearing 15 = .ok (.ireturn, 1) := by decide +kernel
theorem dL_law_594 : decode cL_law 594 = .ok (.istore 6, 2) := by decide +kernel
theorem dL_law_596 : decode cL_law 596 = .ok (.aload_n 2, 1) := by decide +kernel
theorem dL_law_597 : decode cL_law 597 = .ok (.aload_n 0, 1) := by decide +kernel
theorem dL_law_598 : decode cL_law 598 = .ok (.iload 5, 2) := by decide +kernel
theorem dL_law_600 : decode cL_law 600 = .ok (.iconst 1, 1) := by decide +kernel
theorem dL_law_601 : decode cL_law 601 = .ok (.iadd, 1) := by decide +kernel
theorem dL_law_602 : decode cL_law 602 = .ok (.iaload, 1) := by decide +kernel
theorem dL_law_603 : decode cL_law 603 = .ok (.aload_n 0, 1) := by decide +kernel
theorem dL_law_604 : decode cL_law 604 = .ok (.iload 5, 2) := by decide +kernel
theorem dL_law_606 : decode cL_law 606 = .ok (.iconst 2, 1) := by decide +kernel
theorem dL_law_607 : decode cL_law 607 = .ok (.iadd, 1) := by decide +kernel
theorem dL_law_608 : decode cL_law 608 = .ok (.iaload, 1) := by decide +kernel
theorem dL_law_609 : decode cL_law 609 = .ok (.ifCond .eq 7, 3) := by decide +kernel
theorem dL_law_616 : decode cL_law 616 = .ok (.iconst 0, 1) := by decide +kernel
theorem dL_law_617 : decode cL_law 617 = .ok (.invokevirtual 151, 3) := by decide +kernel
theorem dX12_bearing_0 : decode cX12_bearing 0 = .ok (.aload_n 0, 1) := by decide +kernel
theorem dX12_bearing_1 : decode cX12_bearing 1 = .ok (.iload_n 1, 1) := by decide +kernel
theorem dX12_bearing_2 : decode cX12_bearing 2 = .ok (.invokevirtual 305, 3) := by decide +kernel
theorem dX12_bearing_5 : decode cX12_bearing 5 = .ok (.ifCond .ne 9, 3) := by decide +kernel
theorem dX12_bearing_8 : decode cX12_bearing 8 = .ok (.aload_n 0, 1) := by decide +kernel
theorem dX12_bearing_9 : decode cX12_bearing 9 = .ok (.iconst 1, 1) := by decide +kernel
theorem dX12_bearing_10 : decode cX12_bearing 10 = .ok (.invokevirtual 317, 3) := by decide +kernel
theorem dX12_bearing_13 : decode cX12_bearing 13 = .ok (.lreturn, 1) := by decide +kernel
theorem dL_law_620 : decode cL_law 620 = .ok (.lstore 7, 2) := by decide +kernel
theorem dL_law_622 : decode cL_law 622 = .ok (.aload_n 2, 1) := by decide +kernel
theorem dL_law_623 : decode cL_law 623 = .ok (.invokevirtual 125, 3) := by decide +kernel
theorem dL_law_626 : decode cL_law 626 = .ok (.iload 6, 2) := by decide +kernel
theorem dL_law_628 : decode cL_law 628 = .ok (.if_icmp .eq 5, 3) := by decide +kernel
theorem dL_law_633 : decode cL_law 633 = .ok (.iload 6, 2) := by decide +kernel
theorem dL_law_635 : decode cL_law 635 = .ok (.ifCond .ne 14, 3) := by decide +kernel
theorem dL_law_649 : decode cL_law 649 = .ok (.goto 1314, 3) := by decide +kernel
theorem dL_law_585 : decode cL_law 585 = .ok (.iconst 1, 1) := by decide +kernel
theorem dL_law_586 : decode cL_law 586 = .ok (.goto 4, 3) := by decide +kernel
theorem dL_law_612 : decode cL_law 612 = .ok (.iconst 1, 1) := by decide +kernel
theorem dL_law_613 : decode cL_law 613 = .ok (.goto 4, 3) := by decide +kernel
theorem dL_law_652 : decode cL_law 652 = .ok (.aload_n 1, 1) := by decide +kernel
theorem dL_law_653 : decode cL_law 653 = .ok (.aload_n 0, 1) := by decide +kernel
theorem dL_law_654 : decode cL_law 654 = .ok (.iload 5, 2) := by decide +kernel
theorem dL_law_656 : decode cL_law 656 = .ok (.iconst 1, 1) := by decide +kernel
theorem dL_law_657 : decode cL_law 657 = .ok (.iadd, 1) := by decide +kernel
theorem dL_law_658 : decode cL_law 658 = .ok (.iaload, 1) := by decide +kernel
theorem dL_law_659 : decode cL_law 659 = .ok (.aload_n 3, 1) := by decide +kernel
theorem dL_law_660 : decode cL_law 660 = .ok (.invokestatic 152, 3) := by decide +kernel
theorem dL_isBalanced_0 : decode cL_isBalanced 0 = .ok (.aload_n 2, 1) := by decide +kernel
theorem dL_isBalanced_1 : decode cL_isBalanced 1 = .ok (.iconst 0, 1) := by decide +kernel
theorem dL_isBalanced_2 : decode cL_isBalanced 2 = .ok (.aload_n 0, 1) := by decide +kernel
theorem dL_isBalanced_3 : decode cL_isBalanced 3 = .ok (.iload_n 1, 1) := by decide +kernel
theorem dL_isBalanced_4 : decode cL_isBalanced 4 = .ok (.invokevirtual 38, 3) := by decide +kernel
theorem dX6_isBalanced_0 : decode cX6_isBalanced 0 = .ok (.iload_n 1, 1) := by decide +kernel
theorem dX6_isBalanced_1 : decode cX6_isBalanced 1 = .ok (.iconst 0, 1) := by decide +kernel
theorem dX6_isBalanced_2 : decode cX6_isBalanced 2 = .ok (.bipush 30, 2) := by decide +kernel
theorem dX6_isBalanced_4 : decode cX6_isBalanced 4 = .ok (.invokestatic 44, 3) := by decide +kernel
theorem dX6_isBalanced_7 : decode cX6_isBalanced 7 = .ok (.ifCond .ne 13, 3) := by decide +kernel
theorem dX6_isBalanced_10 : decode cX6_isBalanced 10 = .ok (.new 56, 3) := by decide +kernel
theorem dX6_isBalanced_13 : decode cX6_isBalanced 13 = .ok (.dup, 1) := by decide +kernel
theorem dX6_isBalanced_14 : decode cX6_isBalanced 14 = .ok (.ldc 136, 2) := by decide +kernel
theorem dX6_isBalanced_16 : decode cX6_isBalanced 16 = .ok (.invokespecial 60, 3) := by decide +kernel
theorem dX6_isBalanced_19 : decode cX6_isBalanced 19 = .ok (.athrow, 1) := by decide +kernel
theorem dL_isBalanced_19 : decode cL_isBalanced 19 = .ok (.astore_n 3, 1) := by decide +kernel
theorem dL_isBalanced_20 : decode cL_isBalanced 20 = .ok (.iconst 1, 1) := by decide +kernel
theorem dL_isBalanced_21 : decode cL_isBalanced 21 = .ok (.ireturn, 1) := by decide +kernel
theorem dL_law_663 : decode cL_law 663 = .ok (.istore 6, 2) := by decide +kernel
theorem dL_law_665 : decode cL_law 665 = .ok (.aload_n 2, 1) := by decide +kernel
theorem dL_law_666 : decode cL_law 666 = .ok (.aload_n 0, 1) := by decide +kernel
theorem dL_law_667 : decode cL_law 667 = .ok (.iload 5, 2) := by decide +kernel
theorem dL_law_669 : decode cL_law 669 = .ok (.iconst 1, 1) := by decide +kernel
theorem dL_law_670 : decode cL_law 670 = .ok (.iadd, 1) := by decide +kernel
theorem dL_law_671 : decode cL_law 671 = .ok (.iaload, 1) := by decide +kernel
theorem dL_law_672 : decode cL_law 672 = .ok (.invokevirtual 154, 3) := by decide +kernel
theorem dX12_isBalanced_0 : decode cX12_isBalanced 0 = .ok (.iload_n 1, 1) := by decide +kernel
theorem dX12_isBalanced_1 : decode cX12_isBalanced 1 = .ok (.i2l, 1) := by decide +kernel
theorem dX12_isBalanced_2 : decode cX12_isBalanced 2 = .ok (.iconst 0, 1) := by decide +kernel
theorem dX12_isBalanced_3 : decode cX12_isBalanced 3 = .ok (.bipush 30, 2) := by decide +kernel
theorem dX12_isBalanced_5 : decode cX12_isBalanced 5 = .ok (.invokestatic 285, 3) := by decide +kernel
theorem dX12_isBalanced_8 : decode cX12_isBalanced 8 = .ok (.ifCond .ne 9, 3) := by decide +kernel
theorem dX12_isBalanced_11 : decode cX12_isBalanced 11 = .ok (.aload_n 0, 1) := by decide +kernel
theorem dX12_isBalanced_12 : decode cX12_isBalanced 12 = .ok (.iconst 1, 1) := by decide +kernel
theorem dX12_isBalanced_13 : decode cX12_isBalanced 13 = .ok (.invokevirtual 336, 3) := by decide +kernel
theorem dX12_refuses_0 : decode cX12_refuses 0 = .ok (.aload_n 0, 1) := by decide +kernel
theorem dX12_refuses_1 : decode cX12_refuses 1 = .ok (.iload_n 1, 1) := by decide +kernel
theorem dX12_refuses_2 : decode cX12_refuses 2 = .ok (.putfield 74, 3) := by decide +kernel
theorem dX12_refuses_5 : decode cX12_refuses 5 = .ok (.iconst 0, 1) := by decide +kernel
theorem dX12_refuses_6 : decode cX12_refuses 6 = .ok (.ireturn, 1) := by decide +kernel
theorem dX12_isBalanced_16 : decode cX12_isBalanced 16 = .ok (.ireturn, 1) := by decide +kernel
theorem dL_law_675 : decode cL_law 675 = .ok (.istore 7, 2) := by decide +kernel
theorem dL_law_677 : decode cL_law 677 = .ok (.aload_n 2, 1) := by decide +kernel
theorem dL_law_678 : decode cL_law 678 = .ok (.invokevirtual 125, 3) := by decide +kernel
theorem dL_law_681 : decode cL_law 681 = .ok (.iload 6, 2) := by decide +kernel
theorem dL_law_683 : decode cL_law 683 = .ok (.if_icmp .eq 5, 3) := by decide +kernel
theorem dL_law_688 : decode cL_law 688 = .ok (.iload 6, 2) := by decide +kernel
theorem dL_law_690 : decode cL_law 690 = .ok (.ifCond .ne 22, 3) := by decide +kernel
theorem dL_law_712 : decode cL_law 712 = .ok (.goto 1251, 3) := by decide +kernel
theorem dX6_isBalanced_20 : decode cX6_isBalanced 20 = .ok (.aload_n 0, 1) := by decide +kernel
theorem dX6_isBalanced_21 : decode cX6_isBalanced 21 = .ok (.invokevirtual 121, 3) := by decide +kernel
theorem dX6_checkStanding_0 : decode cX6_checkStanding 0 = .ok (.aload_n 0, 1) := by decide +kernel
theorem dX6_checkStanding_1 : decode cX6_checkStanding 1 = .ok (.getfield 19, 3) := by decide +kernel
theorem dX6_checkStanding_4 : decode cX6_checkStanding 4 = .ok (.aload_n 0, 1) := by decide +kernel
theorem dX6_checkStanding_5 : decode cX6_checkStanding 5 = .ok (.getfield 12, 3) := by decide +kernel
theorem dX6_checkStanding_8 : decode cX6_checkStanding 8 = .ok (.invokevirtual 110, 3) := by decide +kernel
theorem dX6_checkStanding_11 : decode cX6_checkStanding 11 = .ok (.aload_n 0, 1) := by decide +kernel
theorem dX6_checkStanding_12 : decode cX6_checkStanding 12 = .ok (.getfield 19, 3) := by decide +kernel
theorem dX6_checkStanding_15 : decode cX6_checkStanding 15 = .ok (.getfield 114, 3) := by decide +kernel
theorem dX6_checkStanding_18 : decode cX6_checkStanding 18 = .ok (.bipush 46, 2) := by decide +kernel
theorem dX6_checkStanding_20 : decode cX6_checkStanding 20 = .ok (.if_icmp .eq 14, 3) := by decide +kernel
theorem dX6_checkStanding_34 : decode cX6_checkStanding 34 = .ok (.return_, 1) := by decide +kernel
theorem dX6_isBalanced_24 : decode cX6_isBalanced 24 = .ok (.aload_n 0, 1) := by decide +kernel
theorem dX6_isBalanced_25 : decode cX6_isBalanced 25 = .ok (.getfield 19, 3) := by decide +kernel
theorem dX6_isBalanced_28 : decode cX6_isBalanced 28 = .ok (.aload_n 0, 1) := by decide +kernel
theorem dX6_isBalanced_29 : decode cX6_isBalanced 29 = .ok (.getfield 12, 3) := by decide +kernel
theorem dX6_isBalanced_32 : decode cX6_isBalanced 32 = .ok (.iload_n 1, 1) := by decide +kernel
theorem dX6_isBalanced_33 : decode cX6_isBalanced 33 = .ok (.invokevirtual 138, 3) := by decide +kernel
theorem dX1_holdsAt_0 : decode cX1_holdsAt 0 = .ok (.aload_n 0, 1) := by decide +kernel
theorem dX1_holdsAt_1 : decode cX1_holdsAt 1 = .ok (.aload_n 1, 1) := by decide +kernel
theorem dX1_holdsAt_2 : decode cX1_holdsAt 2 = .ok (.iload_n 2, 1) := by decide +kernel
theorem dX1_holdsAt_3 : decode cX1_holdsAt 3 = .ok (.iconst 0, 1) := by decide +kernel
theorem dX1_holdsAt_4 : decode cX1_holdsAt 4 = .ok (.invokevirtual 185, 3) := by decide +kernel
theorem dX1_holdsAlong_0 : decode cX1_holdsAlong 0 = .ok (.lconst 0, 1) := by decide +kernel
theorem dX1_holdsAlong_1 : decode cX1_holdsAlong 1 = .ok (.lstore 4, 2) := by decide +kernel
theorem dX1_holdsAlong_3 : decode cX1_holdsAlong 3 = .ok (.lconst 0, 1) := by decide +kernel
theorem dX1_holdsAlong_4 : decode cX1_holdsAlong 4 = .ok (.lstore 6, 2) := by decide +kernel
theorem dX1_holdsAlong_6 : decode cX1_holdsAlong 6 = .ok (.iconst 0, 1) := by decide +kernel
theorem dX1_holdsAlong_7 : decode cX1_holdsAlong 7 = .ok (.istore 8, 2) := by decide +kernel
theorem dX1_holdsAlong_9 : decode cX1_holdsAlong 9 = .ok (.iload 8, 2) := by decide +kernel
theorem dX1_holdsAlong_11 : decode cX1_holdsAlong 11 = .ok (.aload_n 1, 1) := by decide +kernel
theorem dX1_holdsAlong_12 : decode cX1_holdsAlong 12 = .ok (.getfield 78, 3) := by decide +kernel
theorem dX1_holdsAlong_15 : decode cX1_holdsAlong 15 = .ok (.if_icmp .ge 165, 3) := by decide +kernel
theorem dX1_holdsAlong_180 : decode cX1_holdsAlong 180 = .ok (.aload_n 0, 1) := by decide +kernel
theorem dX1_holdsAlong_181 : decode cX1_holdsAlong 181 = .ok (.getfield 104, 3) := by decide +kernel
theorem dX1_holdsAlong_184 : decode cX1_holdsAlong 184 = .ok (.lconst 0, 1) := by decide +kernel
theorem dX1_holdsAlong_185 : decode cX1_holdsAlong 185 = .ok (.lcmp, 1) := by decide +kernel
theorem dX1_holdsAlong_186 : decode cX1_holdsAlong 186 = .ok (.ifCond .le 34, 3) := by decide +kernel
theorem dX1_holdsAlong_189 : decode cX1_holdsAlong 189 = .ok (.lload 6, 2) := by decide +kernel
theorem dX1_holdsAlong_191 : decode cX1_holdsAlong 191 = .ok (.aload_n 0, 1) := by decide +kernel
theorem dX1_holdsAlong_192 : decode cX1_holdsAlong 192 = .ok (.getfield 104, 3) := by decide +kernel
theorem dX1_holdsAlong_195 : decode cX1_holdsAlong 195 = .ok (.lrem, 1) := by decide +kernel
theorem dX1_holdsAlong_196 : decode cX1_holdsAlong 196 = .ok (.lconst 0, 1) := by decide +kernel
theorem dX1_holdsAlong_197 : decode cX1_holdsAlong 197 = .ok (.lcmp, 1) := by decide +kernel
theorem dX1_holdsAlong_198 : decode cX1_holdsAlong 198 = .ok (.ifCond .ne 22, 3) := by decide +kernel
theorem dX1_holdsAlong_201 : decode cX1_holdsAlong 201 = .ok (.lload 4, 2) := by decide +kernel
theorem dX1_holdsAlong_203 : decode cX1_holdsAlong 203 = .ok (.lload 6, 2) := by decide +kernel
theorem dX1_holdsAlong_205 : decode cX1_holdsAlong 205 = .ok (.aload_n 0, 1) := by decide +kernel
theorem dX1_holdsAlong_206 : decode cX1_holdsAlong 206 = .ok (.getfield 104, 3) := by decide +kernel
theorem dX1_holdsAlong_209 : decode cX1_holdsAlong 209 = .ok (.ldiv, 1) := by decide +kernel
theorem dX1_holdsAlong_210 : decode cX1_holdsAlong 210 = .ok (.ladd, 1) := by decide +kernel
theorem dX1_holdsAlong_211 : decode cX1_holdsAlong 211 = .ok (.lconst 0, 1) := by decide +kernel
theorem dX1_holdsAlong_212 : decode cX1_holdsAlong 212 = .ok (.lcmp, 1) := by decide +kernel
theorem dX1_holdsAlong_213 : decode cX1_holdsAlong 213 = .ok (.ifCond .ne 7, 3) := by decide +kernel
theorem dX1_holdsAlong_216 : decode cX1_holdsAlong 216 = .ok (.iconst 1, 1) := by decide +kernel
theorem dX1_holdsAlong_217 : decode cX1_holdsAlong 217 = .ok (.goto 4, 3) := by decide +kernel
theorem dX1_holdsAlong_221 : decode cX1_holdsAlong 221 = .ok (.ireturn, 1) := by decide +kernel
theorem dX1_holdsAt_7 : decode cX1_holdsAt 7 = .ok (.ifCond .eq 17, 3) := by decide +kernel
theorem dX1_holdsAt_10 : decode cX1_holdsAt 10 = .ok (.aload_n 0, 1) := by decide +kernel
theorem dX1_holdsAt_11 : decode cX1_holdsAt 11 = .ok (.aload_n 1, 1) := by decide +kernel
theorem dX1_holdsAt_12 : decode cX1_holdsAt 12 = .ok (.iload_n 2, 1) := by decide +kernel
theorem dX1_holdsAt_13 : decode cX1_holdsAt 13 = .ok (.iconst 1, 1) := by decide +kernel
theorem dX1_holdsAt_14 : decode cX1_holdsAt 14 = .ok (.invokevirtual 185, 3) := by decide +kernel
theorem dX1_holdsAt_17 : decode cX1_holdsAt 17 = .ok (.ifCond .eq 7, 3) := by decide +kernel
theorem dX1_holdsAt_20 : decode cX1_holdsAt 20 = .ok (.iconst 1, 1) := by decide +kernel
theorem dX1_holdsAt_21 : decode cX1_holdsAt 21 = .ok (.goto 4, 3) := by decide +kernel
theorem dX1_holdsAt_25 : decode cX1_holdsAt 25 = .ok (.ireturn, 1) := by decide +kernel
theorem dX6_isBalanced_36 : decode cX6_isBalanced 36 = .ok (.ireturn, 1) := by decide +kernel
theorem dL_isBalanced_7 : decode cL_isBalanced 7 = .ok (.ifCond .eq 7, 3) := by decide +kernel
theorem dL_isBalanced_10 : decode cL_isBalanced 10 = .ok (.lconst 1, 1) := by decide +kernel
theorem dL_isBalanced_11 : decode cL_isBalanced 11 = .ok (.goto 4, 3) := by decide +kernel
theorem dL_isBalanced_15 : decode cL_isBalanced 15 = .ok (.lastore, 1) := by decide +kernel
theorem dL_isBalanced_16 : decode cL_isBalanced 16 = .ok (.goto 9, 3) := by decide +kernel
theorem dL_isBalanced_25 : decode cL_isBalanced 25 = .ok (.iconst 0, 1) := by decide +kernel
theorem dL_isBalanced_26 : decode cL_isBalanced 26 = .ok (.ireturn, 1) := by decide +kernel
theorem dX12_isBalanced_17 : decode cX12_isBalanced 17 = .ok (.aload_n 0, 1) := by decide +kernel
theorem dX12_isBalanced_18 : decode cX12_isBalanced 18 = .ok (.invokevirtual 320, 3) := by decide +kernel
theorem dX12_stands_0 : decode cX12_stands 0 = .ok (.aload_n 0, 1) := by decide +kernel
theorem dX12_stands_1 : decode cX12_stands 1 = .ok (.invokevirtual 166, 3) := by decide +kernel
theorem dX12_stands_4 : decode cX12_stands 4 = .ok (.aload_n 0, 1) := by decide +kernel
theorem dX12_stands_5 : decode cX12_stands 5 = .ok (.getfield 157, 3) := by decide +kernel
theorem dX12_stands_8 : decode cX12_stands 8 = .ok (.bipush 46, 2) := by decide +kernel
theorem dX12_stands_10 : decode cX12_stands 10 = .ok (.if_icmp .ne 7, 3) := by decide +kernel
theorem dX12_stands_13 : decode cX12_stands 13 = .ok (.iconst 1, 1) := by decide +kernel
theorem dX12_stands_14 : decode cX12_stands 14 = .ok (.goto 4, 3) := by decide +kernel
theorem dX12_stands_18 : decode cX12_stands 18 = .ok (.ireturn, 1) := by decide +kernel
theorem dX12_isBalanced_21 : decode cX12_isBalanced 21 = .ok (.ifCond .eq 37, 3) := by decide +kernel
theorem dX12_isBalanced_24 : decode cX12_isBalanced 24 = .ok (.aload_n 0, 1) := by decide +kernel
theorem dX12_isBalanced_25 : decode cX12_isBalanced 25 = .ok (.aload_n 0, 1) := by decide +kernel
theorem dX12_isBalanced_26 : decode cX12_isBalanced 26 = .ok (.iload_n 1, 1) := by decide +kernel
theorem dX12_isBalanced_27 : decode cX12_isBalanced 27 = .ok (.iconst 0, 1) := by decide +kernel
theorem dX12_isBalanced_28 : decode cX12_isBalanced 28 = .ok (.invokevirtual 339, 3) := by decide +kernel
theorem dX12_restOf_0 : decode cX12_restOf 0 = .ok (.lconst 0, 1) := by decide +kernel
theorem dX12_restOf_1 : decode cX12_restOf 1 = .ok (.lstore_n 3, 1) := by decide +kernel
theorem dX12_restOf_2 : decode cX12_restOf 2 = .ok (.iconst 0, 1) := by decide +kernel
theorem dX12_restOf_3 : decode cX12_restOf 3 = .ok (.istore 5, 2) := by decide +kernel
theorem dX12_restOf_5 : decode cX12_restOf 5 = .ok (.iload 5, 2) := by decide +kernel
theorem dX12_restOf_7 : decode cX12_restOf 7 = .ok (.aload_n 0, 1) := by decide +kernel
theorem dX12_restOf_8 : decode cX12_restOf 8 = .ok (.getfield 10, 3) := by decide +kernel
theorem dX12_restOf_11 : decode cX12_restOf 11 = .ok (.invokevirtual 125, 3) := by decide +kernel
theorem dX12_restOf_14 : decode cX12_restOf 14 = .ok (.if_icmp .ge 205, 3) := by decide +kernel
theorem dX12_restOf_219 : decode cX12_restOf 219 = .ok (.lload_n 3, 1) := by decide +kernel
theorem dX12_restOf_220 : decode cX12_restOf 220 = .ok (.lreturn, 1) := by decide +kernel
theorem dX12_isBalanced_31 : decode cX12_isBalanced 31 = .ok (.lconst 0, 1) := by decide +kernel
theorem dX12_isBalanced_32 : decode cX12_isBalanced 32 = .ok (.lcmp, 1) := by decide +kernel
theorem dX12_isBalanced_33 : decode cX12_isBalanced 33 = .ok (.ifCond .ne 18, 3) := by decide +kernel
theorem dX12_isBalanced_36 : decode cX12_isBalanced 36 = .ok (.aload_n 0, 1) := by decide +kernel
theorem dX12_isBalanced_37 : decode cX12_isBalanced 37 = .ok (.iload_n 1, 1) := by decide +kernel
theorem dX12_isBalanced_38 : decode cX12_isBalanced 38 = .ok (.iconst 1, 1) := by decide +kernel
theorem dX12_isBalanced_39 : decode cX12_isBalanced 39 = .ok (.invokevirtual 339, 3) := by decide +kernel
theorem dX12_isBalanced_42 : decode cX12_isBalanced 42 = .ok (.lconst 0, 1) := by decide +kernel
theorem dX12_isBalanced_43 : decode cX12_isBalanced 43 = .ok (.lcmp, 1) := by decide +kernel
theorem dX12_isBalanced_44 : decode cX12_isBalanced 44 = .ok (.ifCond .ne 7, 3) := by decide +kernel
theorem dX12_isBalanced_47 : decode cX12_isBalanced 47 = .ok (.iconst 1, 1) := by decide +kernel
theorem dX12_isBalanced_48 : decode cX12_isBalanced 48 = .ok (.goto 4, 3) := by decide +kernel
theorem dX12_isBalanced_52 : decode cX12_isBalanced 52 = .ok (.invokevirtual 343, 3) := by decide +kernel
theorem dX12_tells_0 : decode cX12_tells 0 = .ok (.aload_n 0, 1) := by decide +kernel
theorem dX12_tells_1 : decode cX12_tells 1 = .ok (.iconst 0, 1) := by decide +kernel
theorem dX12_tells_2 : decode cX12_tells 2 = .ok (.putfield 74, 3) := by decide +kernel
theorem dX12_tells_5 : decode cX12_tells 5 = .ok (.iload_n 1, 1) := by decide +kernel
theorem dX12_tells_6 : decode cX12_tells 6 = .ok (.ireturn, 1) := by decide +kernel
theorem dX12_isBalanced_55 : decode cX12_isBalanced 55 = .ok (.goto 8, 3) := by decide +kernel
theorem dX12_isBalanced_63 : decode cX12_isBalanced 63 = .ok (.ireturn, 1) := by decide +kernel
theorem dL_law_693 : decode cL_law 693 = .ok (.aload_n 3, 1) := by decide +kernel
theorem dL_law_694 : decode cL_law 694 = .ok (.iconst 0, 1) := by decide +kernel
theorem dL_law_695 : decode cL_law 695 = .ok (.laload, 1) := by decide +kernel
theorem dL_law_696 : decode cL_law 696 = .ok (.iload 7, 2) := by decide +kernel
theorem dL_law_698 : decode cL_law 698 = .ok (.ifCond .eq 7, 3) := by decide +kernel
theorem dL_law_701 : decode cL_law 701 = .ok (.lconst 1, 1) := by decide +kernel
theorem dL_law_702 : decode cL_law 702 = .ok (.goto 4, 3) := by decide +kernel
theorem dL_law_706 : decode cL_law 706 = .ok (.lcmp, 1) := by decide +kernel
theorem dL_law_707 : decode cL_law 707 = .ok (.ifCond .eq 5, 3) := by decide +kernel
theorem dL_law_715 : decode cL_law 715 = .ok (.aload_n 1, 1) := by decide +kernel
theorem dL_law_716 : decode cL_law 716 = .ok (.aload_n 3, 1) := by decide +kernel
theorem dL_law_717 : decode cL_law 717 = .ok (.invokestatic 155, 3) := by decide +kernel
theorem dL_weakest_0 : decode cL_weakest 0 = .ok (.aload_n 1, 1) := by decide +kernel
theorem dL_weakest_1 : decode cL_weakest 1 = .ok (.iconst 0, 1) := by decide +kernel
theorem dL_weakest_2 : decode cL_weakest 2 = .ok (.aload_n 0, 1) := by decide +kernel
theorem dL_weakest_3 : decode cL_weakest 3 = .ok (.invokevirtual 42, 3) := by decide +kernel
theorem dX6_weakest_0 : decode cX6_weakest 0 = .ok (.aload_n 0, 1) := by decide +kernel
theorem dX6_weakest_1 : decode cX6_weakest 1 = .ok (.invokevirtual 121, 3) := by decide +kernel
theorem dX6_weakest_4 : decode cX6_weakest 4 = .ok (.aload_n 0, 1) := by decide +kernel
theorem dX6_weakest_5 : decode cX6_weakest 5 = .ok (.getfield 12, 3) := by decide +kernel
theorem dX6_weakest_8 : decode cX6_weakest 8 = .ok (.getfield 93, 3) := by decide +kernel
theorem dX6_weakest_11 : decode cX6_weakest 11 = .ok (.ifCond .ne 13, 3) := by decide +kernel
theorem dX6_weakest_14 : decode cX6_weakest 14 = .ok (.new 142, 3) := by decide +kernel
theorem dX6_weakest_17 : decode cX6_weakest 17 = .ok (.dup, 1) := by decide +kernel
theorem dX6_weakest_18 : decode cX6_weakest 18 = .ok (.ldc 144, 2) := by decide +kernel
theorem dX6_weakest_20 : decode cX6_weakest 20 = .ok (.invokespecial 146, 3) := by decide +kernel
theorem dX6_weakest_23 : decode cX6_weakest 23 = .ok (.athrow, 1) := by decide +kernel
theorem dL_weakest_14 : decode cL_weakest 14 = .ok (.astore_n 2, 1) := by decide +kernel
theorem dL_weakest_15 : decode cL_weakest 15 = .ok (.iconst 2, 1) := by decide +kernel
theorem dL_weakest_16 : decode cL_weakest 16 = .ok (.ireturn, 1) := by decide +kernel
theorem dL_law_720 : decode cL_law 720 = .ok (.istore 6, 2) := by decide +kernel
theorem dL_law_722 : decode cL_law 722 = .ok (.aload_n 2, 1) := by decide +kernel
theorem dL_law_723 : decode cL_law 723 = .ok (.invokevirtual 158, 3) := by decide +kernel
theorem dX12_weakest_0 : decode cX12_weakest 0 = .ok (.aload_n 0, 1) := by decide +kernel
theorem dX12_weakest_1 : decode cX12_weakest 1 = .ok (.invokevirtual 320, 3) := by decide +kernel
theorem dX12_weakest_4 : decode cX12_weakest 4 = .ok (.ifCond .ne 9, 3) := by decide +kernel
theorem dX12_weakest_13 : decode cX12_weakest 13 = .ok (.iconst (-1), 1) := by decide +kernel
theorem dX12_weakest_14 : decode cX12_weakest 14 = .ok (.istore_n 1, 1) := by decide +kernel
theorem dX12_weakest_15 : decode cX12_weakest 15 = .ok (.iconst 0, 1) := by decide +kernel
theorem dX12_weakest_16 : decode cX12_weakest 16 = .ok (.istore_n 2, 1) := by decide +kernel
theorem dX12_weakest_17 : decode cX12_weakest 17 = .ok (.iload_n 2, 1) := by decide +kernel
theorem dX12_weakest_18 : decode cX12_weakest 18 = .ok (.aload_n 0, 1) := by decide +kernel
theorem dX12_weakest_19 : decode cX12_weakest 19 = .ok (.getfield 16, 3) := by decide +kernel
theorem dX12_weakest_22 : decode cX12_weakest 22 = .ok (.invokevirtual 125, 3) := by decide +kernel
theorem dX12_weakest_25 : decode cX12_weakest 25 = .ok (.if_icmp .ge 36, 3) := by decide +kernel
theorem dX12_weakest_61 : decode cX12_weakest 61 = .ok (.iload_n 1, 1) := by decide +kernel
theorem dX12_weakest_62 : decode cX12_weakest 62 = .ok (.iconst (-1), 1) := by decide +kernel
theorem dX12_weakest_63 : decode cX12_weakest 63 = .ok (.if_icmp .ne 11, 3) := by decide +kernel
theorem dX12_weakest_66 : decode cX12_weakest 66 = .ok (.aload_n 0, 1) := by decide +kernel
theorem dX12_weakest_67 : decode cX12_weakest 67 = .ok (.iconst 2, 1) := by decide +kernel
theorem dX12_weakest_68 : decode cX12_weakest 68 = .ok (.invokevirtual 289, 3) := by decide +kernel
theorem dX12_weakest_71 : decode cX12_weakest 71 = .ok (.goto 8, 3) := by decide +kernel
theorem dX12_weakest_79 : decode cX12_weakest 79 = .ok (.ireturn, 1) := by decide +kernel
theorem dL_law_726 : decode cL_law 726 = .ok (.istore 7, 2) := by decide +kernel
theorem dL_law_728 : decode cL_law 728 = .ok (.aload_n 2, 1) := by decide +kernel
theorem dL_law_729 : decode cL_law 729 = .ok (.invokevirtual 125, 3) := by decide +kernel
theorem dL_law_732 : decode cL_law 732 = .ok (.iload 6, 2) := by decide +kernel
theorem dL_law_734 : decode cL_law 734 = .ok (.if_icmp .eq 5, 3) := by decide +kernel
theorem dL_law_739 : decode cL_law 739 = .ok (.iload 6, 2) := by decide +kernel
theorem dL_law_741 : decode cL_law 741 = .ok (.ifCond .ne 15, 3) := by decide +kernel
theorem dL_law_756 : decode cL_law 756 = .ok (.goto 1207, 3) := by decide +kernel
theorem dL_law_759 : decode cL_law 759 = .ok (.aload_n 1, 1) := by decide +kernel
theorem dL_law_760 : decode cL_law 760 = .ok (.aload_n 0, 1) := by decide +kernel
theorem dL_law_761 : decode cL_law 761 = .ok (.iload 5, 2) := by decide +kernel
theorem dL_law_763 : decode cL_law 763 = .ok (.iconst 1, 1) := by decide +kernel
theorem dL_law_764 : decode cL_law 764 = .ok (.iadd, 1) := by decide +kernel
theorem dL_law_765 : decode cL_law 765 = .ok (.iaload, 1) := by decide +kernel
theorem dL_law_766 : decode cL_law 766 = .ok (.aload_n 0, 1) := by decide +kernel
theorem dL_law_767 : decode cL_law 767 = .ok (.iload 5, 2) := by decide +kernel
theorem dL_law_769 : decode cL_law 769 = .ok (.iconst 2, 1) := by decide +kernel
theorem dL_law_770 : decode cL_law 770 = .ok (.iadd, 1) := by decide +kernel
theorem dL_law_771 : decode cL_law 771 = .ok (.iaload, 1) := by decide +kernel
theorem dL_law_772 : decode cL_law 772 = .ok (.aload_n 0, 1) := by decide +kernel
theorem dL_law_773 : decode cL_law 773 = .ok (.iload 5, 2) := by decide +kernel
theorem dL_law_775 : decode cL_law 775 = .ok (.iconst 3, 1) := by decide +kernel
theorem dL_law_776 : decode cL_law 776 = .ok (.iadd, 1) := by decide +kernel
theorem dL_law_777 : decode cL_law 777 = .ok (.iaload, 1) := by decide +kernel
theorem dL_law_778 : decode cL_law 778 = .ok (.i2c, 1) := by decide +kernel
theorem dL_law_779 : decode cL_law 779 = .ok (.aload_n 0, 1) := by decide +kernel
theorem dL_law_780 : decode cL_law 780 = .ok (.iload 5, 2) := by decide +kernel
theorem dL_law_782 : decode cL_law 782 = .ok (.iconst 4, 1) := by decide +kernel
theorem dL_law_783 : decode cL_law 783 = .ok (.iadd, 1) := by decide +kernel
theorem dL_law_784 : decode cL_law 784 = .ok (.iaload, 1) := by decide +kernel
theorem dL_law_785 : decode cL_law 785 = .ok (.aload_n 0, 1) := by decide +kernel
theorem dL_law_786 : decode cL_law 786 = .ok (.iload 5, 2) := by decide +kernel
theorem dL_law_788 : decode cL_law 788 = .ok (.iconst 5, 1) := by decide +kernel
theorem dL_law_789 : decode cL_law 789 = .ok (.iadd, 1) := by decide +kernel
theorem dL_law_790 : decode cL_law 790 = .ok (.iaload, 1) := by decide +kernel
theorem dL_law_791 : decode cL_law 791 = .ok (.aload_n 3, 1) := by decide +kernel
theorem dL_law_792 : decode cL_law 792 = .ok (.invokestatic 159, 3) := by decide +kernel
theorem dL_joint_0 : decode cL_joint 0 = .ok (.aload 6, 2) := by decide +kernel
theorem dL_joint_2 : decode cL_joint 2 = .ok (.iconst 0, 1) := by decide +kernel
theorem dL_joint_3 : decode cL_joint 3 = .ok (.aload_n 0, 1) := by decide +kernel
theorem dL_joint_4 : decode cL_joint 4 = .ok (.iload_n 1, 1) := by decide +kernel
theorem dL_joint_5 : decode cL_joint 5 = .ok (.iload_n 2, 1) := by decide +kernel
theorem dL_joint_6 : decode cL_joint 6 = .ok (.iload_n 3, 1) := by decide +kernel
theorem dL_joint_7 : decode cL_joint 7 = .ok (.iload 4, 2) := by decide +kernel
theorem dL_joint_9 : decode cL_joint 9 = .ok (.iload 5, 2) := by decide +kernel
theorem dL_joint_11 : decode cL_joint 11 = .ok (.invokevirtual 48, 3) := by decide +kernel
theorem dX6_joint_0 : decode cX6_joint 0 = .ok (.aload_n 0, 1) := by decide +kernel
theorem dX6_joint_1 : decode cX6_joint 1 = .ok (.iload_n 1, 1) := by decide +kernel
theorem dX6_joint_2 : decode cX6_joint 2 = .ok (.invokevirtual 118, 3) := by decide +kernel
theorem dL_joint_19 : decode cL_joint 19 = .ok (.astore 7, 2) := by decide +kernel
theorem dL_joint_21 : decode cL_joint 21 = .ok (.iconst 1, 1) := by decide +kernel
theorem dL_joint_22 : decode cL_joint 22 = .ok (.ireturn, 1) := by decide +kernel
theorem dL_law_795 : decode cL_law 795 = .ok (.istore 6, 2) := by decide +kernel
theorem dL_law_797 : decode cL_law 797 = .ok (.aload_n 2, 1) := by decide +kernel
theorem dL_law_798 : decode cL_law 798 = .ok (.aload_n 0, 1) := by decide +kernel
theorem dL_law_799 : decode cL_law 799 = .ok (.iload 5, 2) := by decide +kernel
theorem dL_law_801 : decode cL_law 801 = .ok (.iconst 1, 1) := by decide +kernel
theorem dL_law_802 : decode cL_law 802 = .ok (.iadd, 1) := by decide +kernel
theorem dL_law_803 : decode cL_law 803 = .ok (.iaload, 1) := by decide +kernel
theorem dL_law_804 : decode cL_law 804 = .ok (.aload_n 0, 1) := by decide +kernel
theorem dL_law_805 : decode cL_law 805 = .ok (.iload 5, 2) := by decide +kernel
theorem dL_law_807 : decode cL_law 807 = .ok (.iconst 2, 1) := by decide +kernel
theorem dL_law_808 : decode cL_law 808 = .ok (.iadd, 1) := by decide +kernel
theorem dL_law_809 : decode cL_law 809 = .ok (.iaload, 1) := by decide +kernel
theorem dL_law_810 : decode cL_law 810 = .ok (.aload_n 0, 1) := by decide +kernel
theorem dL_law_811 : decode cL_law 811 = .ok (.iload 5, 2) := by decide +kernel
theorem dL_law_813 : decode cL_law 813 = .ok (.iconst 3, 1) := by decide +kernel
theorem dL_law_814 : decode cL_law 814 = .ok (.iadd, 1) := by decide +kernel
theorem dL_law_815 : decode cL_law 815 = .ok (.iaload, 1) := by decide +kernel
theorem dL_law_816 : decode cL_law 816 = .ok (.i2c, 1) := by decide +kernel
theorem dL_law_817 : decode cL_law 817 = .ok (.aload_n 0, 1) := by decide +kernel
theorem dL_law_818 : decode cL_law 818 = .ok (.iload 5, 2) := by decide +kernel
theorem dL_law_820 : decode cL_law 820 = .ok (.iconst 4, 1) := by decide +kernel
theorem dL_law_821 : decode cL_law 821 = .ok (.iadd, 1) := by decide +kernel
theorem dL_law_822 : decode cL_law 822 = .ok (.iaload, 1) := by decide +kernel
theorem dL_law_823 : decode cL_law 823 = .ok (.aload_n 0, 1) := by decide +kernel
theorem dL_law_824 : decode cL_law 824 = .ok (.iload 5, 2) := by decide +kernel
theorem dL_law_826 : decode cL_law 826 = .ok (.iconst 5, 1) := by decide +kernel
theorem dL_law_827 : decode cL_law 827 = .ok (.iadd, 1) := by decide +kernel
theorem dL_law_828 : decode cL_law 828 = .ok (.iaload, 1) := by decide +kernel
theorem dL_law_829 : decode cL_law 829 = .ok (.invokevirtual 162, 3) := by decide +kernel
theorem dX12_joint_0 : decode cX12_joint 0 = .ok (.aload_n 0, 1) := by decide +kernel
theorem dX12_joint_1 : decode cX12_joint 1 = .ok (.iload_n 1, 1) := by decide +kernel
theorem dX12_joint_2 : decode cX12_joint 2 = .ok (.invokevirtual 314, 3) := by decide +kernel
theorem dX12_joint_5 : decode cX12_joint 5 = .ok (.ifCond .eq 11, 3) := by decide +kernel
theorem dX12_joint_16 : decode cX12_joint 16 = .ok (.aload_n 0, 1) := by decide +kernel
theorem dX12_joint_17 : decode cX12_joint 17 = .ok (.iconst 1, 1) := by decide +kernel
theorem dX12_joint_18 : decode cX12_joint 18 = .ok (.invokevirtual 289, 3) := by decide +kernel
theorem dX12_joint_21 : decode cX12_joint 21 = .ok (.ireturn, 1) := by decide +kernel
theorem dL_law_832 : decode cL_law 832 = .ok (.istore 7, 2) := by decide +kernel
theorem dL_law_834 : decode cL_law 834 = .ok (.aload_n 2, 1) := by decide +kernel
theorem dL_law_835 : decode cL_law 835 = .ok (.invokevirtual 125, 3) := by decide +kernel
theorem dL_law_838 : decode cL_law 838 = .ok (.iload 6, 2) := by decide +kernel
theorem dL_law_840 : decode cL_law 840 = .ok (.if_icmp .eq 5, 3) := by decide +kernel
theorem dL_law_845 : decode cL_law 845 = .ok (.iload 6, 2) := by decide +kernel
theorem dL_law_847 : decode cL_law 847 = .ok (.ifCond .ne 15, 3) := by decide +kernel
theorem dL_law_862 : decode cL_law 862 = .ok (.goto 1101, 3) := by decide +kernel
theorem dL_law_865 : decode cL_law 865 = .ok (.aload_n 1, 1) := by decide +kernel
theorem dL_law_866 : decode cL_law 866 = .ok (.aload_n 0, 1) := by decide +kernel
theorem dL_law_867 : decode cL_law 867 = .ok (.iload 5, 2) := by decide +kernel
theorem dL_law_869 : decode cL_law 869 = .ok (.iconst 1, 1) := by decide +kernel
theorem dL_law_870 : decode cL_law 870 = .ok (.iadd, 1) := by decide +kernel
theorem dL_law_871 : decode cL_law 871 = .ok (.iaload, 1) := by decide +kernel
theorem dL_law_872 : decode cL_law 872 = .ok (.aload_n 3, 1) := by decide +kernel
theorem dL_law_873 : decode cL_law 873 = .ok (.invokestatic 163, 3) := by decide +kernel
theorem dL_isRight_0 : decode cL_isRight 0 = .ok (.aload_n 2, 1) := by decide +kernel
theorem dL_isRight_1 : decode cL_isRight 1 = .ok (.iconst 0, 1) := by decide +kernel
theorem dL_isRight_2 : decode cL_isRight 2 = .ok (.aload_n 0, 1) := by decide +kernel
theorem dL_isRight_3 : decode cL_isRight 3 = .ok (.iload_n 1, 1) := by decide +kernel
theorem dL_isRight_4 : decode cL_isRight 4 = .ok (.invokevirtual 54, 3) := by decide +kernel
theorem dX6_isRight_0 : decode cX6_isRight 0 = .ok (.aload_n 0, 1) := by decide +kernel
theorem dX6_isRight_1 : decode cX6_isRight 1 = .ok (.iload_n 1, 1) := by decide +kernel
theorem dX6_isRight_2 : decode cX6_isRight 2 = .ok (.invokevirtual 179, 3) := by decide +kernel
theorem dX6_checkJoint_0 : decode cX6_checkJoint 0 = .ok (.iload_n 1, 1) := by decide +kernel
theorem dX6_checkJoint_1 : decode cX6_checkJoint 1 = .ok (.ifCond .lt 14, 3) := by decide +kernel
theorem dX6_checkJoint_15 : decode cX6_checkJoint 15 = .ok (.new 228, 3) := by decide +kernel
theorem dX6_checkJoint_18 : decode cX6_checkJoint 18 = .ok (.dup, 1) := by decide +kernel
theorem dX6_checkJoint_19 : decode cX6_checkJoint 19 = .ok (.ldc_w 284, 3) := by decide +kernel
theorem dX6_checkJoint_22 : decode cX6_checkJoint 22 = .ok (.invokespecial 232, 3) := by decide +kernel
theorem dX6_checkJoint_25 : decode cX6_checkJoint 25 = .ok (.athrow, 1) := by decide +kernel
theorem dL_isRight_19 : decode cL_isRight 19 = .ok (.astore_n 3, 1) := by decide +kernel
theorem dL_isRight_20 : decode cL_isRight 20 = .ok (.iconst 1, 1) := by decide +kernel
theorem dL_isRight_21 : decode cL_isRight 21 = .ok (.ireturn, 1) := by decide +kernel
theorem dL_law_876 : decode cL_law 876 = .ok (.istore 6, 2) := by decide +kernel
theorem dL_law_878 : decode cL_law 878 = .ok (.aload_n 2, 1) := by decide +kernel
theorem dL_law_879 : decode cL_law 879 = .ok (.aload_n 0, 1) := by decide +kernel
theorem dL_law_880 : decode cL_law 880 = .ok (.iload 5, 2) := by decide +kernel
theorem dL_law_882 : decode cL_law 882 = .ok (.iconst 1, 1) := by decide +kernel
theorem dL_law_883 : decode cL_law 883 = .ok (.iadd, 1) := by decide +kernel
theorem dL_law_884 : decode cL_law 884 = .ok (.iaload, 1) := by decide +kernel
theorem dL_law_885 : decode cL_law 885 = .ok (.invokevirtual 165, 3) := by decide +kernel
theorem dX12_isRight_0 : decode cX12_isRight 0 = .ok (.aload_n 0, 1) := by decide +kernel
theorem dX12_isRight_1 : decode cX12_isRight 1 = .ok (.iload_n 1, 1) := by decide +kernel
theorem dX12_isRight_2 : decode cX12_isRight 2 = .ok (.invokevirtual 363, 3) := by decide +kernel
theorem dX12_isJoint_0 : decode cX12_isJoint 0 = .ok (.iload_n 1, 1) := by decide +kernel
theorem dX12_isJoint_1 : decode cX12_isJoint 1 = .ok (.i2l, 1) := by decide +kernel
theorem dX12_isJoint_2 : decode cX12_isJoint 2 = .ok (.iconst 0, 1) := by decide +kernel
theorem dX12_isJoint_3 : decode cX12_isJoint 3 = .ok (.aload_n 0, 1) := by decide +kernel
theorem dX12_isJoint_4 : decode cX12_isJoint 4 = .ok (.getfield 19, 3) := by decide +kernel
theorem dX12_isJoint_7 : decode cX12_isJoint 7 = .ok (.invokevirtual 125, 3) := by decide +kernel
theorem dX12_isJoint_10 : decode cX12_isJoint 10 = .ok (.iconst 1, 1) := by decide +kernel
theorem dX12_isJoint_11 : decode cX12_isJoint 11 = .ok (.isub, 1) := by decide +kernel
theorem dX12_isJoint_12 : decode cX12_isJoint 12 = .ok (.invokestatic 285, 3) := by decide +kernel
theorem dX12_isJoint_15 : decode cX12_isJoint 15 = .ok (.ireturn, 1) := by decide +kernel
theorem dX12_isRight_5 : decode cX12_isRight 5 = .ok (.ifCond .eq 25, 3) := by decide +kernel
theorem dX12_isRight_30 : decode cX12_isRight 30 = .ok (.aload_n 0, 1) := by decide +kernel
theorem dX12_isRight_31 : decode cX12_isRight 31 = .ok (.iconst 1, 1) := by decide +kernel
theorem dX12_isRight_32 : decode cX12_isRight 32 = .ok (.invokevirtual 336, 3) := by decide +kernel
theorem dX12_isRight_35 : decode cX12_isRight 35 = .ok (.ireturn, 1) := by decide +kernel
theorem dL_law_888 : decode cL_law 888 = .ok (.istore 7, 2) := by decide +kernel
theorem dL_law_890 : decode cL_law 890 = .ok (.aload_n 2, 1) := by decide +kernel
theorem dL_law_891 : decode cL_law 891 = .ok (.invokevirtual 125, 3) := by decide +kernel
theorem dL_law_894 : decode cL_law 894 = .ok (.iload 6, 2) := by decide +kernel
theorem dL_law_896 : decode cL_law 896 = .ok (.if_icmp .eq 5, 3) := by decide +kernel
theorem dL_law_901 : decode cL_law 901 = .ok (.iload 6, 2) := by decide +kernel
theorem dL_law_903 : decode cL_law 903 = .ok (.ifCond .ne 22, 3) := by decide +kernel
theorem dL_law_925 : decode cL_law 925 = .ok (.goto 1038, 3) := by decide +kernel
theorem dX6_checkJoint_4 : decode cX6_checkJoint 4 = .ok (.iload_n 1, 1) := by decide +kernel
theorem dX6_checkJoint_5 : decode cX6_checkJoint 5 = .ok (.aload_n 0, 1) := by decide +kernel
theorem dX6_checkJoint_6 : decode cX6_checkJoint 6 = .ok (.getfield 26, 3) := by decide +kernel
theorem dX6_checkJoint_9 : decode cX6_checkJoint 9 = .ok (.getfield 170, 3) := by decide +kernel
theorem dX6_checkJoint_12 : decode cX6_checkJoint 12 = .ok (.if_icmp .lt 14, 3) := by decide +kernel
theorem dL_law_928 : decode cL_law 928 = .ok (.aload_n 1, 1) := by decide +kernel
theorem dL_law_929 : decode cL_law 929 = .ok (.aload_n 0, 1) := by decide +kernel
theorem dL_law_930 : decode cL_law 930 = .ok (.iload 5, 2) := by decide +kernel
theorem dL_law_932 : decode cL_law 932 = .ok (.iconst 1, 1) := by decide +kernel
theorem dL_law_933 : decode cL_law 933 = .ok (.iadd, 1) := by decide +kernel
theorem dL_law_934 : decode cL_law 934 = .ok (.iaload, 1) := by decide +kernel
theorem dL_law_935 : decode cL_law 935 = .ok (.aload_n 3, 1) := by decide +kernel
theorem dL_law_936 : decode cL_law 936 = .ok (.invokestatic 166, 3) := by decide +kernel
theorem dL_misread_0 : decode cL_misread 0 = .ok (.aload_n 2, 1) := by decide +kernel
theorem dL_misread_1 : decode cL_misread 1 = .ok (.iconst 0, 1) := by decide +kernel
theorem dL_misread_2 : decode cL_misread 2 = .ok (.aload_n 0, 1) := by decide +kernel
theorem dL_misread_3 : decode cL_misread 3 = .ok (.iload_n 1, 1) := by decide +kernel
theorem dL_misread_4 : decode cL_misread 4 = .ok (.invokevirtual 57, 3) := by decide +kernel
theorem dX6_misread_0 : decode cX6_misread 0 = .ok (.aload_n 0, 1) := by decide +kernel
theorem dX6_misread_1 : decode cX6_misread 1 = .ok (.iload_n 1, 1) := by decide +kernel
theorem dX6_misread_2 : decode cX6_misread 2 = .ok (.invokevirtual 179, 3) := by decide +kernel
theorem dL_misread_12 : decode cL_misread 12 = .ok (.astore_n 3, 1) := by decide +kernel
theorem dL_misread_13 : decode cL_misread 13 = .ok (.iconst 1, 1) := by decide +kernel
theorem dL_misread_14 : decode cL_misread 14 = .ok (.ireturn, 1) := by decide +kernel
theorem dL_law_939 : decode cL_law 939 = .ok (.istore 6, 2) := by decide +kernel
theorem dL_law_941 : decode cL_law 941 = .ok (.aload_n 2, 1) := by decide +kernel
theorem dL_law_942 : decode cL_law 942 = .ok (.aload_n 0, 1) := by decide +kernel
theorem dL_law_943 : decode cL_law 943 = .ok (.iload 5, 2) := by decide +kernel
theorem dL_law_945 : decode cL_law 945 = .ok (.iconst 1, 1) := by decide +kernel
theorem dL_law_946 : decode cL_law 946 = .ok (.iadd, 1) := by decide +kernel
theorem dL_law_947 : decode cL_law 947 = .ok (.iaload, 1) := by decide +kernel
theorem dL_law_948 : decode cL_law 948 = .ok (.invokevirtual 168, 3) := by decide +kernel
theorem dX12_misread_0 : decode cX12_misread 0 = .ok (.aload_n 0, 1) := by decide +kernel
theorem dX12_misread_1 : decode cX12_misread 1 = .ok (.iload_n 1, 1) := by decide +kernel
theorem dX12_misread_2 : decode cX12_misread 2 = .ok (.invokevirtual 363, 3) := by decide +kernel
theorem dX12_misread_5 : decode cX12_misread 5 = .ok (.ifCond .eq 24, 3) := by decide +kernel
theorem dX12_misread_29 : decode cX12_misread 29 = .ok (.aload_n 0, 1) := by decide +kernel
theorem dX12_misread_30 : decode cX12_misread 30 = .ok (.iconst 1, 1) := by decide +kernel
theorem dX12_misread_31 : decode cX12_misread 31 = .ok (.invokevirtual 289, 3) := by decide +kernel
theorem dX12_misread_34 : decode cX12_misread 34 = .ok (.ireturn, 1) := by decide +kernel
theorem dL_law_951 : decode cL_law 951 = .ok (.istore 7, 2) := by decide +kernel
theorem dL_law_953 : decode cL_law 953 = .ok (.aload_n 2, 1) := by decide +kernel
theorem dL_law_954 : decode cL_law 954 = .ok (.invokevirtual 125, 3) := by decide +kernel
theorem dL_law_957 : decode cL_law 957 = .ok (.iload 6, 2) := by decide +kernel
theorem dL_law_959 : decode cL_law 959 = .ok (.if_icmp .eq 5, 3) := by decide +kernel
theorem dL_law_964 : decode cL_law 964 = .ok (.iload 6, 2) := by decide +kernel
theorem dL_law_966 : decode cL_law 966 = .ok (.ifCond .ne 15, 3) := by decide +kernel
theorem dL_law_981 : decode cL_law 981 = .ok (.goto 982, 3) := by decide +kernel
theorem dL_law_984 : decode cL_law 984 = .ok (.aload_n 1, 1) := by decide +kernel
theorem dL_law_985 : decode cL_law 985 = .ok (.invokevirtual 169, 3) := by decide +kernel
theorem dX6_clashes_0 : decode cX6_clashes 0 = .ok (.iconst 0, 1) := by decide +kernel
theorem dX6_clashes_1 : decode cX6_clashes 1 = .ok (.istore_n 1, 1) := by decide +kernel
theorem dX6_clashes_2 : decode cX6_clashes 2 = .ok (.iconst 0, 1) := by decide +kernel
theorem dX6_clashes_3 : decode cX6_clashes 3 = .ok (.istore_n 2, 1) := by decide +kernel
theorem dX6_clashes_4 : decode cX6_clashes 4 = .ok (.iload_n 2, 1) := by decide +kernel
theorem dX6_clashes_5 : decode cX6_clashes 5 = .ok (.aload_n 0, 1) := by decide +kernel
theorem dX6_clashes_6 : decode cX6_clashes 6 = .ok (.getfield 26, 3) := by decide +kernel
theorem dX6_clashes_9 : decode cX6_clashes 9 = .ok (.getfield 170, 3) := by decide +kernel
theorem dX6_clashes_12 : decode cX6_clashes 12 = .ok (.if_icmp .ge 42, 3) := by decide +kernel
theorem dX6_clashes_54 : decode cX6_clashes 54 = .ok (.iload_n 1, 1) := by decide +kernel
theorem dX6_clashes_55 : decode cX6_clashes 55 = .ok (.ireturn, 1) := by decide +kernel
theorem dL_law_988 : decode cL_law 988 = .ok (.aload_n 2, 1) := by decide +kernel
theorem dL_law_989 : decode cL_law 989 = .ok (.invokevirtual 172, 3) := by decide +kernel
theorem dX12_clashes_0 : decode cX12_clashes 0 = .ok (.iconst 0, 1) := by decide +kernel
theorem dX12_clashes_1 : decode cX12_clashes 1 = .ok (.istore_n 1, 1) := by decide +kernel
theorem dX12_clashes_2 : decode cX12_clashes 2 = .ok (.iconst 0, 1) := by decide +kernel
theorem dX12_clashes_3 : decode cX12_clashes 3 = .ok (.istore_n 2, 1) := by decide +kernel
theorem dX12_clashes_4 : decode cX12_clashes 4 = .ok (.iload_n 2, 1) := by decide +kernel
theorem dX12_clashes_5 : decode cX12_clashes 5 = .ok (.aload_n 0, 1) := by decide +kernel
theorem dX12_clashes_6 : decode cX12_clashes 6 = .ok (.getfield 19, 3) := by decide +kernel
theorem dX12_clashes_9 : decode cX12_clashes 9 = .ok (.invokevirtual 125, 3) := by decide +kernel
theorem dX12_clashes_12 : decode cX12_clashes 12 = .ok (.if_icmp .ge 92, 3) := by decide +kernel
theorem dX12_clashes_104 : decode cX12_clashes 104 = .ok (.aload_n 0, 1) := by decide +kernel
theorem dX12_clashes_105 : decode cX12_clashes 105 = .ok (.iload_n 1, 1) := by decide +kernel
theorem dX12_clashes_106 : decode cX12_clashes 106 = .ok (.invokevirtual 302, 3) := by decide +kernel
theorem dX12_clashes_109 : decode cX12_clashes 109 = .ok (.ireturn, 1) := by decide +kernel
theorem dL_law_992 : decode cL_law 992 = .ok (.if_icmp .eq 971, 3) := by decide +kernel
theorem dL_law_997 : decode cL_law 997 = .ok (.aload_n 1, 1) := by decide +kernel
theorem dL_law_998 : decode cL_law 998 = .ok (.aload_n 0, 1) := by decide +kernel
theorem dL_law_999 : decode cL_law 999 = .ok (.iload 5, 2) := by decide +kernel
theorem dL_law_1001 : decode cL_law 1001 = .ok (.iconst 1, 1) := by decide +kernel
theorem dL_law_1002 : decode cL_law 1002 = .ok (.iadd, 1) := by decide +kernel
theorem dL_law_1003 : decode cL_law 1003 = .ok (.iaload, 1) := by decide +kernel
theorem dL_law_1004 : decode cL_law 1004 = .ok (.aload_n 0, 1) := by decide +kernel
theorem dL_law_1005 : decode cL_law 1005 = .ok (.iload 5, 2) := by decide +kernel
theorem dL_law_1007 : decode cL_law 1007 = .ok (.iconst 2, 1) := by decide +kernel
theorem dL_law_1008 : decode cL_law 1008 = .ok (.iadd, 1) := by decide +kernel
theorem dL_law_1009 : decode cL_law 1009 = .ok (.iaload, 1) := by decide +kernel
theorem dL_law_1010 : decode cL_law 1010 = .ok (.aload_n 3, 1) := by decide +kernel
theorem dL_law_1011 : decode cL_law 1011 = .ok (.invokestatic 173, 3) := by decide +kernel
theorem dL_cutAt_0 : decode cL_cutAt 0 = .ok (.aload_n 3, 1) := by decide +kernel
theorem dL_cutAt_1 : decode cL_cutAt 1 = .ok (.iconst 0, 1) := by decide +kernel
theorem dL_cutAt_2 : decode cL_cutAt 2 = .ok (.aload_n 0, 1) := by decide +kernel
theorem dL_cutAt_3 : decode cL_cutAt 3 = .ok (.iload_n 1, 1) := by decide +kernel
theorem dL_cutAt_4 : decode cL_cutAt 4 = .ok (.iload_n 2, 1) := by decide +kernel
theorem dL_cutAt_5 : decode cL_cutAt 5 = .ok (.invokevirtual 61, 3) := by decide +kernel
theorem dX6_cutAt_0 : decode cX6_cutAt 0 = .ok (.aload_n 0, 1) := by decide +kernel
theorem dX6_cutAt_1 : decode cX6_cutAt 1 = .ok (.iload_n 1, 1) := by decide +kernel
theorem dX6_cutAt_2 : decode cX6_cutAt 2 = .ok (.invokevirtual 118, 3) := by decide +kernel
theorem dL_cutAt_13 : decode cL_cutAt 13 = .ok (.astore 4, 2) := by decide +kernel
theorem dL_cutAt_15 : decode cL_cutAt 15 = .ok (.iconst 1, 1) := by decide +kernel
theorem dL_cutAt_16 : decode cL_cutAt 16 = .ok (.ireturn, 1) := by decide +kernel
theorem dL_law_1014 : decode cL_law 1014 = .ok (.istore 6, 2) := by decide +kernel
theorem dL_law_1016 : decode cL_law 1016 = .ok (.aload_n 2, 1) := by decide +kernel
theorem dL_law_1017 : decode cL_law 1017 = .ok (.aload_n 0, 1) := by decide +kernel
theorem dL_law_1018 : decode cL_law 1018 = .ok (.iload 5, 2) := by decide +kernel
theorem dL_law_1020 : decode cL_law 1020 = .ok (.iconst 1, 1) := by decide +kernel
theorem dL_law_1021 : decode cL_law 1021 = .ok (.iadd, 1) := by decide +kernel
theorem dL_law_1022 : decode cL_law 1022 = .ok (.iaload, 1) := by decide +kernel
theorem dL_law_1023 : decode cL_law 1023 = .ok (.aload_n 0, 1) := by decide +kernel
theorem dL_law_1024 : decode cL_law 1024 = .ok (.iload 5, 2) := by decide +kernel
theorem dL_law_1026 : decode cL_law 1026 = .ok (.iconst 2, 1) := by decide +kernel
theorem dL_law_1027 : decode cL_law 1027 = .ok (.iadd, 1) := by decide +kernel
theorem dL_law_1028 : decode cL_law 1028 = .ok (.iaload, 1) := by decide +kernel
theorem dL_law_1029 : decode cL_law 1029 = .ok (.invokevirtual 176, 3) := by decide +kernel
theorem dX12_cutAt_0 : decode cX12_cutAt 0 = .ok (.aload_n 0, 1) := by decide +kernel
theorem dX12_cutAt_1 : decode cX12_cutAt 1 = .ok (.iload_n 1, 1) := by decide +kernel
theorem dX12_cutAt_2 : decode cX12_cutAt 2 = .ok (.invokevirtual 314, 3) := by decide +kernel
theorem dX12_cutAt_5 : decode cX12_cutAt 5 = .ok (.ifCond .ne 9, 3) := by decide +kernel
theorem dX12_cutAt_8 : decode cX12_cutAt 8 = .ok (.aload_n 0, 1) := by decide +kernel
theorem dX12_cutAt_9 : decode cX12_cutAt 9 = .ok (.iconst 1, 1) := by decide +kernel
theorem dX12_cutAt_10 : decode cX12_cutAt 10 = .ok (.invokevirtual 289, 3) := by decide +kernel
theorem dX12_cutAt_13 : decode cX12_cutAt 13 = .ok (.ireturn, 1) := by decide +kernel
theorem dL_law_1032 : decode cL_law 1032 = .ok (.istore 7, 2) := by decide +kernel
theorem dL_law_1034 : decode cL_law 1034 = .ok (.aload_n 2, 1) := by decide +kernel
theorem dL_law_1035 : decode cL_law 1035 = .ok (.invokevirtual 125, 3) := by decide +kernel
theorem dL_law_1038 : decode cL_law 1038 = .ok (.iload 6, 2) := by decide +kernel
theorem dL_law_1040 : decode cL_law 1040 = .ok (.if_icmp .eq 5, 3) := by decide +kernel
theorem dL_law_1045 : decode cL_law 1045 = .ok (.iload 6, 2) := by decide +kernel
theorem dL_law_1047 : decode cL_law 1047 = .ok (.ifCond .ne 15, 3) := by decide +kernel
theorem dL_law_1062 : decode cL_law 1062 = .ok (.goto 901, 3) := by decide +kernel
theorem dL_law_1065 : decode cL_law 1065 = .ok (.aload_n 1, 1) := by decide +kernel
theorem dL_law_1066 : decode cL_law 1066 = .ok (.aload_n 0, 1) := by decide +kernel
theorem dL_law_1067 : decode cL_law 1067 = .ok (.iload 5, 2) := by decide +kernel
theorem dL_law_1069 : decode cL_law 1069 = .ok (.iconst 1, 1) := by decide +kernel
theorem dL_law_1070 : decode cL_law 1070 = .ok (.iadd, 1) := by decide +kernel
theorem dL_law_1071 : decode cL_law 1071 = .ok (.iaload, 1) := by decide +kernel
theorem dL_law_1072 : decode cL_law 1072 = .ok (.aload_n 0, 1) := by decide +kernel
theorem dL_law_1073 : decode cL_law 1073 = .ok (.iload 5, 2) := by decide +kernel
theorem dL_law_1075 : decode cL_law 1075 = .ok (.iconst 2, 1) := by decide +kernel
theorem dL_law_1076 : decode cL_law 1076 = .ok (.iadd, 1) := by decide +kernel
theorem dL_law_1077 : decode cL_law 1077 = .ok (.iaload, 1) := by decide +kernel
theorem dL_law_1078 : decode cL_law 1078 = .ok (.aload_n 3, 1) := by decide +kernel
theorem dL_law_1079 : decode cL_law 1079 = .ok (.invokestatic 177, 3) := by decide +kernel
theorem dL_dry_0 : decode cL_dry 0 = .ok (.aload_n 3, 1) := by decide +kernel
theorem dL_dry_1 : decode cL_dry 1 = .ok (.iconst 0, 1) := by decide +kernel
theorem dL_dry_2 : decode cL_dry 2 = .ok (.aload_n 0, 1) := by decide +kernel
theorem dL_dry_3 : decode cL_dry 3 = .ok (.iload_n 1, 1) := by decide +kernel
theorem dL_dry_4 : decode cL_dry 4 = .ok (.iload_n 2, 1) := by decide +kernel
theorem dL_dry_5 : decode cL_dry 5 = .ok (.invokevirtual 65, 3) := by decide +kernel
theorem dX6_dry_0 : decode cX6_dry 0 = .ok (.aload_n 0, 1) := by decide +kernel
theorem dX6_dry_1 : decode cX6_dry 1 = .ok (.iload_n 1, 1) := by decide +kernel
theorem dX6_dry_2 : decode cX6_dry 2 = .ok (.invokevirtual 118, 3) := by decide +kernel
theorem dL_dry_13 : decode cL_dry 13 = .ok (.astore 4, 2) := by decide +kernel
theorem dL_dry_15 : decode cL_dry 15 = .ok (.iconst 1, 1) := by decide +kernel
theorem dL_dry_16 : decode cL_dry 16 = .ok (.ireturn, 1) := by decide +kernel
theorem dL_law_1082 : decode cL_law 1082 = .ok (.istore 6, 2) := by decide +kernel
theorem dL_law_1084 : decode cL_law 1084 = .ok (.aload_n 2, 1) := by decide +kernel
theorem dL_law_1085 : decode cL_law 1085 = .ok (.aload_n 0, 1) := by decide +kernel
theorem dL_law_1086 : decode cL_law 1086 = .ok (.iload 5, 2) := by decide +kernel
theorem dL_law_1088 : decode cL_law 1088 = .ok (.iconst 1, 1) := by decide +kernel
theorem dL_law_1089 : decode cL_law 1089 = .ok (.iadd, 1) := by decide +kernel
theorem dL_law_1090 : decode cL_law 1090 = .ok (.iaload, 1) := by decide +kernel
theorem dL_law_1091 : decode cL_law 1091 = .ok (.aload_n 0, 1) := by decide +kernel
theorem dL_law_1092 : decode cL_law 1092 = .ok (.iload 5, 2) := by decide +kernel
theorem dL_law_1094 : decode cL_law 1094 = .ok (.iconst 2, 1) := by decide +kernel
theorem dL_law_1095 : decode cL_law 1095 = .ok (.iadd, 1) := by decide +kernel
theorem dL_law_1096 : decode cL_law 1096 = .ok (.iaload, 1) := by decide +kernel
theorem dL_law_1097 : decode cL_law 1097 = .ok (.invokevirtual 179, 3) := by decide +kernel
theorem dX12_dry_0 : decode cX12_dry 0 = .ok (.aload_n 0, 1) := by decide +kernel
theorem dX12_dry_1 : decode cX12_dry 1 = .ok (.iload_n 1, 1) := by decide +kernel
theorem dX12_dry_2 : decode cX12_dry 2 = .ok (.invokevirtual 314, 3) := by decide +kernel
theorem dX12_dry_5 : decode cX12_dry 5 = .ok (.ifCond .ne 9, 3) := by decide +kernel
theorem dX12_dry_8 : decode cX12_dry 8 = .ok (.aload_n 0, 1) := by decide +kernel
theorem dX12_dry_9 : decode cX12_dry 9 = .ok (.iconst 1, 1) := by decide +kernel
theorem dX12_dry_10 : decode cX12_dry 10 = .ok (.invokevirtual 289, 3) := by decide +kernel
theorem dX12_dry_13 : decode cX12_dry 13 = .ok (.ireturn, 1) := by decide +kernel
theorem dL_law_1100 : decode cL_law 1100 = .ok (.istore 7, 2) := by decide +kernel
theorem dL_law_1102 : decode cL_law 1102 = .ok (.aload_n 2, 1) := by decide +kernel
theorem dL_law_1103 : decode cL_law 1103 = .ok (.invokevirtual 125, 3) := by decide +kernel
theorem dL_law_1106 : decode cL_law 1106 = .ok (.iload 6, 2) := by decide +kernel
theorem dL_law_1108 : decode cL_law 1108 = .ok (.if_icmp .eq 5, 3) := by decide +kernel
theorem dL_law_1113 : decode cL_law 1113 = .ok (.iload 6, 2) := by decide +kernel
theorem dL_law_1115 : decode cL_law 1115 = .ok (.ifCond .ne 15, 3) := by decide +kernel
theorem dL_law_1130 : decode cL_law 1130 = .ok (.goto 833, 3) := by decide +kernel
theorem dL_law_1133 : decode cL_law 1133 = .ok (.aload_n 1, 1) := by decide +kernel
theorem dL_law_1134 : decode cL_law 1134 = .ok (.aload_n 0, 1) := by decide +kernel
theorem dL_law_1135 : decode cL_law 1135 = .ok (.iload 5, 2) := by decide +kernel
theorem dL_law_1137 : decode cL_law 1137 = .ok (.iconst 1, 1) := by decide +kernel
theorem dL_law_1138 : decode cL_law 1138 = .ok (.iadd, 1) := by decide +kernel
theorem dL_law_1139 : decode cL_law 1139 = .ok (.iaload, 1) := by decide +kernel
theorem dL_law_1140 : decode cL_law 1140 = .ok (.aload_n 3, 1) := by decide +kernel
theorem dL_law_1141 : decode cL_law 1141 = .ok (.invokestatic 180, 3) := by decide +kernel
theorem dL_gap_0 : decode cL_gap 0 = .ok (.aload_n 2, 1) := by decide +kernel
theorem dL_gap_1 : decode cL_gap 1 = .ok (.iconst 0, 1) := by decide +kernel
theorem dL_gap_2 : decode cL_gap 2 = .ok (.aload_n 0, 1) := by decide +kernel
theorem dL_gap_3 : decode cL_gap 3 = .ok (.iload_n 1, 1) := by decide +kernel
theorem dL_gap_4 : decode cL_gap 4 = .ok (.invokevirtual 68, 3) := by decide +kernel
theorem dX6_gap_0 : decode cX6_gap 0 = .ok (.aload_n 0, 1) := by decide +kernel
theorem dX6_gap_1 : decode cX6_gap 1 = .ok (.iload_n 1, 1) := by decide +kernel
theorem dX6_gap_2 : decode cX6_gap 2 = .ok (.invokevirtual 179, 3) := by decide +kernel
theorem dL_gap_12 : decode cL_gap 12 = .ok (.astore_n 3, 1) := by decide +kernel
theorem dL_gap_13 : decode cL_gap 13 = .ok (.iconst 1, 1) := by decide +kernel
theorem dL_gap_14 : decode cL_gap 14 = .ok (.ireturn, 1) := by decide +kernel
theorem dL_law_1144 : decode cL_law 1144 = .ok (.istore 6, 2) := by decide +kernel
theorem dL_law_1146 : decode cL_law 1146 = .ok (.aload_n 2, 1) := by decide +kernel
theorem dL_law_1147 : decode cL_law 1147 = .ok (.aload_n 0, 1) := by decide +kernel
theorem dL_law_1148 : decode cL_law 1148 = .ok (.iload 5, 2) := by decide +kernel
theorem dL_law_1150 : decode cL_law 1150 = .ok (.iconst 1, 1) := by decide +kernel
theorem dL_law_1151 : decode cL_law 1151 = .ok (.iadd, 1) := by decide +kernel
theorem dL_law_1152 : decode cL_law 1152 = .ok (.iaload, 1) := by decide +kernel
theorem dL_law_1153 : decode cL_law 1153 = .ok (.invokevirtual 182, 3) := by decide +kernel
theorem dX12_gap_0 : decode cX12_gap 0 = .ok (.aload_n 0, 1) := by decide +kernel
theorem dX12_gap_1 : decode cX12_gap 1 = .ok (.iload_n 1, 1) := by decide +kernel
theorem dX12_gap_2 : decode cX12_gap 2 = .ok (.invokevirtual 363, 3) := by decide +kernel
theorem dX12_gap_5 : decode cX12_gap 5 = .ok (.ifCond .eq 25, 3) := by decide +kernel
theorem dX12_gap_30 : decode cX12_gap 30 = .ok (.aload_n 0, 1) := by decide +kernel
theorem dX12_gap_31 : decode cX12_gap 31 = .ok (.iconst 1, 1) := by decide +kernel
theorem dX12_gap_32 : decode cX12_gap 32 = .ok (.invokevirtual 289, 3) := by decide +kernel
theorem dX12_gap_35 : decode cX12_gap 35 = .ok (.ireturn, 1) := by decide +kernel
theorem dL_law_1156 : decode cL_law 1156 = .ok (.istore 7, 2) := by decide +kernel
theorem dL_law_1158 : decode cL_law 1158 = .ok (.aload_n 2, 1) := by decide +kernel
theorem dL_law_1159 : decode cL_law 1159 = .ok (.invokevirtual 125, 3) := by decide +kernel
theorem dL_law_1162 : decode cL_law 1162 = .ok (.iload 6, 2) := by decide +kernel
theorem dL_law_1164 : decode cL_law 1164 = .ok (.if_icmp .eq 5, 3) := by decide +kernel
theorem dL_law_1169 : decode cL_law 1169 = .ok (.iload 6, 2) := by decide +kernel
theorem dL_law_1171 : decode cL_law 1171 = .ok (.ifCond .ne 15, 3) := by decide +kernel
theorem dL_law_1186 : decode cL_law 1186 = .ok (.goto 777, 3) := by decide +kernel
theorem dL_law_1189 : decode cL_law 1189 = .ok (.aload_n 1, 1) := by decide +kernel
theorem dL_law_1190 : decode cL_law 1190 = .ok (.aload_n 3, 1) := by decide +kernel
theorem dL_law_1191 : decode cL_law 1191 = .ok (.invokestatic 183, 3) := by decide +kernel
theorem dL_widest_0 : decode cL_widest 0 = .ok (.aload_n 1, 1) := by decide +kernel
theorem dL_widest_1 : decode cL_widest 1 = .ok (.iconst 0, 1) := by decide +kernel
theorem dL_widest_2 : decode cL_widest 2 = .ok (.aload_n 0, 1) := by decide +kernel
theorem dL_widest_3 : decode cL_widest 3 = .ok (.invokevirtual 71, 3) := by decide +kernel
theorem dX6_widest_0 : decode cX6_widest 0 = .ok (.aload_n 0, 1) := by decide +kernel
theorem dX6_widest_1 : decode cX6_widest 1 = .ok (.getfield 26, 3) := by decide +kernel
theorem dX6_widest_4 : decode cX6_widest 4 = .ok (.getfield 170, 3) := by decide +kernel
theorem dX6_widest_7 : decode cX6_widest 7 = .ok (.ifCond .ne 13, 3) := by decide +kernel
theorem dX6_widest_10 : decode cX6_widest 10 = .ok (.new 142, 3) := by decide +kernel
theorem dX6_widest_13 : decode cX6_widest 13 = .ok (.dup, 1) := by decide +kernel
theorem dX6_widest_14 : decode cX6_widest 14 = .ok (.ldc 206, 2) := by decide +kernel
theorem dX6_widest_16 : decode cX6_widest 16 = .ok (.invokespecial 146, 3) := by decide +kernel
theorem dX6_widest_19 : decode cX6_widest 19 = .ok (.athrow, 1) := by decide +kernel
theorem dL_widest_11 : decode cL_widest 11 = .ok (.astore_n 2, 1) := by decide +kernel
theorem dL_widest_12 : decode cL_widest 12 = .ok (.iconst 1, 1) := by decide +kernel
theorem dL_widest_13 : decode cL_widest 13 = .ok (.ireturn, 1) := by decide +kernel
theorem dL_law_1194 : decode cL_law 1194 = .ok (.istore 6, 2) := by decide +kernel
theorem dL_law_1196 : decode cL_law 1196 = .ok (.aload_n 2, 1) := by decide +kernel
theorem dL_law_1197 : decode cL_law 1197 = .ok (.invokevirtual 185, 3) := by decide +kernel
theorem dX12_widest_0 : decode cX12_widest 0 = .ok (.iconst (-1), 1) := by decide +kernel
theorem dX12_widest_1 : decode cX12_widest 1 = .ok (.istore_n 1, 1) := by decide +kernel
theorem dX12_widest_2 : decode cX12_widest 2 = .ok (.iconst 0, 1) := by decide +kernel
theorem dX12_widest_3 : decode cX12_widest 3 = .ok (.istore_n 2, 1) := by decide +kernel
theorem dX12_widest_4 : decode cX12_widest 4 = .ok (.iload_n 2, 1) := by decide +kernel
theorem dX12_widest_5 : decode cX12_widest 5 = .ok (.aload_n 0, 1) := by decide +kernel
theorem dX12_widest_6 : decode cX12_widest 6 = .ok (.getfield 19, 3) := by decide +kernel
theorem dX12_widest_9 : decode cX12_widest 9 = .ok (.invokevirtual 125, 3) := by decide +kernel
theorem dX12_widest_12 : decode cX12_widest 12 = .ok (.if_icmp .ge 49, 3) := by decide +kernel
theorem dX12_widest_61 : decode cX12_widest 61 = .ok (.iload_n 1, 1) := by decide +kernel
theorem dX12_widest_62 : decode cX12_widest 62 = .ok (.iconst (-1), 1) := by decide +kernel
theorem dX12_widest_63 : decode cX12_widest 63 = .ok (.if_icmp .ne 11, 3) := by decide +kernel
theorem dX12_widest_66 : decode cX12_widest 66 = .ok (.aload_n 0, 1) := by decide +kernel
theorem dX12_widest_67 : decode cX12_widest 67 = .ok (.iconst 1, 1) := by decide +kernel
theorem dX12_widest_68 : decode cX12_widest 68 = .ok (.invokevirtual 289, 3) := by decide +kernel
theorem dX12_widest_71 : decode cX12_widest 71 = .ok (.goto 8, 3) := by decide +kernel
theorem dX12_widest_79 : decode cX12_widest 79 = .ok (.ireturn, 1) := by decide +kernel
theorem dL_law_1200 : decode cL_law 1200 = .ok (.istore 7, 2) := by decide +kernel
theorem dL_law_1202 : decode cL_law 1202 = .ok (.aload_n 2, 1) := by decide +kernel
theorem dL_law_1203 : decode cL_law 1203 = .ok (.invokevirtual 125, 3) := by decide +kernel
theorem dL_law_1206 : decode cL_law 1206 = .ok (.iload 6, 2) := by decide +kernel
theorem dL_law_1208 : decode cL_law 1208 = .ok (.if_icmp .eq 5, 3) := by decide +kernel
theorem dL_law_1213 : decode cL_law 1213 = .ok (.iload 6, 2) := by decide +kernel
theorem dL_law_1215 : decode cL_law 1215 = .ok (.ifCond .ne 15, 3) := by decide +kernel
theorem dL_law_1230 : decode cL_law 1230 = .ok (.goto 733, 3) := by decide +kernel
theorem dL_law_1233 : decode cL_law 1233 = .ok (.aload_n 1, 1) := by decide +kernel
theorem dL_law_1234 : decode cL_law 1234 = .ok (.aload_n 0, 1) := by decide +kernel
theorem dL_law_1235 : decode cL_law 1235 = .ok (.iload 5, 2) := by decide +kernel
theorem dL_law_1237 : decode cL_law 1237 = .ok (.iconst 1, 1) := by decide +kernel
theorem dL_law_1238 : decode cL_law 1238 = .ok (.iadd, 1) := by decide +kernel
theorem dL_law_1239 : decode cL_law 1239 = .ok (.iaload, 1) := by decide +kernel
theorem dL_law_1240 : decode cL_law 1240 = .ok (.aload_n 0, 1) := by decide +kernel
theorem dL_law_1241 : decode cL_law 1241 = .ok (.iload 5, 2) := by decide +kernel
theorem dL_law_1243 : decode cL_law 1243 = .ok (.iconst 2, 1) := by decide +kernel
theorem dL_law_1244 : decode cL_law 1244 = .ok (.iadd, 1) := by decide +kernel
theorem dL_law_1245 : decode cL_law 1245 = .ok (.iaload, 1) := by decide +kernel
theorem dL_law_1246 : decode cL_law 1246 = .ok (.aload_n 0, 1) := by decide +kernel
theorem dL_law_1247 : decode cL_law 1247 = .ok (.iload 5, 2) := by decide +kernel
theorem dL_law_1249 : decode cL_law 1249 = .ok (.iconst 3, 1) := by decide +kernel
theorem dL_law_1250 : decode cL_law 1250 = .ok (.iadd, 1) := by decide +kernel
theorem dL_law_1251 : decode cL_law 1251 = .ok (.iaload, 1) := by decide +kernel
theorem dL_law_1252 : decode cL_law 1252 = .ok (.aload_n 3, 1) := by decide +kernel
theorem dL_law_1253 : decode cL_law 1253 = .ok (.invokestatic 186, 3) := by decide +kernel
theorem dL_stick_0 : decode cL_stick 0 = .ok (.aload 4, 2) := by decide +kernel
theorem dL_stick_2 : decode cL_stick 2 = .ok (.iconst 0, 1) := by decide +kernel
theorem dL_stick_3 : decode cL_stick 3 = .ok (.aload_n 0, 1) := by decide +kernel
theorem dL_stick_4 : decode cL_stick 4 = .ok (.iload_n 1, 1) := by decide +kernel
theorem dL_stick_5 : decode cL_stick 5 = .ok (.iload_n 2, 1) := by decide +kernel
theorem dL_stick_6 : decode cL_stick 6 = .ok (.iload_n 3, 1) := by decide +kernel
theorem dL_stick_7 : decode cL_stick 7 = .ok (.invokevirtual 74, 3) := by decide +kernel
theorem dX6_stick_0 : decode cX6_stick 0 = .ok (.iload_n 1, 1) := by decide +kernel
theorem dX6_stick_1 : decode cX6_stick 1 = .ok (.iconst 1, 1) := by decide +kernel
theorem dX6_stick_2 : decode cX6_stick 2 = .ok (.sipush 900, 3) := by decide +kernel
theorem dX6_stick_5 : decode cX6_stick 5 = .ok (.invokestatic 44, 3) := by decide +kernel
theorem dX6_stick_8 : decode cX6_stick 8 = .ok (.ifCond .eq 11, 3) := by decide +kernel
theorem dX6_stick_19 : decode cX6_stick 19 = .ok (.new 56, 3) := by decide +kernel
theorem dX6_stick_22 : decode cX6_stick 22 = .ok (.dup, 1) := by decide +kernel
theorem dX6_stick_23 : decode cX6_stick 23 = .ok (.ldc 208, 2) := by decide +kernel
theorem dX6_stick_25 : decode cX6_stick 25 = .ok (.invokespecial 60, 3) := by decide +kernel
theorem dX6_stick_28 : decode cX6_stick 28 = .ok (.athrow, 1) := by decide +kernel
theorem dL_stick_15 : decode cL_stick 15 = .ok (.astore 5, 2) := by decide +kernel
theorem dL_stick_17 : decode cL_stick 17 = .ok (.iconst 1, 1) := by decide +kernel
theorem dL_stick_18 : decode cL_stick 18 = .ok (.ireturn, 1) := by decide +kernel
theorem dL_law_1256 : decode cL_law 1256 = .ok (.istore 6, 2) := by decide +kernel
theorem dL_law_1258 : decode cL_law 1258 = .ok (.aload_n 2, 1) := by decide +kernel
theorem dL_law_1259 : decode cL_law 1259 = .ok (.aload_n 0, 1) := by decide +kernel
theorem dL_law_1260 : decode cL_law 1260 = .ok (.iload 5, 2) := by decide +kernel
theorem dL_law_1262 : decode cL_law 1262 = .ok (.iconst 1, 1) := by decide +kernel
theorem dL_law_1263 : decode cL_law 1263 = .ok (.iadd, 1) := by decide +kernel
theorem dL_law_1264 : decode cL_law 1264 = .ok (.iaload, 1) := by decide +kernel
theorem dL_law_1265 : decode cL_law 1265 = .ok (.aload_n 0, 1) := by decide +kernel
theorem dL_law_1266 : decode cL_law 1266 = .ok (.iload 5, 2) := by decide +kernel
theorem dL_law_1268 : decode cL_law 1268 = .ok (.iconst 2, 1) := by decide +kernel
theorem dL_law_1269 : decode cL_law 1269 = .ok (.iadd, 1) := by decide +kernel
theorem dL_law_1270 : decode cL_law 1270 = .ok (.iaload, 1) := by decide +kernel
theorem dL_law_1271 : decode cL_law 1271 = .ok (.aload_n 0, 1) := by decide +kernel
theorem dL_law_1272 : decode cL_law 1272 = .ok (.iload 5, 2) := by decide +kernel
theorem dL_law_1274 : decode cL_law 1274 = .ok (.iconst 3, 1) := by decide +kernel
theorem dL_law_1275 : decode cL_law 1275 = .ok (.iadd, 1) := by decide +kernel
theorem dL_law_1276 : decode cL_law 1276 = .ok (.iaload, 1) := by decide +kernel
theorem dL_law_1277 : decode cL_law 1277 = .ok (.invokevirtual 188, 3) := by decide +kernel
theorem dX12_stick_0 : decode cX12_stick 0 = .ok (.iload_n 1, 1) := by decide +kernel
theorem dX12_stick_1 : decode cX12_stick 1 = .ok (.i2l, 1) := by decide +kernel
theorem dX12_stick_2 : decode cX12_stick 2 = .ok (.iconst 1, 1) := by decide +kernel
theorem dX12_stick_3 : decode cX12_stick 3 = .ok (.sipush 900, 3) := by decide +kernel
theorem dX12_stick_6 : decode cX12_stick 6 = .ok (.invokestatic 285, 3) := by decide +kernel
theorem dX12_stick_9 : decode cX12_stick 9 = .ok (.ifCond .eq 25, 3) := by decide +kernel
theorem dX12_stick_34 : decode cX12_stick 34 = .ok (.aload_n 0, 1) := by decide +kernel
theorem dX12_stick_35 : decode cX12_stick 35 = .ok (.iconst 1, 1) := by decide +kernel
theorem dX12_stick_36 : decode cX12_stick 36 = .ok (.invokevirtual 289, 3) := by decide +kernel
theorem dX12_stick_39 : decode cX12_stick 39 = .ok (.ireturn, 1) := by decide +kernel
theorem dL_law_1280 : decode cL_law 1280 = .ok (.istore 7, 2) := by decide +kernel
theorem dL_law_1282 : decode cL_law 1282 = .ok (.aload_n 2, 1) := by decide +kernel
theorem dL_law_1283 : decode cL_law 1283 = .ok (.invokevirtual 125, 3) := by decide +kernel
theorem dL_law_1286 : decode cL_law 1286 = .ok (.iload 6, 2) := by decide +kernel
theorem dL_law_1288 : decode cL_law 1288 = .ok (.if_icmp .eq 5, 3) := by decide +kernel
theorem dL_law_1293 : decode cL_law 1293 = .ok (.iload 6, 2) := by decide +kernel
theorem dL_law_1295 : decode cL_law 1295 = .ok (.ifCond .ne 15, 3) := by decide +kernel
theorem dL_law_1310 : decode cL_law 1310 = .ok (.goto 653, 3) := by decide +kernel
theorem dX6_stick_11 : decode cX6_stick 11 = .ok (.iload_n 2, 1) := by decide +kernel
theorem dX6_stick_12 : decode cX6_stick 12 = .ok (.iload_n 3, 1) := by decide +kernel
theorem dX6_stick_13 : decode cX6_stick 13 = .ok (.invokestatic 88, 3) := by decide +kernel
theorem dX6_isSection_0 : decode cX6_isSection 0 = .ok (.iload_n 0, 1) := by decide +kernel
theorem dX6_isSection_1 : decode cX6_isSection 1 = .ok (.bipush 6, 2) := by decide +kernel
theorem dX6_isSection_3 : decode cX6_isSection 3 = .ok (.bipush 40, 2) := by decide +kernel
theorem dX6_isSection_5 : decode cX6_isSection 5 = .ok (.invokestatic 44, 3) := by decide +kernel
theorem dX6_isSection_8 : decode cX6_isSection 8 = .ok (.ifCond .eq 16, 3) := by decide +kernel
theorem dX6_isSection_24 : decode cX6_isSection 24 = .ok (.iconst 0, 1) := by decide +kernel
theorem dX6_isSection_25 : decode cX6_isSection 25 = .ok (.ireturn, 1) := by decide +kernel
theorem dX6_stick_16 : decode cX6_stick 16 = .ok (.ifCond .ne 13, 3) := by decide +kernel
theorem dX12_stick_12 : decode cX12_stick 12 = .ok (.iload_n 2, 1) := by decide +kernel
theorem dX12_stick_13 : decode cX12_stick 13 = .ok (.i2l, 1) := by decide +kernel
theorem dX12_stick_14 : decode cX12_stick 14 = .ok (.bipush 6, 2) := by decide +kernel
theorem dX12_stick_16 : decode cX12_stick 16 = .ok (.bipush 40, 2) := by decide +kernel
theorem dX12_stick_18 : decode cX12_stick 18 = .ok (.invokestatic 285, 3) := by decide +kernel
theorem dX12_stick_21 : decode cX12_stick 21 = .ok (.ifCond .eq 13, 3) := by decide +kernel
theorem dX6_isSection_11 : decode cX6_isSection 11 = .ok (.iload_n 1, 1) := by decide +kernel
theorem dX6_isSection_12 : decode cX6_isSection 12 = .ok (.iconst 0, 1) := by decide +kernel
theorem dX6_isSection_13 : decode cX6_isSection 13 = .ok (.iconst 3, 1) := by decide +kernel
theorem dX6_isSection_14 : decode cX6_isSection 14 = .ok (.invokestatic 44, 3) := by decide +kernel
theorem dX6_isSection_17 : decode cX6_isSection 17 = .ok (.ifCond .eq 7, 3) := by decide +kernel
theorem dX12_stick_24 : decode cX12_stick 24 = .ok (.iload_n 3, 1) := by decide +kernel
theorem dX12_stick_25 : decode cX12_stick 25 = .ok (.i2l, 1) := by decide +kernel
theorem dX12_stick_26 : decode cX12_stick 26 = .ok (.iconst 0, 1) := by decide +kernel
theorem dX12_stick_27 : decode cX12_stick 27 = .ok (.iconst 3, 1) := by decide +kernel
theorem dX12_stick_28 : decode cX12_stick 28 = .ok (.invokestatic 285, 3) := by decide +kernel
theorem dX12_stick_31 : decode cX12_stick 31 = .ok (.ifCond .ne 9, 3) := by decide +kernel
theorem dX6_isSection_20 : decode cX6_isSection 20 = .ok (.iconst 1, 1) := by decide +kernel
theorem dX6_isSection_21 : decode cX6_isSection 21 = .ok (.goto 4, 3) := by decide +kernel
theorem dX6_stick_29 : decode cX6_stick 29 = .ok (.aload_n 0, 1) := by decide +kernel
theorem dX6_stick_30 : decode cX6_stick 30 = .ok (.getfield 33, 3) := by decide +kernel
theorem dX6_stick_33 : decode cX6_stick 33 = .ok (.getfield 210, 3) := by decide +kernel
theorem dX6_stick_36 : decode cX6_stick 36 = .ok (.iconst 5, 1) := by decide +kernel
theorem dX6_stick_37 : decode cX6_stick 37 = .ok (.if_icmp .lt 13, 3) := by decide +kernel
theorem dX6_stick_50 : decode cX6_stick 50 = .ok (.aload_n 0, 1) := by decide +kernel
theorem dX6_stick_51 : decode cX6_stick 51 = .ok (.getfield 33, 3) := by decide +kernel
theorem dX6_stick_54 : decode cX6_stick 54 = .ok (.iconst 0, 1) := by decide +kernel
theorem dX6_stick_55 : decode cX6_stick 55 = .ok (.putfield 98, 3) := by decide +kernel
theorem dX6_stick_58 : decode cX6_stick 58 = .ok (.aload_n 0, 1) := by decide +kernel
theorem dX6_stick_59 : decode cX6_stick 59 = .ok (.getfield 33, 3) := by decide +kernel
theorem dX6_stick_62 : decode cX6_stick 62 = .ok (.iload_n 1, 1) := by decide +kernel
theorem dX6_stick_63 : decode cX6_stick 63 = .ok (.iload_n 2, 1) := by decide +kernel
theorem dX6_stick_64 : decode cX6_stick 64 = .ok (.iload_n 3, 1) := by decide +kernel
theorem dX6_stick_65 : decode cX6_stick 65 = .ok (.invokevirtual 213, 3) := by decide +kernel
theorem dX0_add_0 : decode cX0_add 0 = .ok (.aload_n 0, 1) := by decide +kernel
theorem dX0_add_1 : decode cX0_add 1 = .ok (.getfield 34, 3) := by decide +kernel
theorem dX0_add_4 : decode cX0_add 4 = .ok (.istore 4, 2) := by decide +kernel
theorem dX0_add_6 : decode cX0_add 6 = .ok (.aload_n 0, 1) := by decide +kernel
theorem dX0_add_7 : decode cX0_add 7 = .ok (.getfield 15, 3) := by decide +kernel
theorem dX0_add_10 : decode cX0_add 10 = .ok (.iload 4, 2) := by decide +kernel
theorem dX0_add_12 : decode cX0_add 12 = .ok (.iload_n 1, 1) := by decide +kernel
theorem dX0_add_13 : decode cX0_add 13 = .ok (.iastore, 1) := by decide +kernel
theorem dX0_add_14 : decode cX0_add 14 = .ok (.aload_n 0, 1) := by decide +kernel
theorem dX0_add_15 : decode cX0_add 15 = .ok (.getfield 18, 3) := by decide +kernel
theorem dX0_add_18 : decode cX0_add 18 = .ok (.iload 4, 2) := by decide +kernel
theorem dX0_add_20 : decode cX0_add 20 = .ok (.iload_n 2, 1) := by decide +kernel
theorem dX0_add_21 : decode cX0_add 21 = .ok (.iastore, 1) := by decide +kernel
theorem dX0_add_22 : decode cX0_add 22 = .ok (.aload_n 0, 1) := by decide +kernel
theorem dX0_add_23 : decode cX0_add 23 = .ok (.getfield 21, 3) := by decide +kernel
theorem dX0_add_26 : decode cX0_add 26 = .ok (.iload 4, 2) := by decide +kernel
theorem dX0_add_28 : decode cX0_add 28 = .ok (.iload_n 3, 1) := by decide +kernel
theorem dX0_add_29 : decode cX0_add 29 = .ok (.iastore, 1) := by decide +kernel
theorem dX0_add_30 : decode cX0_add 30 = .ok (.aload_n 0, 1) := by decide +kernel
theorem dX0_add_31 : decode cX0_add 31 = .ok (.iload 4, 2) := by decide +kernel
theorem dX0_add_33 : decode cX0_add 33 = .ok (.iconst 1, 1) := by decide +kernel
theorem dX0_add_34 : decode cX0_add 34 = .ok (.iadd, 1) := by decide +kernel
theorem dX0_add_35 : decode cX0_add 35 = .ok (.putfield 34, 3) := by decide +kernel
theorem dX0_add_38 : decode cX0_add 38 = .ok (.iload 4, 2) := by decide +kernel
theorem dX0_add_40 : decode cX0_add 40 = .ok (.ireturn, 1) := by decide +kernel
theorem dX6_stick_68 : decode cX6_stick 68 = .ok (.ireturn, 1) := by decide +kernel
theorem dL_stick_10 : decode cL_stick 10 = .ok (.i2l, 1) := by decide +kernel
theorem dL_stick_11 : decode cL_stick 11 = .ok (.lastore, 1) := by decide +kernel
theorem dL_stick_12 : decode cL_stick 12 = .ok (.goto 11, 3) := by decide +kernel
theorem dL_stick_23 : decode cL_stick 23 = .ok (.iconst 0, 1) := by decide +kernel
theorem dL_stick_24 : decode cL_stick 24 = .ok (.ireturn, 1) := by decide +kernel
theorem dX12_stick_40 : decode cX12_stick 40 = .ok (.aload_n 0, 1) := by decide +kernel
theorem dX12_stick_41 : decode cX12_stick 41 = .ok (.getfield 22, 3) := by decide +kernel
theorem dX12_stick_44 : decode cX12_stick 44 = .ok (.invokevirtual 125, 3) := by decide +kernel
theorem dX12_stick_47 : decode cX12_stick 47 = .ok (.iconst 5, 1) := by decide +kernel
theorem dX12_stick_48 : decode cX12_stick 48 = .ok (.if_icmp .ne 9, 3) := by decide +kernel
theorem dX12_stick_57 : decode cX12_stick 57 = .ok (.aload_n 0, 1) := by decide +kernel
theorem dX12_stick_58 : decode cX12_stick 58 = .ok (.getfield 22, 3) := by decide +kernel
theorem dX12_stick_61 : decode cX12_stick 61 = .ok (.new 239, 3) := by decide +kernel
theorem dX12_stick_64 : decode cX12_stick 64 = .ok (.dup, 1) := by decide +kernel
theorem dX12_stick_65 : decode cX12_stick 65 = .ok (.iload_n 1, 1) := by decide +kernel
theorem dX12_stick_66 : decode cX12_stick 66 = .ok (.iload_n 2, 1) := by decide +kernel
theorem dX12_stick_67 : decode cX12_stick 67 = .ok (.iload_n 3, 1) := by decide +kernel
theorem dX12_stick_68 : decode cX12_stick 68 = .ok (.invokespecial 386, 3) := by decide +kernel
theorem dX10_init_0 : decode cX10_init 0 = .ok (.aload_n 0, 1) := by decide +kernel
theorem dX10_init_1 : decode cX10_init 1 = .ok (.invokespecial 1, 3) := by decide +kernel
theorem dX10_init_4 : decode cX10_init 4 = .ok (.aload_n 0, 1) := by decide +kernel
theorem dX10_init_5 : decode cX10_init 5 = .ok (.iload_n 1, 1) := by decide +kernel
theorem dX10_init_6 : decode cX10_init 6 = .ok (.putfield 7, 3) := by decide +kernel
theorem dX10_init_9 : decode cX10_init 9 = .ok (.aload_n 0, 1) := by decide +kernel
theorem dX10_init_10 : decode cX10_init 10 = .ok (.iload_n 2, 1) := by decide +kernel
theorem dX10_init_11 : decode cX10_init 11 = .ok (.putfield 13, 3) := by decide +kernel
theorem dX10_init_14 : decode cX10_init 14 = .ok (.aload_n 0, 1) := by decide +kernel
theorem dX10_init_15 : decode cX10_init 15 = .ok (.iload_n 3, 1) := by decide +kernel
theorem dX10_init_16 : decode cX10_init 16 = .ok (.putfield 16, 3) := by decide +kernel
theorem dX10_init_19 : decode cX10_init 19 = .ok (.return_, 1) := by decide +kernel
theorem dX12_stick_71 : decode cX12_stick 71 = .ok (.invokevirtual 295, 3) := by decide +kernel
theorem dX12_stick_74 : decode cX12_stick 74 = .ok (.pop, 1) := by decide +kernel
theorem dX12_stick_75 : decode cX12_stick 75 = .ok (.aload_n 0, 1) := by decide +kernel
theorem dX12_stick_76 : decode cX12_stick 76 = .ok (.iconst 0, 1) := by decide +kernel
theorem dX12_stick_77 : decode cX12_stick 77 = .ok (.putfield 84, 3) := by decide +kernel
theorem dX12_stick_80 : decode cX12_stick 80 = .ok (.aload_n 0, 1) := by decide +kernel
theorem dX12_stick_81 : decode cX12_stick 81 = .ok (.aload_n 0, 1) := by decide +kernel
theorem dX12_stick_82 : decode cX12_stick 82 = .ok (.getfield 22, 3) := by decide +kernel
theorem dX12_stick_85 : decode cX12_stick 85 = .ok (.invokevirtual 125, 3) := by decide +kernel
theorem dX12_stick_88 : decode cX12_stick 88 = .ok (.iconst 1, 1) := by decide +kernel
theorem dX12_stick_89 : decode cX12_stick 89 = .ok (.isub, 1) := by decide +kernel
theorem dX12_stick_90 : decode cX12_stick 90 = .ok (.invokevirtual 302, 3) := by decide +kernel
theorem dX12_stick_93 : decode cX12_stick 93 = .ok (.ireturn, 1) := by decide +kernel
theorem dL_law_1298 : decode cL_law 1298 = .ok (.aload_n 3, 1) := by decide +kernel
theorem dL_law_1299 : decode cL_law 1299 = .ok (.iconst 0, 1) := by decide +kernel
theorem dL_law_1300 : decode cL_law 1300 = .ok (.laload, 1) := by decide +kernel
theorem dL_law_1301 : decode cL_law 1301 = .ok (.iload 7, 2) := by decide +kernel
theorem dL_law_1303 : decode cL_law 1303 = .ok (.i2l, 1) := by decide +kernel
theorem dL_law_1304 : decode cL_law 1304 = .ok (.lcmp, 1) := by decide +kernel
theorem dL_law_1305 : decode cL_law 1305 = .ok (.ifCond .eq 5, 3) := by decide +kernel
theorem dL_law_1313 : decode cL_law 1313 = .ok (.aload_n 1, 1) := by decide +kernel
theorem dL_law_1314 : decode cL_law 1314 = .ok (.aload_n 0, 1) := by decide +kernel
theorem dL_law_1315 : decode cL_law 1315 = .ok (.iload 5, 2) := by decide +kernel
theorem dL_law_1317 : decode cL_law 1317 = .ok (.iconst 1, 1) := by decide +kernel
theorem dL_law_1318 : decode cL_law 1318 = .ok (.iadd, 1) := by decide +kernel
theorem dL_law_1319 : decode cL_law 1319 = .ok (.iaload, 1) := by decide +kernel
theorem dL_law_1320 : decode cL_law 1320 = .ok (.aload_n 3, 1) := by decide +kernel
theorem dL_law_1321 : decode cL_law 1321 = .ok (.invokestatic 189, 3) := by decide +kernel
theorem dL_piece_0 : decode cL_piece 0 = .ok (.aload_n 2, 1) := by decide +kernel
theorem dL_piece_1 : decode cL_piece 1 = .ok (.iconst 0, 1) := by decide +kernel
theorem dL_piece_2 : decode cL_piece 2 = .ok (.aload_n 0, 1) := by decide +kernel
theorem dL_piece_3 : decode cL_piece 3 = .ok (.iload_n 1, 1) := by decide +kernel
theorem dL_piece_4 : decode cL_piece 4 = .ok (.invokevirtual 77, 3) := by decide +kernel
theorem dX6_piece_0 : decode cX6_piece 0 = .ok (.aload_n 0, 1) := by decide +kernel
theorem dX6_piece_1 : decode cX6_piece 1 = .ok (.iload_n 1, 1) := by decide +kernel
theorem dX6_piece_2 : decode cX6_piece 2 = .ok (.invokevirtual 118, 3) := by decide +kernel
theorem dL_piece_12 : decode cL_piece 12 = .ok (.astore_n 3, 1) := by decide +kernel
theorem dL_piece_13 : decode cL_piece 13 = .ok (.iconst 1, 1) := by decide +kernel
theorem dL_piece_14 : decode cL_piece 14 = .ok (.ireturn, 1) := by decide +kernel
theorem dL_law_1324 : decode cL_law 1324 = .ok (.istore 6, 2) := by decide +kernel
theorem dL_law_1326 : decode cL_law 1326 = .ok (.aload_n 2, 1) := by decide +kernel
theorem dL_law_1327 : decode cL_law 1327 = .ok (.aload_n 0, 1) := by decide +kernel
theorem dL_law_1328 : decode cL_law 1328 = .ok (.iload 5, 2) := by decide +kernel
theorem dL_law_1330 : decode cL_law 1330 = .ok (.iconst 1, 1) := by decide +kernel
theorem dL_law_1331 : decode cL_law 1331 = .ok (.iadd, 1) := by decide +kernel
theorem dL_law_1332 : decode cL_law 1332 = .ok (.iaload, 1) := by decide +kernel
theorem dL_law_1333 : decode cL_law 1333 = .ok (.invokevirtual 191, 3) := by decide +kernel
theorem dX12_piece_0 : decode cX12_piece 0 = .ok (.aload_n 0, 1) := by decide +kernel
theorem dX12_piece_1 : decode cX12_piece 1 = .ok (.iload_n 1, 1) := by decide +kernel
theorem dX12_piece_2 : decode cX12_piece 2 = .ok (.invokevirtual 314, 3) := by decide +kernel
theorem dX12_piece_5 : decode cX12_piece 5 = .ok (.ifCond .eq 15, 3) := by decide +kernel
theorem dX12_piece_20 : decode cX12_piece 20 = .ok (.aload_n 0, 1) := by decide +kernel
theorem dX12_piece_21 : decode cX12_piece 21 = .ok (.iconst 1, 1) := by decide +kernel
theorem dX12_piece_22 : decode cX12_piece 22 = .ok (.invokevirtual 289, 3) := by decide +kernel
theorem dX12_piece_25 : decode cX12_piece 25 = .ok (.ireturn, 1) := by decide +kernel
theorem dL_law_1336 : decode cL_law 1336 = .ok (.istore 7, 2) := by decide +kernel
theorem dL_law_1338 : decode cL_law 1338 = .ok (.aload_n 2, 1) := by decide +kernel
theorem dL_law_1339 : decode cL_law 1339 = .ok (.invokevirtual 125, 3) := by decide +kernel
theorem dL_law_1342 : decode cL_law 1342 = .ok (.iload 6, 2) := by decide +kernel
theorem dL_law_1344 : decode cL_law 1344 = .ok (.if_icmp .eq 5, 3) := by decide +kernel
theorem dL_law_1349 : decode cL_law 1349 = .ok (.iload 6, 2) := by decide +kernel
theorem dL_law_1351 : decode cL_law 1351 = .ok (.ifCond .ne 15, 3) := by decide +kernel
theorem dL_law_1366 : decode cL_law 1366 = .ok (.goto 597, 3) := by decide +kernel
theorem dL_law_1369 : decode cL_law 1369 = .ok (.aload_n 1, 1) := by decide +kernel
theorem dL_law_1370 : decode cL_law 1370 = .ok (.aload_n 0, 1) := by decide +kernel
theorem dL_law_1371 : decode cL_law 1371 = .ok (.iload 5, 2) := by decide +kernel
theorem dL_law_1373 : decode cL_law 1373 = .ok (.iconst 1, 1) := by decide +kernel
theorem dL_law_1374 : decode cL_law 1374 = .ok (.iadd, 1) := by decide +kernel
theorem dL_law_1375 : decode cL_law 1375 = .ok (.iaload, 1) := by decide +kernel
theorem dL_law_1376 : decode cL_law 1376 = .ok (.aload_n 3, 1) := by decide +kernel
theorem dL_law_1377 : decode cL_law 1377 = .ok (.invokestatic 192, 3) := by decide +kernel
theorem dL_stickOf_0 : decode cL_stickOf 0 = .ok (.aload_n 2, 1) := by decide +kernel
theorem dL_stickOf_1 : decode cL_stickOf 1 = .ok (.iconst 0, 1) := by decide +kernel
theorem dL_stickOf_2 : decode cL_stickOf 2 = .ok (.aload_n 0, 1) := by decide +kernel
theorem dL_stickOf_3 : decode cL_stickOf 3 = .ok (.iload_n 1, 1) := by decide +kernel
theorem dL_stickOf_4 : decode cL_stickOf 4 = .ok (.invokevirtual 80, 3) := by decide +kernel
theorem dX6_stickOf_0 : decode cX6_stickOf 0 = .ok (.aload_n 0, 1) := by decide +kernel
theorem dX6_stickOf_1 : decode cX6_stickOf 1 = .ok (.iload_n 1, 1) := by decide +kernel
theorem dX6_stickOf_2 : decode cX6_stickOf 2 = .ok (.invokevirtual 118, 3) := by decide +kernel
theorem dL_stickOf_12 : decode cL_stickOf 12 = .ok (.astore_n 3, 1) := by decide +kernel
theorem dL_stickOf_13 : decode cL_stickOf 13 = .ok (.iconst 1, 1) := by decide +kernel
theorem dL_stickOf_14 : decode cL_stickOf 14 = .ok (.ireturn, 1) := by decide +kernel
theorem dL_law_1380 : decode cL_law 1380 = .ok (.istore 6, 2) := by decide +kernel
theorem dL_law_1382 : decode cL_law 1382 = .ok (.aload_n 2, 1) := by decide +kernel
theorem dL_law_1383 : decode cL_law 1383 = .ok (.aload_n 0, 1) := by decide +kernel
theorem dL_law_1384 : decode cL_law 1384 = .ok (.iload 5, 2) := by decide +kernel
theorem dL_law_1386 : decode cL_law 1386 = .ok (.iconst 1, 1) := by decide +kernel
theorem dL_law_1387 : decode cL_law 1387 = .ok (.iadd, 1) := by decide +kernel
theorem dL_law_1388 : decode cL_law 1388 = .ok (.iaload, 1) := by decide +kernel
theorem dL_law_1389 : decode cL_law 1389 = .ok (.invokevirtual 194, 3) := by decide +kernel
theorem dX12_stickOf_0 : decode cX12_stickOf 0 = .ok (.aload_n 0, 1) := by decide +kernel
theorem dX12_stickOf_1 : decode cX12_stickOf 1 = .ok (.iload_n 1, 1) := by decide +kernel
theorem dX12_stickOf_2 : decode cX12_stickOf 2 = .ok (.invokevirtual 314, 3) := by decide +kernel
theorem dX12_stickOf_5 : decode cX12_stickOf 5 = .ok (.ifCond .ne 9, 3) := by decide +kernel
theorem dX12_stickOf_8 : decode cX12_stickOf 8 = .ok (.aload_n 0, 1) := by decide +kernel
theorem dX12_stickOf_9 : decode cX12_stickOf 9 = .ok (.iconst 1, 1) := by decide +kernel
theorem dX12_stickOf_10 : decode cX12_stickOf 10 = .ok (.invokevirtual 289, 3) := by decide +kernel
theorem dX12_stickOf_13 : decode cX12_stickOf 13 = .ok (.ireturn, 1) := by decide +kernel
theorem dL_law_1392 : decode cL_law 1392 = .ok (.istore 7, 2) := by decide +kernel
theorem dL_law_1394 : decode cL_law 1394 = .ok (.aload_n 2, 1) := by decide +kernel
theorem dL_law_1395 : decode cL_law 1395 = .ok (.invokevirtual 125, 3) := by decide +kernel
theorem dL_law_1398 : decode cL_law 1398 = .ok (.iload 6, 2) := by decide +kernel
theorem dL_law_1400 : decode cL_law 1400 = .ok (.if_icmp .eq 5, 3) := by decide +kernel
theorem dL_law_1405 : decode cL_law 1405 = .ok (.iload 6, 2) := by decide +kernel
theorem dL_law_1407 : decode cL_law 1407 = .ok (.ifCond .ne 15, 3) := by decide +kernel
theorem dL_law_1422 : decode cL_law 1422 = .ok (.goto 541, 3) := by decide +kernel
theorem dL_law_1425 : decode cL_law 1425 = .ok (.aload_n 1, 1) := by decide +kernel
theorem dL_law_1426 : decode cL_law 1426 = .ok (.aload_n 3, 1) := by decide +kernel
theorem dL_law_1427 : decode cL_law 1427 = .ok (.invokestatic 195, 3) := by decide +kernel
theorem dL_wood_0 : decode cL_wood 0 = .ok (.aload_n 1, 1) := by decide +kernel
theorem dL_wood_1 : decode cL_wood 1 = .ok (.iconst 0, 1) := by decide +kernel
theorem dL_wood_2 : decode cL_wood 2 = .ok (.aload_n 0, 1) := by decide +kernel
theorem dL_wood_3 : decode cL_wood 3 = .ok (.invokevirtual 83, 3) := by decide +kernel
theorem dX6_wood_0 : decode cX6_wood 0 = .ok (.aload_n 0, 1) := by decide +kernel
theorem dX6_wood_1 : decode cX6_wood 1 = .ok (.invokevirtual 219, 3) := by decide +kernel
theorem dX6_checkCut_0 : decode cX6_checkCut 0 = .ok (.aload_n 0, 1) := by decide +kernel
theorem dX6_checkCut_1 : decode cX6_checkCut 1 = .ok (.getfield 33, 3) := by decide +kernel
theorem dX6_checkCut_4 : decode cX6_checkCut 4 = .ok (.aload_n 0, 1) := by decide +kernel
theorem dX6_checkCut_5 : decode cX6_checkCut 5 = .ok (.getfield 12, 3) := by decide +kernel
theorem dX6_checkCut_8 : decode cX6_checkCut 8 = .ok (.aload_n 0, 1) := by decide +kernel
theorem dX6_checkCut_9 : decode cX6_checkCut 9 = .ok (.getfield 26, 3) := by decide +kernel
theorem dX6_checkCut_12 : decode cX6_checkCut 12 = .ok (.invokevirtual 290, 3) := by decide +kernel
theorem dX0_find_0 : decode cX0_find 0 = .ok (.aload_n 0, 1) := by decide +kernel
theorem dX0_find_1 : decode cX0_find 1 = .ok (.getfield 49, 3) := by decide +kernel
theorem dX0_find_4 : decode cX0_find 4 = .ok (.ifCond .eq 4, 3) := by decide +kernel
theorem dX0_find_8 : decode cX0_find 8 = .ok (.iconst 1, 1) := by decide +kernel
theorem dX0_find_9 : decode cX0_find 9 = .ok (.aload_n 1, 1) := by decide +kernel
theorem dX0_find_10 : decode cX0_find 10 = .ok (.getfield 53, 3) := by decide +kernel
theorem dX0_find_13 : decode cX0_find 13 = .ok (.ishl, 1) := by decide +kernel
theorem dX0_find_14 : decode cX0_find 14 = .ok (.istore_n 3, 1) := by decide +kernel
theorem dX0_find_15 : decode cX0_find 15 = .ok (.aload_n 0, 1) := by decide +kernel
theorem dX0_find_16 : decode cX0_find 16 = .ok (.aload_n 1, 1) := by decide +kernel
theorem dX0_find_17 : decode cX0_find 17 = .ok (.aload_n 2, 1) := by decide +kernel
theorem dX0_find_18 : decode cX0_find 18 = .ok (.invokevirtual 56, 3) := by decide +kernel
theorem dX0_measure_0 : decode cX0_measure 0 = .ok (.ldc 74, 2) := by decide +kernel
theorem dX0_measure_2 : decode cX0_measure 2 = .ok (.istore_n 3, 1) := by decide +kernel
theorem dX0_measure_3 : decode cX0_measure 3 = .ok (.iconst 0, 1) := by decide +kernel
theorem dX0_measure_4 : decode cX0_measure 4 = .ok (.istore 4, 2) := by decide +kernel
theorem dX0_measure_6 : decode cX0_measure 6 = .ok (.iload 4, 2) := by decide +kernel
theorem dX0_measure_8 : decode cX0_measure 8 = .ok (.aload_n 1, 1) := by decide +kernel
theorem dX0_measure_9 : decode cX0_measure 9 = .ok (.getfield 53, 3) := by decide +kernel
theorem dX0_measure_12 : decode cX0_measure 12 = .ok (.if_icmp .ge 89, 3) := by decide +kernel
theorem dX0_measure_101 : decode cX0_measure 101 = .ok (.return_, 1) := by decide +kernel
theorem dX0_find_21 : decode cX0_find 21 = .ok (.iconst 0, 1) := by decide +kernel
theorem dX0_find_22 : decode cX0_find 22 = .ok (.istore 4, 2) := by decide +kernel
theorem dX0_find_24 : decode cX0_find 24 = .ok (.iload 4, 2) := by decide +kernel
theorem dX0_find_26 : decode cX0_find 26 = .ok (.iload_n 3, 1) := by decide +kernel
theorem dX0_find_27 : decode cX0_find 27 = .ok (.if_icmp .ge 28, 3) := by decide +kernel
theorem dX0_find_30 : decode cX0_find 30 = .ok (.aload_n 0, 1) := by decide +kernel
theorem dX0_find_31 : decode cX0_find 31 = .ok (.getfield 30, 3) := by decide +kernel
theorem dX0_find_34 : decode cX0_find 34 = .ok (.iload 4, 2) := by decide +kernel
theorem dX0_find_36 : decode cX0_find 36 = .ok (.iload 4, 2) := by decide +kernel
theorem dX0_find_38 : decode cX0_find 38 = .ok (.ifCond .ne 7, 3) := by decide +kernel
theorem dX0_find_41 : decode cX0_find 41 = .ok (.lconst 0, 1) := by decide +kernel
theorem dX0_find_42 : decode cX0_find 42 = .ok (.goto 6, 3) := by decide +kernel
theorem dX0_find_48 : decode cX0_find 48 = .ok (.lastore, 1) := by decide +kernel
theorem dX0_find_49 : decode cX0_find 49 = .ok (.iinc 4 1, 3) := by decide +kernel
theorem dX0_find_52 : decode cX0_find 52 = .ok (.goto (-28), 3) := by decide +kernel
theorem dX0_find_55 : decode cX0_find 55 = .ok (.iconst 0, 1) := by decide +kernel
theorem dX0_find_56 : decode cX0_find 56 = .ok (.istore 4, 2) := by decide +kernel
theorem dX0_find_58 : decode cX0_find 58 = .ok (.iload 4, 2) := by decide +kernel
theorem dX0_find_60 : decode cX0_find 60 = .ok (.aload_n 0, 1) := by decide +kernel
theorem dX0_find_61 : decode cX0_find 61 = .ok (.getfield 34, 3) := by decide +kernel
theorem dX0_find_64 : decode cX0_find 64 = .ok (.if_icmp .ge 23, 3) := by decide +kernel
theorem dX0_find_87 : decode cX0_find 87 = .ok (.aload_n 0, 1) := by decide +kernel
theorem dX0_find_88 : decode cX0_find 88 = .ok (.aload_n 0, 1) := by decide +kernel
theorem dX0_find_89 : decode cX0_find 89 = .ok (.getfield 30, 3) := by decide +kernel
theorem dX0_find_92 : decode cX0_find 92 = .ok (.iload_n 3, 1) := by decide +kernel
theorem dX0_find_93 : decode cX0_find 93 = .ok (.iconst 1, 1) := by decide +kernel
theorem dX0_find_94 : decode cX0_find 94 = .ok (.isub, 1) := by decide +kernel
theorem dX0_find_95 : decode cX0_find 95 = .ok (.laload, 1) := by decide +kernel
theorem dX0_find_96 : decode cX0_find 96 = .ok (.invokevirtual 70, 3) := by decide +kernel
theorem dX0_choose_0 : decode cX0_choose 0 = .ok (.aload_n 0, 1) := by decide +kernel
theorem dX0_choose_1 : decode cX0_choose 1 = .ok (.lload_n 1, 1) := by decide +kernel
theorem dX0_choose_2 : decode cX0_choose 2 = .ok (.ldc2_w 60, 3) := by decide +kernel
theorem dX0_choose_5 : decode cX0_choose 5 = .ok (.lcmp, 1) := by decide +kernel
theorem dX0_choose_6 : decode cX0_choose 6 = .ok (.ifCond .eq 7, 3) := by decide +kernel
theorem dX0_choose_9 : decode cX0_choose 9 = .ok (.iconst 1, 1) := by decide +kernel
theorem dX0_choose_10 : decode cX0_choose 10 = .ok (.goto 4, 3) := by decide +kernel
theorem dX0_choose_14 : decode cX0_choose 14 = .ok (.putfield 89, 3) := by decide +kernel
theorem dX0_choose_17 : decode cX0_choose 17 = .ok (.aload_n 0, 1) := by decide +kernel
theorem dX0_choose_18 : decode cX0_choose 18 = .ok (.getfield 89, 3) := by decide +kernel
theorem dX0_choose_21 : decode cX0_choose 21 = .ok (.ifCond .ne 4, 3) := by decide +kernel
theorem dX0_choose_25 : decode cX0_choose 25 = .ok (.aload_n 0, 1) := by decide +kernel
theorem dX0_choose_26 : decode cX0_choose 26 = .ok (.lload_n 1, 1) := by decide +kernel
theorem dX0_choose_27 : decode cX0_choose 27 = .ok (.ldc2_w 81, 3) := by decide +kernel
theorem dX0_choose_30 : decode cX0_choose 30 = .ok (.ldiv, 1) := by decide +kernel
theorem dX0_choose_31 : decode cX0_choose 31 = .ok (.l2i, 1) := by decide +kernel
theorem dX0_choose_32 : decode cX0_choose 32 = .ok (.putfield 92, 3) := by decide +kernel
theorem dX0_choose_35 : decode cX0_choose 35 = .ok (.lload_n 1, 1) := by decide +kernel
theorem dX0_choose_36 : decode cX0_choose 36 = .ok (.ldc2_w 81, 3) := by decide +kernel
theorem dX0_choose_39 : decode cX0_choose 39 = .ok (.lrem, 1) := by decide +kernel
theorem dX0_choose_40 : decode cX0_choose 40 = .ok (.l2i, 1) := by decide +kernel
theorem dX0_choose_41 : decode cX0_choose 41 = .ok (.istore_n 3, 1) := by decide +kernel
theorem dX0_choose_42 : decode cX0_choose 42 = .ok (.bipush 8, 2) := by decide +kernel
theorem dX0_choose_44 : decode cX0_choose 44 = .ok (.istore 4, 2) := by decide +kernel
theorem dX0_choose_46 : decode cX0_choose 46 = .ok (.iload 4, 2) := by decide +kernel
theorem dX0_choose_48 : decode cX0_choose 48 = .ok (.ifCond .lt 23, 3) := by decide +kernel
theorem dX0_choose_51 : decode cX0_choose 51 = .ok (.aload_n 0, 1) := by decide +kernel
theorem dX0_choose_52 : decode cX0_choose 52 = .ok (.getfield 9, 3) := by decide +kernel
theorem dX0_choose_55 : decode cX0_choose 55 = .ok (.iload 4, 2) := by decide +kernel
theorem dX0_choose_57 : decode cX0_choose 57 = .ok (.iload_n 3, 1) := by decide +kernel
theorem dX0_choose_58 : decode cX0_choose 58 = .ok (.iconst 5, 1) := by decide +kernel
theorem dX0_choose_59 : decode cX0_choose 59 = .ok (.irem, 1) := by decide +kernel
theorem dX0_choose_60 : decode cX0_choose 60 = .ok (.iastore, 1) := by decide +kernel
theorem dX0_choose_61 : decode cX0_choose 61 = .ok (.iload_n 3, 1) := by decide +kernel
theorem dX0_choose_62 : decode cX0_choose 62 = .ok (.iconst 5, 1) := by decide +kernel
theorem dX0_choose_63 : decode cX0_choose 63 = .ok (.idiv, 1) := by decide +kernel
theorem dX0_choose_64 : decode cX0_choose 64 = .ok (.istore_n 3, 1) := by decide +kernel
theorem dX0_choose_65 : decode cX0_choose 65 = .ok (.iinc 4 (-1), 3) := by decide +kernel
theorem dX0_choose_68 : decode cX0_choose 68 = .ok (.goto (-22), 3) := by decide +kernel
theorem dX0_choose_71 : decode cX0_choose 71 = .ok (.return_, 1) := by decide +kernel
theorem dX0_find_99 : decode cX0_find 99 = .ok (.aload_n 0, 1) := by decide +kernel
theorem dX0_find_100 : decode cX0_find 100 = .ok (.iconst 1, 1) := by decide +kernel
theorem dX0_find_101 : decode cX0_find 101 = .ok (.putfield 49, 3) := by decide +kernel
theorem dX0_find_104 : decode cX0_find 104 = .ok (.return_, 1) := by decide +kernel
theorem dX6_checkCut_15 : decode cX6_checkCut 15 = .ok (.aload_n 0, 1) := by decide +kernel
theorem dX6_checkCut_16 : decode cX6_checkCut 16 = .ok (.getfield 33, 3) := by decide +kernel
theorem dX6_checkCut_19 : decode cX6_checkCut 19 = .ok (.getfield 291, 3) := by decide +kernel
theorem dX6_checkCut_22 : decode cX6_checkCut 22 = .ok (.ifCond .ne 14, 3) := by decide +kernel
theorem dX6_checkCut_36 : decode cX6_checkCut 36 = .ok (.return_, 1) := by decide +kernel
theorem dX6_wood_4 : decode cX6_wood 4 = .ok (.aload_n 0, 1) := by decide +kernel
theorem dX6_wood_5 : decode cX6_wood 5 = .ok (.getfield 33, 3) := by decide +kernel
theorem dX6_wood_8 : decode cX6_wood 8 = .ok (.getfield 225, 3) := by decide +kernel
theorem dX6_wood_11 : decode cX6_wood 11 = .ok (.ireturn, 1) := by decide +kernel
theorem dL_wood_6 : decode cL_wood 6 = .ok (.i2l, 1) := by decide +kernel
theorem dL_wood_7 : decode cL_wood 7 = .ok (.lastore, 1) := by decide +kernel
theorem dL_wood_8 : decode cL_wood 8 = .ok (.goto 6, 3) := by decide +kernel
theorem dL_wood_14 : decode cL_wood 14 = .ok (.iconst 0, 1) := by decide +kernel
theorem dL_wood_15 : decode cL_wood 15 = .ok (.ireturn, 1) := by decide +kernel
theorem dL_law_1430 : decode cL_law 1430 = .ok (.istore 6, 2) := by decide +kernel
theorem dL_law_1432 : decode cL_law 1432 = .ok (.aload_n 2, 1) := by decide +kernel
theorem dL_law_1433 : decode cL_law 1433 = .ok (.invokevirtual 197, 3) := by decide +kernel
theorem dX12_wood_0 : decode cX12_wood 0 = .ok (.aload_n 0, 1) := by decide +kernel
theorem dX12_wood_1 : decode cX12_wood 1 = .ok (.invokevirtual 389, 3) := by decide +kernel
theorem dX12_areCut_0 : decode cX12_areCut 0 = .ok (.aload_n 0, 1) := by decide +kernel
theorem dX12_areCut_1 : decode cX12_areCut 1 = .ok (.invokevirtual 282, 3) := by decide +kernel
theorem dX12_saws_0 : decode cX12_saws 0 = .ok (.aload_n 0, 1) := by decide +kernel
theorem dX12_saws_1 : decode cX12_saws 1 = .ok (.getfield 84, 3) := by decide +kernel
theorem dX12_saws_4 : decode cX12_saws 4 = .ok (.ifCond .eq 4, 3) := by decide +kernel
theorem dX12_saws_8 : decode cX12_saws 8 = .ok (.aload_n 0, 1) := by decide +kernel
theorem dX12_saws_9 : decode cX12_saws 9 = .ok (.iconst 1, 1) := by decide +kernel
theorem dX12_saws_10 : decode cX12_saws 10 = .ok (.putfield 84, 3) := by decide +kernel
theorem dX12_saws_13 : decode cX12_saws 13 = .ok (.aload_n 0, 1) := by decide +kernel
theorem dX12_saws_14 : decode cX12_saws 14 = .ok (.iconst (-1), 1) := by decide +kernel
theorem dX12_saws_15 : decode cX12_saws 15 = .ok (.putfield 268, 3) := by decide +kernel
theorem dX12_saws_18 : decode cX12_saws 18 = .ok (.aload_n 0, 1) := by decide +kernel
theorem dX12_saws_19 : decode cX12_saws 19 = .ok (.invokevirtual 271, 3) := by decide +kernel
theorem dX12_sums_0 : decode cX12_sums 0 = .ok (.iconst 0, 1) := by decide +kernel
theorem dX12_sums_1 : decode cX12_sums 1 = .ok (.istore_n 1, 1) := by decide +kernel
theorem dX12_sums_2 : decode cX12_sums 2 = .ok (.iload_n 1, 1) := by decide +kernel
theorem dX12_sums_3 : decode cX12_sums 3 = .ok (.aload_n 0, 1) := by decide +kernel
theorem dX12_sums_4 : decode cX12_sums 4 = .ok (.getfield 16, 3) := by decide +kernel
theorem dX12_sums_7 : decode cX12_sums 7 = .ok (.invokevirtual 125, 3) := by decide +kernel
theorem dX12_sums_10 : decode cX12_sums 10 = .ok (.if_icmp .ge 22, 3) := by decide +kernel
theorem dX12_sums_32 : decode cX12_sums 32 = .ok (.iconst 1, 1) := by decide +kernel
theorem dX12_sums_33 : decode cX12_sums 33 = .ok (.istore_n 1, 1) := by decide +kernel
theorem dX12_sums_34 : decode cX12_sums 34 = .ok (.iload_n 1, 1) := by decide +kernel
theorem dX12_sums_35 : decode cX12_sums 35 = .ok (.iconst 1, 1) := by decide +kernel
theorem dX12_sums_36 : decode cX12_sums 36 = .ok (.aload_n 0, 1) := by decide +kernel
theorem dX12_sums_37 : decode cX12_sums 37 = .ok (.getfield 16, 3) := by decide +kernel
theorem dX12_sums_40 : decode cX12_sums 40 = .ok (.invokevirtual 125, 3) := by decide +kernel
theorem dX12_sums_43 : decode cX12_sums 43 = .ok (.ishl, 1) := by decide +kernel
theorem dX12_sums_44 : decode cX12_sums 44 = .ok (.if_icmp .ge 97, 3) := by decide +kernel
theorem dX12_sums_141 : decode cX12_sums 141 = .ok (.return_, 1) := by decide +kernel
theorem dX12_saws_22 : decode cX12_saws 22 = .ok (.iconst 0, 1) := by decide +kernel
theorem dX12_saws_23 : decode cX12_saws 23 = .ok (.istore_n 1, 1) := by decide +kernel
theorem dX12_saws_24 : decode cX12_saws 24 = .ok (.iload_n 1, 1) := by decide +kernel
theorem dX12_saws_25 : decode cX12_saws 25 = .ok (.iconst 1, 1) := by decide +kernel
theorem dX12_saws_26 : decode cX12_saws 26 = .ok (.aload_n 0, 1) := by decide +kernel
theorem dX12_saws_27 : decode cX12_saws 27 = .ok (.getfield 22, 3) := by decide +kernel
theorem dX12_saws_30 : decode cX12_saws 30 = .ok (.invokevirtual 125, 3) := by decide +kernel
theorem dX12_saws_33 : decode cX12_saws 33 = .ok (.ishl, 1) := by decide +kernel
theorem dX12_saws_34 : decode cX12_saws 34 = .ok (.if_icmp .ge 178, 3) := by decide +kernel
theorem dX12_saws_37 : decode cX12_saws 37 = .ok (.iconst 0, 1) := by decide +kernel
theorem dX12_saws_38 : decode cX12_saws 38 = .ok (.istore_n 2, 1) := by decide +kernel
theorem dX12_saws_39 : decode cX12_saws 39 = .ok (.iconst 0, 1) := by decide +kernel
theorem dX12_saws_40 : decode cX12_saws 40 = .ok (.istore_n 3, 1) := by decide +kernel
theorem dX12_saws_41 : decode cX12_saws 41 = .ok (.iload_n 3, 1) := by decide +kernel
theorem dX12_saws_42 : decode cX12_saws 42 = .ok (.aload_n 0, 1) := by decide +kernel
theorem dX12_saws_43 : decode cX12_saws 43 = .ok (.getfield 22, 3) := by decide +kernel
theorem dX12_saws_46 : decode cX12_saws 46 = .ok (.invokevirtual 125, 3) := by decide +kernel
theorem dX12_saws_49 : decode cX12_saws 49 = .ok (.if_icmp .ge 59, 3) := by decide +kernel
theorem dX12_saws_108 : decode cX12_saws 108 = .ok (.aload_n 0, 1) := by decide +kernel
theorem dX12_saws_109 : decode cX12_saws 109 = .ok (.getfield 268, 3) := by decide +kernel
theorem dX12_saws_112 : decode cX12_saws 112 = .ok (.iconst (-1), 1) := by decide +kernel
theorem dX12_saws_113 : decode cX12_saws 113 = .ok (.if_icmp .eq 11, 3) := by decide +kernel
theorem dX12_saws_124 : decode cX12_saws 124 = .ok (.aload_n 0, 1) := by decide +kernel
theorem dX12_saws_125 : decode cX12_saws 125 = .ok (.iload_n 1, 1) := by decide +kernel
theorem dX12_saws_126 : decode cX12_saws 126 = .ok (.invokevirtual 274, 3) := by decide +kernel
theorem dX12_areEnough_0 : decode cX12_areEnough 0 = .ok (.iconst 1, 1) := by decide +kernel
theorem dX12_areEnough_1 : decode cX12_areEnough 1 = .ok (.aload_n 0, 1) := by decide +kernel
theorem dX12_areEnough_2 : decode cX12_areEnough 2 = .ok (.getfield 16, 3) := by decide +kernel
theorem dX12_areEnough_5 : decode cX12_areEnough 5 = .ok (.invokevirtual 125, 3) := by decide +kernel
theorem dX12_areEnough_8 : decode cX12_areEnough 8 = .ok (.ishl, 1) := by decide +kernel
theorem dX12_areEnough_9 : decode cX12_areEnough 9 = .ok (.iconst 1, 1) := by decide +kernel
theorem dX12_areEnough_10 : decode cX12_areEnough 10 = .ok (.isub, 1) := by decide +kernel
theorem dX12_areEnough_11 : decode cX12_areEnough 11 = .ok (.istore_n 2, 1) := by decide +kernel
theorem dX12_areEnough_12 : decode cX12_areEnough 12 = .ok (.iconst 0, 1) := by decide +kernel
theorem dX12_areEnough_13 : decode cX12_areEnough 13 = .ok (.istore_n 3, 1) := by decide +kernel
theorem dX12_areEnough_14 : decode cX12_areEnough 14 = .ok (.iload_n 3, 1) := by decide +kernel
theorem dX12_areEnough_15 : decode cX12_areEnough 15 = .ok (.iload_n 2, 1) := by decide +kernel
theorem dX12_areEnough_16 : decode cX12_areEnough 16 = .ok (.if_icmp .gt 24, 3) := by decide +kernel
theorem dX12_areEnough_19 : decode cX12_areEnough 19 = .ok (.aload_n 0, 1) := by decide +kernel
theorem dX12_areEnough_20 : decode cX12_areEnough 20 = .ok (.getfield 39, 3) := by decide +kernel
theorem dX12_areEnough_23 : decode cX12_areEnough 23 = .ok (.iload_n 3, 1) := by decide +kernel
theorem dX12_areEnough_24 : decode cX12_areEnough 24 = .ok (.iload_n 3, 1) := by decide +kernel
theorem dX12_areEnough_25 : decode cX12_areEnough 25 = .ok (.ifCond .ne 7, 3) := by decide +kernel
theorem dX12_areEnough_28 : decode cX12_areEnough 28 = .ok (.iconst 1, 1) := by decide +kernel
theorem dX12_areEnough_29 : decode cX12_areEnough 29 = .ok (.goto 4, 3) := by decide +kernel
theorem dX12_areEnough_33 : decode cX12_areEnough 33 = .ok (.bastore, 1) := by decide +kernel
theorem dX12_areEnough_34 : decode cX12_areEnough 34 = .ok (.iinc 3 1, 3) := by decide +kernel
theorem dX12_areEnough_37 : decode cX12_areEnough 37 = .ok (.goto (-23), 3) := by decide +kernel
theorem dX12_areEnough_40 : decode cX12_areEnough 40 = .ok (.iconst 0, 1) := by decide +kernel
theorem dX12_areEnough_41 : decode cX12_areEnough 41 = .ok (.istore_n 3, 1) := by decide +kernel
theorem dX12_areEnough_42 : decode cX12_areEnough 42 = .ok (.iload_n 3, 1) := by decide +kernel
theorem dX12_areEnough_43 : decode cX12_areEnough 43 = .ok (.aload_n 0, 1) := by decide +kernel
theorem dX12_areEnough_44 : decode cX12_areEnough 44 = .ok (.getfield 22, 3) := by decide +kernel
theorem dX12_areEnough_47 : decode cX12_areEnough 47 = .ok (.invokevirtual 125, 3) := by decide +kernel
theorem dX12_areEnough_50 : decode cX12_areEnough 50 = .ok (.if_icmp .ge 76, 3) := by decide +kernel
theorem dX12_areEnough_126 : decode cX12_areEnough 126 = .ok (.aload_n 0, 1) := by decide +kernel
theorem dX12_areEnough_127 : decode cX12_areEnough 127 = .ok (.getfield 39, 3) := by decide +kernel
theorem dX12_areEnough_130 : decode cX12_areEnough 130 = .ok (.iload_n 2, 1) := by decide +kernel
theorem dX12_areEnough_131 : decode cX12_areEnough 131 = .ok (.baload, 1) := by decide +kernel
theorem dX12_areEnough_132 : decode cX12_areEnough 132 = .ok (.ireturn, 1) := by decide +kernel
theorem dX12_saws_129 : decode cX12_saws 129 = .ok (.ifCond .eq 77, 3) := by decide +kernel
theorem dX12_saws_132 : decode cX12_saws 132 = .ok (.aload_n 0, 1) := by decide +kernel
theorem dX12_saws_133 : decode cX12_saws 133 = .ok (.iload_n 1, 1) := by decide +kernel
theorem dX12_saws_134 : decode cX12_saws 134 = .ok (.iconst 0, 1) := by decide +kernel
theorem dX12_saws_135 : decode cX12_saws 135 = .ok (.invokevirtual 249, 3) := by decide +kernel
theorem dX12_cuts_0 : decode cX12_cuts 0 = .ok (.iload_n 2, 1) := by decide +kernel
theorem dX12_cuts_1 : decode cX12_cuts 1 = .ok (.aload_n 0, 1) := by decide +kernel
theorem dX12_cuts_2 : decode cX12_cuts 2 = .ok (.getfield 16, 3) := by decide +kernel
theorem dX12_cuts_5 : decode cX12_cuts 5 = .ok (.invokevirtual 125, 3) := by decide +kernel
theorem dX12_cuts_8 : decode cX12_cuts 8 = .ok (.if_icmp .ne 5, 3) := by decide +kernel
theorem dX12_cuts_11 : decode cX12_cuts 11 = .ok (.iconst 1, 1) := by decide +kernel
theorem dX12_cuts_12 : decode cX12_cuts 12 = .ok (.ireturn, 1) := by decide +kernel
theorem dX12_saws_138 : decode cX12_saws 138 = .ok (.ifCond .ne 6, 3) := by decide +kernel
theorem dX12_saws_144 : decode cX12_saws 144 = .ok (.aload_n 0, 1) := by decide +kernel
theorem dX12_saws_145 : decode cX12_saws 145 = .ok (.getfield 268, 3) := by decide +kernel
theorem dX12_saws_148 : decode cX12_saws 148 = .ok (.iconst (-1), 1) := by decide +kernel
theorem dX12_saws_149 : decode cX12_saws 149 = .ok (.if_icmp .eq 21, 3) := by decide +kernel
theorem dX12_saws_170 : decode cX12_saws 170 = .ok (.aload_n 0, 1) := by decide +kernel
theorem dX12_saws_171 : decode cX12_saws 171 = .ok (.iload_n 2, 1) := by decide +kernel
theorem dX12_saws_172 : decode cX12_saws 172 = .ok (.putfield 268, 3) := by decide +kernel
theorem dX12_saws_175 : decode cX12_saws 175 = .ok (.iconst 0, 1) := by decide +kernel
theorem dX12_saws_176 : decode cX12_saws 176 = .ok (.istore_n 3, 1) := by decide +kernel
theorem dX12_saws_177 : decode cX12_saws 177 = .ok (.iload_n 3, 1) := by decide +kernel
theorem dX12_saws_178 : decode cX12_saws 178 = .ok (.aload_n 0, 1) := by decide +kernel
theorem dX12_saws_179 : decode cX12_saws 179 = .ok (.getfield 16, 3) := by decide +kernel
theorem dX12_saws_182 : decode cX12_saws 182 = .ok (.invokevirtual 125, 3) := by decide +kernel
theorem dX12_saws_185 : decode cX12_saws 185 = .ok (.if_icmp .ge 21, 3) := by decide +kernel
theorem dX12_saws_206 : decode cX12_saws 206 = .ok (.iinc 1 1, 3) := by decide +kernel
theorem dX12_saws_209 : decode cX12_saws 209 = .ok (.goto (-185), 3) := by decide +kernel
theorem dX12_saws_212 : decode cX12_saws 212 = .ok (.return_, 1) := by decide +kernel
theorem dX12_areCut_4 : decode cX12_areCut 4 = .ok (.aload_n 0, 1) := by decide +kernel
theorem dX12_areCut_5 : decode cX12_areCut 5 = .ok (.getfield 268, 3) := by decide +kernel
theorem dX12_areCut_8 : decode cX12_areCut 8 = .ok (.iconst (-1), 1) := by decide +kernel
theorem dX12_areCut_9 : decode cX12_areCut 9 = .ok (.if_icmp .eq 7, 3) := by decide +kernel
theorem dX12_areCut_12 : decode cX12_areCut 12 = .ok (.iconst 1, 1) := by decide +kernel
theorem dX12_areCut_13 : decode cX12_areCut 13 = .ok (.goto 4, 3) := by decide +kernel
theorem dX12_areCut_17 : decode cX12_areCut 17 = .ok (.ireturn, 1) := by decide +kernel
theorem dX12_wood_4 : decode cX12_wood 4 = .ok (.ifCond .eq 14, 3) := by decide +kernel
theorem dX12_wood_7 : decode cX12_wood 7 = .ok (.aload_n 0, 1) := by decide +kernel
theorem dX12_wood_8 : decode cX12_wood 8 = .ok (.aload_n 0, 1) := by decide +kernel
theorem dX12_wood_9 : decode cX12_wood 9 = .ok (.getfield 268, 3) := by decide +kernel
theorem dX12_wood_12 : decode cX12_wood 12 = .ok (.invokevirtual 302, 3) := by decide +kernel
theorem dX12_wood_15 : decode cX12_wood 15 = .ok (.goto 8, 3) := by decide +kernel
theorem dX12_wood_23 : decode cX12_wood 23 = .ok (.ireturn, 1) := by decide +kernel
theorem dL_law_1436 : decode cL_law 1436 = .ok (.istore 7, 2) := by decide +kernel
theorem dL_law_1438 : decode cL_law 1438 = .ok (.aload_n 2, 1) := by decide +kernel
theorem dL_law_1439 : decode cL_law 1439 = .ok (.invokevirtual 125, 3) := by decide +kernel
theorem dL_law_1442 : decode cL_law 1442 = .ok (.iload 6, 2) := by decide +kernel
theorem dL_law_1444 : decode cL_law 1444 = .ok (.if_icmp .eq 5, 3) := by decide +kernel
theorem dL_law_1449 : decode cL_law 1449 = .ok (.iload 6, 2) := by decide +kernel
theorem dL_law_1451 : decode cL_law 1451 = .ok (.ifCond .ne 15, 3) := by decide +kernel
theorem dL_law_1454 : decode cL_law 1454 = .ok (.aload_n 3, 1) := by decide +kernel
theorem dL_law_1455 : decode cL_law 1455 = .ok (.iconst 0, 1) := by decide +kernel
theorem dL_law_1456 : decode cL_law 1456 = .ok (.laload, 1) := by decide +kernel
theorem dL_law_1457 : decode cL_law 1457 = .ok (.iload 7, 2) := by decide +kernel
theorem dL_law_1459 : decode cL_law 1459 = .ok (.i2l, 1) := by decide +kernel
theorem dL_law_1460 : decode cL_law 1460 = .ok (.lcmp, 1) := by decide +kernel
theorem dL_law_1461 : decode cL_law 1461 = .ok (.ifCond .eq 5, 3) := by decide +kernel
theorem dL_law_1466 : decode cL_law 1466 = .ok (.goto 497, 3) := by decide +kernel
theorem dL_law_1469 : decode cL_law 1469 = .ok (.aload_n 1, 1) := by decide +kernel
theorem dL_law_1470 : decode cL_law 1470 = .ok (.aload_n 0, 1) := by decide +kernel
theorem dL_law_1471 : decode cL_law 1471 = .ok (.iload 5, 2) := by decide +kernel
theorem dL_law_1473 : decode cL_law 1473 = .ok (.iconst 1, 1) := by decide +kernel
theorem dL_law_1474 : decode cL_law 1474 = .ok (.iadd, 1) := by decide +kernel
theorem dL_law_1475 : decode cL_law 1475 = .ok (.iaload, 1) := by decide +kernel
theorem dL_law_1476 : decode cL_law 1476 = .ok (.aload_n 3, 1) := by decide +kernel
theorem dL_law_1477 : decode cL_law 1477 = .ok (.invokestatic 198, 3) := by decide +kernel
theorem dL_waste_0 : decode cL_waste 0 = .ok (.aload_n 2, 1) := by decide +kernel
theorem dL_waste_1 : decode cL_waste 1 = .ok (.iconst 0, 1) := by decide +kernel
theorem dL_waste_2 : decode cL_waste 2 = .ok (.aload_n 0, 1) := by decide +kernel
theorem dL_waste_3 : decode cL_waste 3 = .ok (.iload_n 1, 1) := by decide +kernel
theorem dL_waste_4 : decode cL_waste 4 = .ok (.invokevirtual 86, 3) := by decide +kernel
theorem dX6_waste_0 : decode cX6_waste 0 = .ok (.iload_n 1, 1) := by decide +kernel
theorem dX6_waste_1 : decode cX6_waste 1 = .ok (.ifCond .lt 14, 3) := by decide +kernel
theorem dX6_waste_15 : decode cX6_waste 15 = .ok (.new 228, 3) := by decide +kernel
theorem dX6_waste_18 : decode cX6_waste 18 = .ok (.dup, 1) := by decide +kernel
theorem dX6_waste_19 : decode cX6_waste 19 = .ok (.ldc 230, 2) := by decide +kernel
theorem dX6_waste_21 : decode cX6_waste 21 = .ok (.invokespecial 232, 3) := by decide +kernel
theorem dX6_waste_24 : decode cX6_waste 24 = .ok (.athrow, 1) := by decide +kernel
theorem dL_waste_12 : decode cL_waste 12 = .ok (.astore_n 3, 1) := by decide +kernel
theorem dL_waste_13 : decode cL_waste 13 = .ok (.iconst 1, 1) := by decide +kernel
theorem dL_waste_14 : decode cL_waste 14 = .ok (.ireturn, 1) := by decide +kernel
theorem dL_law_1480 : decode cL_law 1480 = .ok (.istore 6, 2) := by decide +kernel
theorem dL_law_1482 : decode cL_law 1482 = .ok (.aload_n 2, 1) := by decide +kernel
theorem dL_law_1483 : decode cL_law 1483 = .ok (.aload_n 0, 1) := by decide +kernel
theorem dL_law_1484 : decode cL_law 1484 = .ok (.iload 5, 2) := by decide +kernel
theorem dL_law_1486 : decode cL_law 1486 = .ok (.iconst 1, 1) := by decide +kernel
theorem dL_law_1487 : decode cL_law 1487 = .ok (.iadd, 1) := by decide +kernel
theorem dL_law_1488 : decode cL_law 1488 = .ok (.iaload, 1) := by decide +kernel
theorem dL_law_1489 : decode cL_law 1489 = .ok (.invokevirtual 200, 3) := by decide +kernel
theorem dX12_waste_0 : decode cX12_waste 0 = .ok (.iload_n 1, 1) := by decide +kernel
theorem dX12_waste_1 : decode cX12_waste 1 = .ok (.i2l, 1) := by decide +kernel
theorem dX12_waste_2 : decode cX12_waste 2 = .ok (.iconst 0, 1) := by decide +kernel
theorem dX12_waste_3 : decode cX12_waste 3 = .ok (.aload_n 0, 1) := by decide +kernel
theorem dX12_waste_4 : decode cX12_waste 4 = .ok (.getfield 22, 3) := by decide +kernel
theorem dX12_waste_7 : decode cX12_waste 7 = .ok (.invokevirtual 125, 3) := by decide +kernel
theorem dX12_waste_10 : decode cX12_waste 10 = .ok (.iconst 1, 1) := by decide +kernel
theorem dX12_waste_11 : decode cX12_waste 11 = .ok (.isub, 1) := by decide +kernel
theorem dX12_waste_12 : decode cX12_waste 12 = .ok (.invokestatic 285, 3) := by decide +kernel
theorem dX12_waste_15 : decode cX12_waste 15 = .ok (.ifCond .ne 9, 3) := by decide +kernel
theorem dX12_waste_18 : decode cX12_waste 18 = .ok (.aload_n 0, 1) := by decide +kernel
theorem dX12_waste_19 : decode cX12_waste 19 = .ok (.iconst 1, 1) := by decide +kernel
theorem dX12_waste_20 : decode cX12_waste 20 = .ok (.invokevirtual 289, 3) := by decide +kernel
theorem dX12_waste_23 : decode cX12_waste 23 = .ok (.ireturn, 1) := by decide +kernel
theorem dL_law_1492 : decode cL_law 1492 = .ok (.istore 7, 2) := by decide +kernel
theorem dL_law_1494 : decode cL_law 1494 = .ok (.aload_n 2, 1) := by decide +kernel
theorem dL_law_1495 : decode cL_law 1495 = .ok (.invokevirtual 125, 3) := by decide +kernel
theorem dL_law_1498 : decode cL_law 1498 = .ok (.iload 6, 2) := by decide +kernel
theorem dL_law_1500 : decode cL_law 1500 = .ok (.if_icmp .eq 5, 3) := by decide +kernel
theorem dL_law_1505 : decode cL_law 1505 = .ok (.iload 6, 2) := by decide +kernel
theorem dL_law_1507 : decode cL_law 1507 = .ok (.ifCond .ne 15, 3) := by decide +kernel
theorem dL_law_1522 : decode cL_law 1522 = .ok (.goto 441, 3) := by decide +kernel
theorem dX6_waste_4 : decode cX6_waste 4 = .ok (.iload_n 1, 1) := by decide +kernel
theorem dX6_waste_5 : decode cX6_waste 5 = .ok (.aload_n 0, 1) := by decide +kernel
theorem dX6_waste_6 : decode cX6_waste 6 = .ok (.getfield 33, 3) := by decide +kernel
theorem dX6_waste_9 : decode cX6_waste 9 = .ok (.getfield 210, 3) := by decide +kernel
theorem dX6_waste_12 : decode cX6_waste 12 = .ok (.if_icmp .lt 13, 3) := by decide +kernel
theorem dL_law_1525 : decode cL_law 1525 = .ok (.aload_n 1, 1) := by decide +kernel
theorem dL_law_1526 : decode cL_law 1526 = .ok (.aload_n 0, 1) := by decide +kernel
theorem dL_law_1527 : decode cL_law 1527 = .ok (.iload 5, 2) := by decide +kernel
theorem dL_law_1529 : decode cL_law 1529 = .ok (.iconst 1, 1) := by decide +kernel
theorem dL_law_1530 : decode cL_law 1530 = .ok (.iadd, 1) := by decide +kernel
theorem dL_law_1531 : decode cL_law 1531 = .ok (.iaload, 1) := by decide +kernel
theorem dL_law_1532 : decode cL_law 1532 = .ok (.aload_n 3, 1) := by decide +kernel
theorem dL_law_1533 : decode cL_law 1533 = .ok (.invokestatic 201, 3) := by decide +kernel
theorem dL_setProps_0 : decode cL_setProps 0 = .ok (.aload_n 2, 1) := by decide +kernel
theorem dL_setProps_1 : decode cL_setProps 1 = .ok (.iconst 0, 1) := by decide +kernel
theorem dL_setProps_2 : decode cL_setProps 2 = .ok (.aload_n 0, 1) := by decide +kernel
theorem dL_setProps_3 : decode cL_setProps 3 = .ok (.iload_n 1, 1) := by decide +kernel
theorem dL_setProps_4 : decode cL_setProps 4 = .ok (.invokevirtual 89, 3) := by decide +kernel
theorem dX6_setProps_0 : decode cX6_setProps 0 = .ok (.iload_n 1, 1) := by decide +kernel
theorem dX6_setProps_1 : decode cX6_setProps 1 = .ok (.iconst 0, 1) := by decide +kernel
theorem dX6_setProps_2 : decode cX6_setProps 2 = .ok (.bipush 9, 2) := by decide +kernel
theorem dX6_setProps_4 : decode cX6_setProps 4 = .ok (.invokestatic 44, 3) := by decide +kernel
theorem dX6_setProps_7 : decode cX6_setProps 7 = .ok (.ifCond .ne 13, 3) := by decide +kernel
theorem dX6_setProps_10 : decode cX6_setProps 10 = .ok (.new 56, 3) := by decide +kernel
theorem dX6_setProps_13 : decode cX6_setProps 13 = .ok (.dup, 1) := by decide +kernel
theorem dX6_setProps_14 : decode cX6_setProps 14 = .ok (.ldc 236, 2) := by decide +kernel
theorem dX6_setProps_16 : decode cX6_setProps 16 = .ok (.invokespecial 60, 3) := by decide +kernel
theorem dX6_setProps_19 : decode cX6_setProps 19 = .ok (.athrow, 1) := by decide +kernel
theorem dL_setProps_12 : decode cL_setProps 12 = .ok (.astore_n 3, 1) := by decide +kernel
theorem dL_setProps_13 : decode cL_setProps 13 = .ok (.iconst 1, 1) := by decide +kernel
theorem dL_setProps_14 : decode cL_setProps 14 = .ok (.ireturn, 1) := by decide +kernel
theorem dL_law_1536 : decode cL_law 1536 = .ok (.istore 6, 2) := by decide +kernel
theorem dL_law_1538 : decode cL_law 1538 = .ok (.aload_n 2, 1) := by decide +kernel
theorem dL_law_1539 : decode cL_law 1539 = .ok (.aload_n 0, 1) := by decide +kernel
theorem dL_law_1540 : decode cL_law 1540 = .ok (.iload 5, 2) := by decide +kernel
theorem dL_law_1542 : decode cL_law 1542 = .ok (.iconst 1, 1) := by decide +kernel
theorem dL_law_1543 : decode cL_law 1543 = .ok (.iadd, 1) := by decide +kernel
theorem dL_law_1544 : decode cL_law 1544 = .ok (.iaload, 1) := by decide +kernel
theorem dL_law_1545 : decode cL_law 1545 = .ok (.invokevirtual 203, 3) := by decide +kernel
theorem dX12_setProps_0 : decode cX12_setProps 0 = .ok (.iload_n 1, 1) := by decide +kernel
theorem dX12_setProps_1 : decode cX12_setProps 1 = .ok (.i2l, 1) := by decide +kernel
theorem dX12_setProps_2 : decode cX12_setProps 2 = .ok (.iconst 0, 1) := by decide +kernel
theorem dX12_setProps_3 : decode cX12_setProps 3 = .ok (.bipush 9, 2) := by decide +kernel
theorem dX12_setProps_5 : decode cX12_setProps 5 = .ok (.invokestatic 285, 3) := by decide +kernel
theorem dX12_setProps_8 : decode cX12_setProps 8 = .ok (.ifCond .ne 9, 3) := by decide +kernel
theorem dX12_setProps_11 : decode cX12_setProps 11 = .ok (.aload_n 0, 1) := by decide +kernel
theorem dX12_setProps_12 : decode cX12_setProps 12 = .ok (.iconst 1, 1) := by decide +kernel
theorem dX12_setProps_13 : decode cX12_setProps 13 = .ok (.invokevirtual 289, 3) := by decide +kernel
theorem dX12_setProps_16 : decode cX12_setProps 16 = .ok (.ireturn, 1) := by decide +kernel
theorem dL_law_1548 : decode cL_law 1548 = .ok (.istore 7, 2) := by decide +kernel
theorem dL_law_1550 : decode cL_law 1550 = .ok (.aload_n 2, 1) := by decide +kernel
theorem dL_law_1551 : decode cL_law 1551 = .ok (.invokevirtual 125, 3) := by decide +kernel
theorem dL_law_1554 : decode cL_law 1554 = .ok (.iload 6, 2) := by decide +kernel
theorem dL_law_1556 : decode cL_law 1556 = .ok (.if_icmp .eq 5, 3) := by decide +kernel
theorem dL_law_1561 : decode cL_law 1561 = .ok (.iload 6, 2) := by decide +kernel
theorem dL_law_1563 : decode cL_law 1563 = .ok (.ifCond .ne 15, 3) := by decide +kernel
theorem dL_law_1578 : decode cL_law 1578 = .ok (.goto 385, 3) := by decide +kernel
theorem dX6_setProps_20 : decode cX6_setProps 20 = .ok (.aload_n 0, 1) := by decide +kernel
theorem dX6_setProps_21 : decode cX6_setProps 21 = .ok (.getfield 40, 3) := by decide +kernel
theorem dX6_setProps_24 : decode cX6_setProps 24 = .ok (.getfield 238, 3) := by decide +kernel
theorem dX6_setProps_27 : decode cX6_setProps 27 = .ok (.istore_n 2, 1) := by decide +kernel
theorem dX6_setProps_28 : decode cX6_setProps 28 = .ok (.aload_n 0, 1) := by decide +kernel
theorem dX6_setProps_29 : decode cX6_setProps 29 = .ok (.getfield 40, 3) := by decide +kernel
theorem dX6_setProps_32 : decode cX6_setProps 32 = .ok (.iload_n 1, 1) := by decide +kernel
theorem dX6_setProps_33 : decode cX6_setProps 33 = .ok (.putfield 238, 3) := by decide +kernel
theorem dX6_setProps_36 : decode cX6_setProps 36 = .ok (.aload_n 0, 1) := by decide +kernel
theorem dX6_setProps_37 : decode cX6_setProps 37 = .ok (.getfield 40, 3) := by decide +kernel
theorem dX6_setProps_40 : decode cX6_setProps 40 = .ok (.iconst 0, 1) := by decide +kernel
theorem dX6_setProps_41 : decode cX6_setProps 41 = .ok (.putfield 99, 3) := by decide +kernel
theorem dX6_setProps_44 : decode cX6_setProps 44 = .ok (.iload_n 2, 1) := by decide +kernel
theorem dX6_setProps_45 : decode cX6_setProps 45 = .ok (.ireturn, 1) := by decide +kernel
theorem dL_setProps_7 : decode cL_setProps 7 = .ok (.i2l, 1) := by decide +kernel
theorem dL_setProps_8 : decode cL_setProps 8 = .ok (.lastore, 1) := by decide +kernel
theorem dL_setProps_9 : decode cL_setProps 9 = .ok (.goto 6, 3) := by decide +kernel
theorem dL_setProps_15 : decode cL_setProps 15 = .ok (.iconst 0, 1) := by decide +kernel
theorem dL_setProps_16 : decode cL_setProps 16 = .ok (.ireturn, 1) := by decide +kernel
theorem dX12_setProps_17 : decode cX12_setProps 17 = .ok (.aload_n 0, 1) := by decide +kernel
theorem dX12_setProps_18 : decode cX12_setProps 18 = .ok (.getfield 70, 3) := by decide +kernel
theorem dX12_setProps_21 : decode cX12_setProps 21 = .ok (.istore_n 2, 1) := by decide +kernel
theorem dX12_setProps_22 : decode cX12_setProps 22 = .ok (.aload_n 0, 1) := by decide +kernel
theorem dX12_setProps_23 : decode cX12_setProps 23 = .ok (.iload_n 1, 1) := by decide +kernel
theorem dX12_setProps_24 : decode cX12_setProps 24 = .ok (.putfield 70, 3) := by decide +kernel
theorem dX12_setProps_27 : decode cX12_setProps 27 = .ok (.aload_n 0, 1) := by decide +kernel
theorem dX12_setProps_28 : decode cX12_setProps 28 = .ok (.iconst 0, 1) := by decide +kernel
theorem dX12_setProps_29 : decode cX12_setProps 29 = .ok (.putfield 81, 3) := by decide +kernel
theorem dX12_setProps_32 : decode cX12_setProps 32 = .ok (.aload_n 0, 1) := by decide +kernel
theorem dX12_setProps_33 : decode cX12_setProps 33 = .ok (.iload_n 2, 1) := by decide +kernel
theorem dX12_setProps_34 : decode cX12_setProps 34 = .ok (.invokevirtual 302, 3) := by decide +kernel
theorem dX12_setProps_37 : decode cX12_setProps 37 = .ok (.ireturn, 1) := by decide +kernel
theorem dL_law_1566 : decode cL_law 1566 = .ok (.aload_n 3, 1) := by decide +kernel
theorem dL_law_1567 : decode cL_law 1567 = .ok (.iconst 0, 1) := by decide +kernel
theorem dL_law_1568 : decode cL_law 1568 = .ok (.laload, 1) := by decide +kernel
theorem dL_law_1569 : decode cL_law 1569 = .ok (.iload 7, 2) := by decide +kernel
theorem dL_law_1571 : decode cL_law 1571 = .ok (.i2l, 1) := by decide +kernel
theorem dL_law_1572 : decode cL_law 1572 = .ok (.lcmp, 1) := by decide +kernel
theorem dL_law_1573 : decode cL_law 1573 = .ok (.ifCond .eq 5, 3) := by decide +kernel
theorem dL_law_1581 : decode cL_law 1581 = .ok (.aload_n 1, 1) := by decide +kernel
theorem dL_law_1582 : decode cL_law 1582 = .ok (.aload_n 0, 1) := by decide +kernel
theorem dL_law_1583 : decode cL_law 1583 = .ok (.iload 5, 2) := by decide +kernel
theorem dL_law_1585 : decode cL_law 1585 = .ok (.iconst 1, 1) := by decide +kernel
theorem dL_law_1586 : decode cL_law 1586 = .ok (.iadd, 1) := by decide +kernel
theorem dL_law_1587 : decode cL_law 1587 = .ok (.iaload, 1) := by decide +kernel
theorem dL_law_1588 : decode cL_law 1588 = .ok (.aload_n 3, 1) := by decide +kernel
theorem dL_law_1589 : decode cL_law 1589 = .ok (.invokestatic 204, 3) := by decide +kernel
theorem dL_raised_0 : decode cL_raised 0 = .ok (.aload_n 2, 1) := by decide +kernel
theorem dL_raised_1 : decode cL_raised 1 = .ok (.iconst 0, 1) := by decide +kernel
theorem dL_raised_2 : decode cL_raised 2 = .ok (.aload_n 0, 1) := by decide +kernel
theorem dL_raised_3 : decode cL_raised 3 = .ok (.iload_n 1, 1) := by decide +kernel
theorem dL_raised_4 : decode cL_raised 4 = .ok (.invokevirtual 92, 3) := by decide +kernel
theorem dX6_raised_0 : decode cX6_raised 0 = .ok (.aload_n 0, 1) := by decide +kernel
theorem dX6_raised_1 : decode cX6_raised 1 = .ok (.iload_n 1, 1) := by decide +kernel
theorem dX6_raised_2 : decode cX6_raised 2 = .ok (.invokevirtual 241, 3) := by decide +kernel
theorem dX6_checkPlaceInOrder_0 : decode cX6_checkPlaceInOrder 0 = .ok (.aload_n 0, 1) := by decide +kernel
theorem dX6_checkPlaceInOrder_1 : decode cX6_checkPlaceInOrder 1 = .ok (.getfield 40, 3) := by decide +kernel
theorem dX6_checkPlaceInOrder_4 : decode cX6_checkPlaceInOrder 4 = .ok (.aload_n 0, 1) := by decide +kernel
theorem dX6_checkPlaceInOrder_5 : decode cX6_checkPlaceInOrder 5 = .ok (.getfield 12, 3) := by decide +kernel
theorem dX6_checkPlaceInOrder_8 : decode cX6_checkPlaceInOrder 8 = .ok (.aload_n 0, 1) := by decide +kernel
theorem dX6_checkPlaceInOrder_9 : decode cX6_checkPlaceInOrder 9 = .ok (.getfield 26, 3) := by decide +kernel
theorem dX6_checkPlaceInOrder_12 : decode cX6_checkPlaceInOrder 12 = .ok (.invokevirtual 247, 3) := by decide +kernel
theorem dX4_find_0 : decode cX4_find 0 = .ok (.aload_n 0, 1) := by decide +kernel
theorem dX4_find_1 : decode cX4_find 1 = .ok (.getfield 37, 3) := by decide +kernel
theorem dX4_find_4 : decode cX4_find 4 = .ok (.ifCond .eq 4, 3) := by decide +kernel
theorem dX4_find_8 : decode cX4_find 8 = .ok (.aload_n 0, 1) := by decide +kernel
theorem dX4_find_9 : decode cX4_find 9 = .ok (.iconst 1, 1) := by decide +kernel
theorem dX4_find_10 : decode cX4_find 10 = .ok (.aload_n 1, 1) := by decide +kernel
theorem dX4_find_11 : decode cX4_find 11 = .ok (.getfield 41, 3) := by decide +kernel
theorem dX4_find_14 : decode cX4_find 14 = .ok (.ishl, 1) := by decide +kernel
theorem dX4_find_15 : decode cX4_find 15 = .ok (.iconst 1, 1) := by decide +kernel
theorem dX4_find_16 : decode cX4_find 16 = .ok (.isub, 1) := by decide +kernel
theorem dX4_find_17 : decode cX4_find 17 = .ok (.putfield 34, 3) := by decide +kernel
theorem dX4_find_20 : decode cX4_find 20 = .ok (.aload_n 0, 1) := by decide +kernel
theorem dX4_find_21 : decode cX4_find 21 = .ok (.aload_n 1, 1) := by decide +kernel
theorem dX4_find_22 : decode cX4_find 22 = .ok (.aload_n 2, 1) := by decide +kernel
theorem dX4_find_23 : decode cX4_find 23 = .ok (.invokevirtual 46, 3) := by decide +kernel
theorem dX4_gather_0 : decode cX4_gather 0 = .ok (.aload_n 0, 1) := by decide +kernel
theorem dX4_gather_1 : decode cX4_gather 1 = .ok (.iconst 0, 1) := by decide +kernel
theorem dX4_gather_2 : decode cX4_gather 2 = .ok (.putfield 60, 3) := by decide +kernel
theorem dX4_gather_5 : decode cX4_gather 5 = .ok (.iconst 0, 1) := by decide +kernel
theorem dX4_gather_6 : decode cX4_gather 6 = .ok (.istore_n 3, 1) := by decide +kernel
theorem dX4_gather_7 : decode cX4_gather 7 = .ok (.iload_n 3, 1) := by decide +kernel
theorem dX4_gather_8 : decode cX4_gather 8 = .ok (.aload_n 1, 1) := by decide +kernel
theorem dX4_gather_9 : decode cX4_gather 9 = .ok (.getfield 41, 3) := by decide +kernel
theorem dX4_gather_12 : decode cX4_gather 12 = .ok (.if_icmp .ge 135, 3) := by decide +kernel
theorem dX4_gather_147 : decode cX4_gather 147 = .ok (.return_, 1) := by decide +kernel
theorem dX4_find_26 : decode cX4_find 26 = .ok (.aload_n 0, 1) := by decide +kernel
theorem dX4_find_27 : decode cX4_find 27 = .ok (.aload_n 1, 1) := by decide +kernel
theorem dX4_find_28 : decode cX4_find 28 = .ok (.getfield 41, 3) := by decide +kernel
theorem dX4_find_31 : decode cX4_find 31 = .ok (.invokevirtual 50, 3) := by decide +kernel
theorem dX4_goForward_0 : decode cX4_goForward 0 = .ok (.aload_n 0, 1) := by decide +kernel
theorem dX4_goForward_1 : decode cX4_goForward 1 = .ok (.getfield 24, 3) := by decide +kernel
theorem dX4_goForward_4 : decode cX4_goForward 4 = .ok (.iconst 0, 1) := by decide +kernel
theorem dX4_goForward_5 : decode cX4_goForward 5 = .ok (.iconst 1, 1) := by decide +kernel
theorem dX4_goForward_6 : decode cX4_goForward 6 = .ok (.iastore, 1) := by decide +kernel
theorem dX4_goForward_7 : decode cX4_goForward 7 = .ok (.iconst 1, 1) := by decide +kernel
theorem dX4_goForward_8 : decode cX4_goForward 8 = .ok (.istore_n 2, 1) := by decide +kernel
theorem dX4_goForward_9 : decode cX4_goForward 9 = .ok (.iload_n 2, 1) := by decide +kernel
theorem dX4_goForward_10 : decode cX4_goForward 10 = .ok (.aload_n 0, 1) := by decide +kernel
theorem dX4_goForward_11 : decode cX4_goForward 11 = .ok (.getfield 34, 3) := by decide +kernel
theorem dX4_goForward_14 : decode cX4_goForward 14 = .ok (.if_icmp .gt 106, 3) := by decide +kernel
theorem dX4_goForward_120 : decode cX4_goForward 120 = .ok (.return_, 1) := by decide +kernel
theorem dX4_find_34 : decode cX4_find 34 = .ok (.aload_n 0, 1) := by decide +kernel
theorem dX4_find_35 : decode cX4_find 35 = .ok (.aload_n 1, 1) := by decide +kernel
theorem dX4_find_36 : decode cX4_find 36 = .ok (.getfield 41, 3) := by decide +kernel
theorem dX4_find_39 : decode cX4_find 39 = .ok (.invokevirtual 54, 3) := by decide +kernel
theorem dX4_goBackward_0 : decode cX4_goBackward 0 = .ok (.iconst 0, 1) := by decide +kernel
theorem dX4_goBackward_1 : decode cX4_goBackward 1 = .ok (.istore_n 2, 1) := by decide +kernel
theorem dX4_goBackward_2 : decode cX4_goBackward 2 = .ok (.iload_n 2, 1) := by decide +kernel
theorem dX4_goBackward_3 : decode cX4_goBackward 3 = .ok (.aload_n 0, 1) := by decide +kernel
theorem dX4_goBackward_4 : decode cX4_goBackward 4 = .ok (.getfield 34, 3) := by decide +kernel
theorem dX4_goBackward_7 : decode cX4_goBackward 7 = .ok (.if_icmp .gt 28, 3) := by decide +kernel
theorem dX4_goBackward_10 : decode cX4_goBackward 10 = .ok (.aload_n 0, 1) := by decide +kernel
theorem dX4_goBackward_11 : decode cX4_goBackward 11 = .ok (.getfield 27, 3) := by decide +kernel
theorem dX4_goBackward_14 : decode cX4_goBackward 14 = .ok (.iload_n 2, 1) := by decide +kernel
theorem dX4_goBackward_15 : decode cX4_goBackward 15 = .ok (.iload_n 2, 1) := by decide +kernel
theorem dX4_goBackward_16 : decode cX4_goBackward 16 = .ok (.aload_n 0, 1) := by decide +kernel
theorem dX4_goBackward_17 : decode cX4_goBackward 17 = .ok (.getfield 34, 3) := by decide +kernel
theorem dX4_goBackward_20 : decode cX4_goBackward 20 = .ok (.if_icmp .ne 7, 3) := by decide +kernel
theorem dX4_goBackward_23 : decode cX4_goBackward 23 = .ok (.iconst 1, 1) := by decide +kernel
theorem dX4_goBackward_24 : decode cX4_goBackward 24 = .ok (.goto 4, 3) := by decide +kernel
theorem dX4_goBackward_28 : decode cX4_goBackward 28 = .ok (.bastore, 1) := by decide +kernel
theorem dX4_goBackward_29 : decode cX4_goBackward 29 = .ok (.iinc 2 1, 3) := by decide +kernel
theorem dX4_goBackward_32 : decode cX4_goBackward 32 = .ok (.goto (-30), 3) := by decide +kernel
theorem dX4_goBackward_35 : decode cX4_goBackward 35 = .ok (.aload_n 0, 1) := by decide +kernel
theorem dX4_goBackward_36 : decode cX4_goBackward 36 = .ok (.getfield 34, 3) := by decide +kernel
theorem dX4_goBackward_39 : decode cX4_goBackward 39 = .ok (.istore_n 2, 1) := by decide +kernel
theorem dX4_goBackward_40 : decode cX4_goBackward 40 = .ok (.iload_n 2, 1) := by decide +kernel
theorem dX4_goBackward_41 : decode cX4_goBackward 41 = .ok (.ifCond .le 90, 3) := by decide +kernel
theorem dX4_goBackward_131 : decode cX4_goBackward 131 = .ok (.return_, 1) := by decide +kernel
theorem dX4_find_42 : decode cX4_find 42 = .ok (.aload_n 0, 1) := by decide +kernel
theorem dX4_find_43 : decode cX4_find 43 = .ok (.aload_n 1, 1) := by decide +kernel
theorem dX4_find_44 : decode cX4_find 44 = .ok (.getfield 41, 3) := by decide +kernel
theorem dX4_find_47 : decode cX4_find 47 = .ok (.invokevirtual 57, 3) := by decide +kernel
theorem dX4_findOrder_0 : decode cX4_findOrder 0 = .ok (.iconst 0, 1) := by decide +kernel
theorem dX4_findOrder_1 : decode cX4_findOrder 1 = .ok (.istore_n 2, 1) := by decide +kernel
theorem dX4_findOrder_2 : decode cX4_findOrder 2 = .ok (.iconst 0, 1) := by decide +kernel
theorem dX4_findOrder_3 : decode cX4_findOrder 3 = .ok (.istore_n 3, 1) := by decide +kernel
theorem dX4_findOrder_4 : decode cX4_findOrder 4 = .ok (.iload_n 3, 1) := by decide +kernel
theorem dX4_findOrder_5 : decode cX4_findOrder 5 = .ok (.iload_n 1, 1) := by decide +kernel
theorem dX4_findOrder_6 : decode cX4_findOrder 6 = .ok (.if_icmp .ge 38, 3) := by decide +kernel
theorem dX4_findOrder_44 : decode cX4_findOrder 44 = .ok (.return_, 1) := by decide +kernel
theorem dX4_find_50 : decode cX4_find 50 = .ok (.aload_n 0, 1) := by decide +kernel
theorem dX4_find_51 : decode cX4_find 51 = .ok (.iconst 1, 1) := by decide +kernel
theorem dX4_find_52 : decode cX4_find 52 = .ok (.putfield 37, 3) := by decide +kernel
theorem dX4_find_55 : decode cX4_find 55 = .ok (.return_, 1) := by decide +kernel
theorem dX6_checkPlaceInOrder_15 : decode cX6_checkPlaceInOrder 15 = .ok (.aload_n 0, 1) := by decide +kernel
theorem dX6_checkPlaceInOrder_16 : decode cX6_checkPlaceInOrder 16 = .ok (.getfield 40, 3) := by decide +kernel
theorem dX6_checkPlaceInOrder_19 : decode cX6_checkPlaceInOrder 19 = .ok (.invokevirtual 250, 3) := by decide +kernel
theorem dX4_orderCount_0 : decode cX4_orderCount 0 = .ok (.aload_n 0, 1) := by decide +kernel
theorem dX4_orderCount_1 : decode cX4_orderCount 1 = .ok (.getfield 24, 3) := by decide +kernel
theorem dX4_orderCount_4 : decode cX4_orderCount 4 = .ok (.aload_n 0, 1) := by decide +kernel
theorem dX4_orderCount_5 : decode cX4_orderCount 5 = .ok (.getfield 34, 3) := by decide +kernel
theorem dX4_orderCount_8 : decode cX4_orderCount 8 = .ok (.iaload, 1) := by decide +kernel
theorem dX4_orderCount_9 : decode cX4_orderCount 9 = .ok (.ireturn, 1) := by decide +kernel
theorem dX6_checkPlaceInOrder_22 : decode cX6_checkPlaceInOrder 22 = .ok (.ifCond .ne 14, 3) := by decide +kernel
theorem dX6_checkPlaceInOrder_36 : decode cX6_checkPlaceInOrder 36 = .ok (.iload_n 1, 1) := by decide +kernel
theorem dX6_checkPlaceInOrder_37 : decode cX6_checkPlaceInOrder 37 = .ok (.ifCond .lt 14, 3) := by decide +kernel
theorem dX6_checkPlaceInOrder_51 : decode cX6_checkPlaceInOrder 51 = .ok (.new 228, 3) := by decide +kernel
theorem dX6_checkPlaceInOrder_54 : decode cX6_checkPlaceInOrder 54 = .ok (.dup, 1) := by decide +kernel
theorem dX6_checkPlaceInOrder_55 : decode cX6_checkPlaceInOrder 55 = .ok (.ldc_w 298, 3) := by decide +kernel
theorem dX6_checkPlaceInOrder_58 : decode cX6_checkPlaceInOrder 58 = .ok (.invokespecial 232, 3) := by decide +kernel
theorem dX6_checkPlaceInOrder_61 : decode cX6_checkPlaceInOrder 61 = .ok (.athrow, 1) := by decide +kernel
theorem dL_raised_15 : decode cL_raised 15 = .ok (.astore_n 3, 1) := by decide +kernel
theorem dL_raised_16 : decode cL_raised 16 = .ok (.iconst 2, 1) := by decide +kernel
theorem dL_raised_17 : decode cL_raised 17 = .ok (.ireturn, 1) := by decide +kernel
theorem dL_law_1592 : decode cL_law 1592 = .ok (.istore 6, 2) := by decide +kernel
theorem dL_law_1594 : decode cL_law 1594 = .ok (.aload_n 2, 1) := by decide +kernel
theorem dL_law_1595 : decode cL_law 1595 = .ok (.aload_n 0, 1) := by decide +kernel
theorem dL_law_1596 : decode cL_law 1596 = .ok (.iload 5, 2) := by decide +kernel
theorem dL_law_1598 : decode cL_law 1598 = .ok (.iconst 1, 1) := by decide +kernel
theorem dL_law_1599 : decode cL_law 1599 = .ok (.iadd, 1) := by decide +kernel
theorem dL_law_1600 : decode cL_law 1600 = .ok (.iaload, 1) := by decide +kernel
theorem dL_law_1601 : decode cL_law 1601 = .ok (.invokevirtual 206, 3) := by decide +kernel
theorem dX12_raised_0 : decode cX12_raised 0 = .ok (.aload_n 0, 1) := by decide +kernel
theorem dX12_raised_1 : decode cX12_raised 1 = .ok (.invokevirtual 395, 3) := by decide +kernel
theorem dX12_hasOrder_0 : decode cX12_hasOrder 0 = .ok (.aload_n 0, 1) := by decide +kernel
theorem dX12_hasOrder_1 : decode cX12_hasOrder 1 = .ok (.invokevirtual 392, 3) := by decide +kernel
theorem dX12_raises_0 : decode cX12_raises 0 = .ok (.aload_n 0, 1) := by decide +kernel
theorem dX12_raises_1 : decode cX12_raises 1 = .ok (.getfield 81, 3) := by decide +kernel
theorem dX12_raises_4 : decode cX12_raises 4 = .ok (.ifCond .eq 4, 3) := by decide +kernel
theorem dX12_raises_8 : decode cX12_raises 8 = .ok (.aload_n 0, 1) := by decide +kernel
theorem dX12_raises_9 : decode cX12_raises 9 = .ok (.iconst 1, 1) := by decide +kernel
theorem dX12_raises_10 : decode cX12_raises 10 = .ok (.putfield 81, 3) := by decide +kernel
theorem dX12_raises_13 : decode cX12_raises 13 = .ok (.iconst 1, 1) := by decide +kernel
theorem dX12_raises_14 : decode cX12_raises 14 = .ok (.aload_n 0, 1) := by decide +kernel
theorem dX12_raises_15 : decode cX12_raises 15 = .ok (.getfield 16, 3) := by decide +kernel
theorem dX12_raises_18 : decode cX12_raises 18 = .ok (.invokevirtual 125, 3) := by decide +kernel
theorem dX12_raises_21 : decode cX12_raises 21 = .ok (.ishl, 1) := by decide +kernel
theorem dX12_raises_22 : decode cX12_raises 22 = .ok (.iconst 1, 1) := by decide +kernel
theorem dX12_raises_23 : decode cX12_raises 23 = .ok (.isub, 1) := by decide +kernel
theorem dX12_raises_24 : decode cX12_raises 24 = .ok (.istore_n 1, 1) := by decide +kernel
theorem dX12_raises_25 : decode cX12_raises 25 = .ok (.aload_n 0, 1) := by decide +kernel
theorem dX12_raises_26 : decode cX12_raises 26 = .ok (.getfield 42, 3) := by decide +kernel
theorem dX12_raises_29 : decode cX12_raises 29 = .ok (.iload_n 1, 1) := by decide +kernel
theorem dX12_raises_30 : decode cX12_raises 30 = .ok (.iconst 1, 1) := by decide +kernel
theorem dX12_raises_31 : decode cX12_raises 31 = .ok (.iastore, 1) := by decide +kernel
theorem dX12_raises_32 : decode cX12_raises 32 = .ok (.iload_n 1, 1) := by decide +kernel
theorem dX12_raises_33 : decode cX12_raises 33 = .ok (.iconst 1, 1) := by decide +kernel
theorem dX12_raises_34 : decode cX12_raises 34 = .ok (.isub, 1) := by decide +kernel
theorem dX12_raises_35 : decode cX12_raises 35 = .ok (.istore_n 2, 1) := by decide +kernel
theorem dX12_raises_36 : decode cX12_raises 36 = .ok (.iload_n 2, 1) := by decide +kernel
theorem dX12_raises_37 : decode cX12_raises 37 = .ok (.ifCond .lt 67, 3) := by decide +kernel
theorem dX12_raises_104 : decode cX12_raises 104 = .ok (.iconst 0, 1) := by decide +kernel
theorem dX12_raises_105 : decode cX12_raises 105 = .ok (.istore_n 2, 1) := by decide +kernel
theorem dX12_raises_106 : decode cX12_raises 106 = .ok (.iconst 0, 1) := by decide +kernel
theorem dX12_raises_107 : decode cX12_raises 107 = .ok (.istore_n 3, 1) := by decide +kernel
theorem dX12_raises_108 : decode cX12_raises 108 = .ok (.iload_n 3, 1) := by decide +kernel
theorem dX12_raises_109 : decode cX12_raises 109 = .ok (.aload_n 0, 1) := by decide +kernel
theorem dX12_raises_110 : decode cX12_raises 110 = .ok (.getfield 16, 3) := by decide +kernel
theorem dX12_raises_113 : decode cX12_raises 113 = .ok (.invokevirtual 125, 3) := by decide +kernel
theorem dX12_raises_116 : decode cX12_raises 116 = .ok (.if_icmp .ge 66, 3) := by decide +kernel
theorem dX12_raises_182 : decode cX12_raises 182 = .ok (.return_, 1) := by decide +kernel
theorem dX12_hasOrder_4 : decode cX12_hasOrder 4 = .ok (.aload_n 0, 1) := by decide +kernel
theorem dX12_hasOrder_5 : decode cX12_hasOrder 5 = .ok (.getfield 42, 3) := by decide +kernel
theorem dX12_hasOrder_8 : decode cX12_hasOrder 8 = .ok (.iconst 0, 1) := by decide +kernel
theorem dX12_hasOrder_9 : decode cX12_hasOrder 9 = .ok (.iaload, 1) := by decide +kernel
theorem dX12_hasOrder_10 : decode cX12_hasOrder 10 = .ok (.ifCond .le 7, 3) := by decide +kernel
theorem dX12_hasOrder_13 : decode cX12_hasOrder 13 = .ok (.iconst 1, 1) := by decide +kernel
theorem dX12_hasOrder_14 : decode cX12_hasOrder 14 = .ok (.goto 4, 3) := by decide +kernel
theorem dX12_hasOrder_18 : decode cX12_hasOrder 18 = .ok (.ireturn, 1) := by decide +kernel
theorem dX12_raised_4 : decode cX12_raised 4 = .ok (.ifCond .ne 9, 3) := by decide +kernel
theorem dX12_raised_13 : decode cX12_raised 13 = .ok (.iload_n 1, 1) := by decide +kernel
theorem dX12_raised_14 : decode cX12_raised 14 = .ok (.i2l, 1) := by decide +kernel
theorem dX12_raised_15 : decode cX12_raised 15 = .ok (.iconst 0, 1) := by decide +kernel
theorem dX12_raised_16 : decode cX12_raised 16 = .ok (.aload_n 0, 1) := by decide +kernel
theorem dX12_raised_17 : decode cX12_raised 17 = .ok (.getfield 16, 3) := by decide +kernel
theorem dX12_raised_20 : decode cX12_raised 20 = .ok (.invokevirtual 125, 3) := by decide +kernel
theorem dX12_raised_23 : decode cX12_raised 23 = .ok (.iconst 1, 1) := by decide +kernel
theorem dX12_raised_24 : decode cX12_raised 24 = .ok (.isub, 1) := by decide +kernel
theorem dX12_raised_25 : decode cX12_raised 25 = .ok (.invokestatic 285, 3) := by decide +kernel
theorem dX12_raised_28 : decode cX12_raised 28 = .ok (.ifCond .eq 16, 3) := by decide +kernel
theorem dX12_raised_44 : decode cX12_raised 44 = .ok (.aload_n 0, 1) := by decide +kernel
theorem dX12_raised_45 : decode cX12_raised 45 = .ok (.iconst 2, 1) := by decide +kernel
theorem dX12_raised_46 : decode cX12_raised 46 = .ok (.invokevirtual 289, 3) := by decide +kernel
theorem dX12_raised_49 : decode cX12_raised 49 = .ok (.ireturn, 1) := by decide +kernel
theorem dL_law_1604 : decode cL_law 1604 = .ok (.istore 7, 2) := by decide +kernel
theorem dL_law_1606 : decode cL_law 1606 = .ok (.aload_n 2, 1) := by decide +kernel
theorem dL_law_1607 : decode cL_law 1607 = .ok (.invokevirtual 125, 3) := by decide +kernel
theorem dL_law_1610 : decode cL_law 1610 = .ok (.iload 6, 2) := by decide +kernel
theorem dL_law_1612 : decode cL_law 1612 = .ok (.if_icmp .eq 5, 3) := by decide +kernel
theorem dL_law_1617 : decode cL_law 1617 = .ok (.iload 6, 2) := by decide +kernel
theorem dL_law_1619 : decode cL_law 1619 = .ok (.ifCond .ne 15, 3) := by decide +kernel
theorem dL_law_1634 : decode cL_law 1634 = .ok (.goto 329, 3) := by decide +kernel
theorem dX6_checkPlaceInOrder_40 : decode cX6_checkPlaceInOrder 40 = .ok (.iload_n 1, 1) := by decide +kernel
theorem dX6_checkPlaceInOrder_41 : decode cX6_checkPlaceInOrder 41 = .ok (.aload_n 0, 1) := by decide +kernel
theorem dX6_checkPlaceInOrder_42 : decode cX6_checkPlaceInOrder 42 = .ok (.getfield 12, 3) := by decide +kernel
theorem dX6_checkPlaceInOrder_45 : decode cX6_checkPlaceInOrder 45 = .ok (.getfield 93, 3) := by decide +kernel
theorem dX6_checkPlaceInOrder_48 : decode cX6_checkPlaceInOrder 48 = .ok (.if_icmp .lt 14, 3) := by decide +kernel
theorem dL_law_1637 : decode cL_law 1637 = .ok (.aload_n 1, 1) := by decide +kernel
theorem dL_law_1638 : decode cL_law 1638 = .ok (.invokevirtual 207, 3) := by decide +kernel
theorem dX6_canRaise_0 : decode cX6_canRaise 0 = .ok (.aload_n 0, 1) := by decide +kernel
theorem dX6_canRaise_1 : decode cX6_canRaise 1 = .ok (.getfield 40, 3) := by decide +kernel
theorem dX6_canRaise_4 : decode cX6_canRaise 4 = .ok (.aload_n 0, 1) := by decide +kernel
theorem dX6_canRaise_5 : decode cX6_canRaise 5 = .ok (.getfield 12, 3) := by decide +kernel
theorem dX6_canRaise_8 : decode cX6_canRaise 8 = .ok (.aload_n 0, 1) := by decide +kernel
theorem dX6_canRaise_9 : decode cX6_canRaise 9 = .ok (.getfield 26, 3) := by decide +kernel
theorem dX6_canRaise_12 : decode cX6_canRaise 12 = .ok (.invokevirtual 247, 3) := by decide +kernel
theorem dX6_canRaise_15 : decode cX6_canRaise 15 = .ok (.aload_n 0, 1) := by decide +kernel
theorem dX6_canRaise_16 : decode cX6_canRaise 16 = .ok (.getfield 40, 3) := by decide +kernel
theorem dX6_canRaise_19 : decode cX6_canRaise 19 = .ok (.invokevirtual 250, 3) := by decide +kernel
theorem dX6_canRaise_22 : decode cX6_canRaise 22 = .ok (.ifCond .le 7, 3) := by decide +kernel
theorem dX6_canRaise_25 : decode cX6_canRaise 25 = .ok (.iconst 1, 1) := by decide +kernel
theorem dX6_canRaise_26 : decode cX6_canRaise 26 = .ok (.goto 4, 3) := by decide +kernel
theorem dX6_canRaise_30 : decode cX6_canRaise 30 = .ok (.ireturn, 1) := by decide +kernel
theorem dL_law_1641 : decode cL_law 1641 = .ok (.aload_n 2, 1) := by decide +kernel
theorem dL_law_1642 : decode cL_law 1642 = .ok (.invokevirtual 211, 3) := by decide +kernel
theorem dX12_canRaise_0 : decode cX12_canRaise 0 = .ok (.aload_n 0, 1) := by decide +kernel
theorem dX12_canRaise_1 : decode cX12_canRaise 1 = .ok (.aload_n 0, 1) := by decide +kernel
theorem dX12_canRaise_2 : decode cX12_canRaise 2 = .ok (.invokevirtual 395, 3) := by decide +kernel
theorem dX12_canRaise_5 : decode cX12_canRaise 5 = .ok (.invokevirtual 343, 3) := by decide +kernel
theorem dX12_canRaise_8 : decode cX12_canRaise 8 = .ok (.ireturn, 1) := by decide +kernel
theorem dL_law_1645 : decode cL_law 1645 = .ok (.if_icmp .eq 318, 3) := by decide +kernel
theorem dL_law_1650 : decode cL_law 1650 = .ok (.aload_n 1, 1) := by decide +kernel
theorem dL_law_1651 : decode cL_law 1651 = .ok (.invokevirtual 212, 3) := by decide +kernel
theorem dX6_canTakeAway_0 : decode cX6_canTakeAway 0 = .ok (.aload_n 0, 1) := by decide +kernel
theorem dX6_canTakeAway_1 : decode cX6_canTakeAway 1 = .ok (.getfield 40, 3) := by decide +kernel
theorem dX6_canTakeAway_4 : decode cX6_canTakeAway 4 = .ok (.aload_n 0, 1) := by decide +kernel
theorem dX6_canTakeAway_5 : decode cX6_canTakeAway 5 = .ok (.getfield 12, 3) := by decide +kernel
theorem dX6_canTakeAway_8 : decode cX6_canTakeAway 8 = .ok (.aload_n 0, 1) := by decide +kernel
theorem dX6_canTakeAway_9 : decode cX6_canTakeAway 9 = .ok (.getfield 26, 3) := by decide +kernel
theorem dX6_canTakeAway_12 : decode cX6_canTakeAway 12 = .ok (.invokevirtual 247, 3) := by decide +kernel
theorem dX6_canTakeAway_15 : decode cX6_canTakeAway 15 = .ok (.aload_n 0, 1) := by decide +kernel
theorem dX6_canTakeAway_16 : decode cX6_canTakeAway 16 = .ok (.getfield 40, 3) := by decide +kernel
theorem dX6_canTakeAway_19 : decode cX6_canTakeAway 19 = .ok (.getfield 254, 3) := by decide +kernel
theorem dX6_canTakeAway_22 : decode cX6_canTakeAway 22 = .ok (.iconst 0, 1) := by decide +kernel
theorem dX6_canTakeAway_23 : decode cX6_canTakeAway 23 = .ok (.baload, 1) := by decide +kernel
theorem dX6_canTakeAway_24 : decode cX6_canTakeAway 24 = .ok (.ireturn, 1) := by decide +kernel
theorem dL_law_1654 : decode cL_law 1654 = .ok (.aload_n 2, 1) := by decide +kernel
theorem dL_law_1655 : decode cL_law 1655 = .ok (.invokevirtual 215, 3) := by decide +kernel
theorem dX12_canTakeAway_0 : decode cX12_canTakeAway 0 = .ok (.aload_n 0, 1) := by decide +kernel
theorem dX12_canTakeAway_1 : decode cX12_canTakeAway 1 = .ok (.aload_n 0, 1) := by decide +kernel
theorem dX12_canTakeAway_2 : decode cX12_canTakeAway 2 = .ok (.iconst 1, 1) := by decide +kernel
theorem dX12_canTakeAway_3 : decode cX12_canTakeAway 3 = .ok (.aload_n 0, 1) := by decide +kernel
theorem dX12_canTakeAway_4 : decode cX12_canTakeAway 4 = .ok (.getfield 16, 3) := by decide +kernel
theorem dX12_canTakeAway_7 : decode cX12_canTakeAway 7 = .ok (.invokevirtual 125, 3) := by decide +kernel
theorem dX12_canTakeAway_10 : decode cX12_canTakeAway 10 = .ok (.ishl, 1) := by decide +kernel
theorem dX12_canTakeAway_11 : decode cX12_canTakeAway 11 = .ok (.iconst 1, 1) := by decide +kernel
theorem dX12_canTakeAway_12 : decode cX12_canTakeAway 12 = .ok (.isub, 1) := by decide +kernel
theorem dX12_canTakeAway_13 : decode cX12_canTakeAway 13 = .ok (.invokevirtual 398, 3) := by decide +kernel
theorem dX12_isTakenAway_0 : decode cX12_isTakenAway 0 = .ok (.iconst 0, 1) := by decide +kernel
theorem dX12_isTakenAway_1 : decode cX12_isTakenAway 1 = .ok (.istore_n 2, 1) := by decide +kernel
theorem dX12_isTakenAway_2 : decode cX12_isTakenAway 2 = .ok (.iload_n 2, 1) := by decide +kernel
theorem dX12_isTakenAway_3 : decode cX12_isTakenAway 3 = .ok (.iconst 1, 1) := by decide +kernel
theorem dX12_isTakenAway_4 : decode cX12_isTakenAway 4 = .ok (.aload_n 0, 1) := by decide +kernel
theorem dX12_isTakenAway_5 : decode cX12_isTakenAway 5 = .ok (.getfield 16, 3) := by decide +kernel
theorem dX12_isTakenAway_8 : decode cX12_isTakenAway 8 = .ok (.invokevirtual 125, 3) := by decide +kernel
theorem dX12_isTakenAway_11 : decode cX12_isTakenAway 11 = .ok (.ishl, 1) := by decide +kernel
theorem dX12_isTakenAway_12 : decode cX12_isTakenAway 12 = .ok (.if_icmp .ge 16, 3) := by decide +kernel
theorem dX12_isTakenAway_15 : decode cX12_isTakenAway 15 = .ok (.aload_n 0, 1) := by decide +kernel
theorem dX12_isTakenAway_16 : decode cX12_isTakenAway 16 = .ok (.getfield 35, 3) := by decide +kernel
theorem dX12_isTakenAway_19 : decode cX12_isTakenAway 19 = .ok (.iload_n 2, 1) := by decide +kernel
theorem dX12_isTakenAway_20 : decode cX12_isTakenAway 20 = .ok (.iconst 0, 1) := by decide +kernel
theorem dX12_isTakenAway_21 : decode cX12_isTakenAway 21 = .ok (.bastore, 1) := by decide +kernel
theorem dX12_isTakenAway_22 : decode cX12_isTakenAway 22 = .ok (.iinc 2 1, 3) := by decide +kernel
theorem dX12_isTakenAway_25 : decode cX12_isTakenAway 25 = .ok (.goto (-23), 3) := by decide +kernel
theorem dX12_isTakenAway_28 : decode cX12_isTakenAway 28 = .ok (.aload_n 0, 1) := by decide +kernel
theorem dX12_isTakenAway_29 : decode cX12_isTakenAway 29 = .ok (.getfield 35, 3) := by decide +kernel
theorem dX12_isTakenAway_32 : decode cX12_isTakenAway 32 = .ok (.iload_n 1, 1) := by decide +kernel
theorem dX12_isTakenAway_33 : decode cX12_isTakenAway 33 = .ok (.iconst 1, 1) := by decide +kernel
theorem dX12_isTakenAway_34 : decode cX12_isTakenAway 34 = .ok (.bastore, 1) := by decide +kernel
theorem dX12_isTakenAway_35 : decode cX12_isTakenAway 35 = .ok (.iload_n 1, 1) := by decide +kernel
theorem dX12_isTakenAway_36 : decode cX12_isTakenAway 36 = .ok (.istore_n 2, 1) := by decide +kernel
theorem dX12_isTakenAway_37 : decode cX12_isTakenAway 37 = .ok (.iload_n 2, 1) := by decide +kernel
theorem dX12_isTakenAway_38 : decode cX12_isTakenAway 38 = .ok (.ifCond .le 105, 3) := by decide +kernel
theorem dX12_isTakenAway_143 : decode cX12_isTakenAway 143 = .ok (.aload_n 0, 1) := by decide +kernel
theorem dX12_isTakenAway_144 : decode cX12_isTakenAway 144 = .ok (.getfield 35, 3) := by decide +kernel
theorem dX12_isTakenAway_147 : decode cX12_isTakenAway 147 = .ok (.iconst 0, 1) := by decide +kernel
theorem dX12_isTakenAway_148 : decode cX12_isTakenAway 148 = .ok (.baload, 1) := by decide +kernel
theorem dX12_isTakenAway_149 : decode cX12_isTakenAway 149 = .ok (.ireturn, 1) := by decide +kernel
theorem dX12_canTakeAway_16 : decode cX12_canTakeAway 16 = .ok (.invokevirtual 343, 3) := by decide +kernel
theorem dX12_canTakeAway_19 : decode cX12_canTakeAway 19 = .ok (.ireturn, 1) := by decide +kernel
theorem dL_law_1658 : decode cL_law 1658 = .ok (.if_icmp .eq 305, 3) := by decide +kernel
theorem dL_law_1663 : decode cL_law 1663 = .ok (.aload_n 1, 1) := by decide +kernel
theorem dL_law_1664 : decode cL_law 1664 = .ok (.invokevirtual 216, 3) := by decide +kernel
theorem dX6_orders_0 : decode cX6_orders 0 = .ok (.aload_n 0, 1) := by decide +kernel
theorem dX6_orders_1 : decode cX6_orders 1 = .ok (.getfield 40, 3) := by decide +kernel
theorem dX6_orders_4 : decode cX6_orders 4 = .ok (.aload_n 0, 1) := by decide +kernel
theorem dX6_orders_5 : decode cX6_orders 5 = .ok (.getfield 12, 3) := by decide +kernel
theorem dX6_orders_8 : decode cX6_orders 8 = .ok (.aload_n 0, 1) := by decide +kernel
theorem dX6_orders_9 : decode cX6_orders 9 = .ok (.getfield 26, 3) := by decide +kernel
theorem dX6_orders_12 : decode cX6_orders 12 = .ok (.invokevirtual 247, 3) := by decide +kernel
theorem dX6_orders_15 : decode cX6_orders 15 = .ok (.aload_n 0, 1) := by decide +kernel
theorem dX6_orders_16 : decode cX6_orders 16 = .ok (.getfield 40, 3) := by decide +kernel
theorem dX6_orders_19 : decode cX6_orders 19 = .ok (.invokevirtual 250, 3) := by decide +kernel
theorem dX6_orders_22 : decode cX6_orders 22 = .ok (.ireturn, 1) := by decide +kernel
theorem dL_law_1667 : decode cL_law 1667 = .ok (.aload_n 2, 1) := by decide +kernel
theorem dL_law_1668 : decode cL_law 1668 = .ok (.invokevirtual 219, 3) := by decide +kernel
theorem dX12_orders_0 : decode cX12_orders 0 = .ok (.aload_n 0, 1) := by decide +kernel
theorem dX12_orders_1 : decode cX12_orders 1 = .ok (.invokevirtual 392, 3) := by decide +kernel
theorem dX12_orders_4 : decode cX12_orders 4 = .ok (.aload_n 0, 1) := by decide +kernel
theorem dX12_orders_5 : decode cX12_orders 5 = .ok (.aload_n 0, 1) := by decide +kernel
theorem dX12_orders_6 : decode cX12_orders 6 = .ok (.getfield 42, 3) := by decide +kernel
theorem dX12_orders_9 : decode cX12_orders 9 = .ok (.iconst 0, 1) := by decide +kernel
theorem dX12_orders_10 : decode cX12_orders 10 = .ok (.iaload, 1) := by decide +kernel
theorem dX12_orders_11 : decode cX12_orders 11 = .ok (.invokevirtual 302, 3) := by decide +kernel
theorem dX12_orders_14 : decode cX12_orders 14 = .ok (.ireturn, 1) := by decide +kernel
theorem dL_law_1671 : decode cL_law 1671 = .ok (.if_icmp .eq 292, 3) := by decide +kernel
theorem dL_law_1676 : decode cL_law 1676 = .ok (.aload_n 1, 1) := by decide +kernel
theorem dL_law_1677 : decode cL_law 1677 = .ok (.aload_n 0, 1) := by decide +kernel
theorem dL_law_1678 : decode cL_law 1678 = .ok (.iload 5, 2) := by decide +kernel
theorem dL_law_1680 : decode cL_law 1680 = .ok (.iconst 1, 1) := by decide +kernel
theorem dL_law_1681 : decode cL_law 1681 = .ok (.iadd, 1) := by decide +kernel
theorem dL_law_1682 : decode cL_law 1682 = .ok (.iaload, 1) := by decide +kernel
theorem dL_law_1683 : decode cL_law 1683 = .ok (.aload_n 3, 1) := by decide +kernel
theorem dL_law_1684 : decode cL_law 1684 = .ok (.invokestatic 220, 3) := by decide +kernel
theorem dL_props_0 : decode cL_props 0 = .ok (.aload_n 2, 1) := by decide +kernel
theorem dL_props_1 : decode cL_props 1 = .ok (.iconst 0, 1) := by decide +kernel
theorem dL_props_2 : decode cL_props 2 = .ok (.aload_n 0, 1) := by decide +kernel
theorem dL_props_3 : decode cL_props 3 = .ok (.iload_n 1, 1) := by decide +kernel
theorem dL_props_4 : decode cL_props 4 = .ok (.invokevirtual 95, 3) := by decide +kernel
theorem dX6_props_0 : decode cX6_props 0 = .ok (.aload_n 0, 1) := by decide +kernel
theorem dX6_props_1 : decode cX6_props 1 = .ok (.iload_n 1, 1) := by decide +kernel
theorem dX6_props_2 : decode cX6_props 2 = .ok (.invokevirtual 241, 3) := by decide +kernel
theorem dL_props_15 : decode cL_props 15 = .ok (.astore_n 3, 1) := by decide +kernel
theorem dL_props_16 : decode cL_props 16 = .ok (.iconst 2, 1) := by decide +kernel
theorem dL_props_17 : decode cL_props 17 = .ok (.ireturn, 1) := by decide +kernel
theorem dL_law_1687 : decode cL_law 1687 = .ok (.istore 6, 2) := by decide +kernel
theorem dL_law_1689 : decode cL_law 1689 = .ok (.aload_n 2, 1) := by decide +kernel
theorem dL_law_1690 : decode cL_law 1690 = .ok (.aload_n 0, 1) := by decide +kernel
theorem dL_law_1691 : decode cL_law 1691 = .ok (.iload 5, 2) := by decide +kernel
theorem dL_law_1693 : decode cL_law 1693 = .ok (.iconst 1, 1) := by decide +kernel
theorem dL_law_1694 : decode cL_law 1694 = .ok (.iadd, 1) := by decide +kernel
theorem dL_law_1695 : decode cL_law 1695 = .ok (.iaload, 1) := by decide +kernel
theorem dL_law_1696 : decode cL_law 1696 = .ok (.invokevirtual 222, 3) := by decide +kernel
theorem dX12_props_0 : decode cX12_props 0 = .ok (.aload_n 0, 1) := by decide +kernel
theorem dX12_props_1 : decode cX12_props 1 = .ok (.invokevirtual 395, 3) := by decide +kernel
theorem dX12_props_4 : decode cX12_props 4 = .ok (.ifCond .ne 9, 3) := by decide +kernel
theorem dX12_props_13 : decode cX12_props 13 = .ok (.iload_n 1, 1) := by decide +kernel
theorem dX12_props_14 : decode cX12_props 14 = .ok (.i2l, 1) := by decide +kernel
theorem dX12_props_15 : decode cX12_props 15 = .ok (.iconst 0, 1) := by decide +kernel
theorem dX12_props_16 : decode cX12_props 16 = .ok (.aload_n 0, 1) := by decide +kernel
theorem dX12_props_17 : decode cX12_props 17 = .ok (.getfield 16, 3) := by decide +kernel
theorem dX12_props_20 : decode cX12_props 20 = .ok (.invokevirtual 125, 3) := by decide +kernel
theorem dX12_props_23 : decode cX12_props 23 = .ok (.iconst 1, 1) := by decide +kernel
theorem dX12_props_24 : decode cX12_props 24 = .ok (.isub, 1) := by decide +kernel
theorem dX12_props_25 : decode cX12_props 25 = .ok (.invokestatic 285, 3) := by decide +kernel
theorem dX12_props_28 : decode cX12_props 28 = .ok (.ifCond .ne 9, 3) := by decide +kernel
theorem dX12_props_31 : decode cX12_props 31 = .ok (.aload_n 0, 1) := by decide +kernel
theorem dX12_props_32 : decode cX12_props 32 = .ok (.iconst 2, 1) := by decide +kernel
theorem dX12_props_33 : decode cX12_props 33 = .ok (.invokevirtual 289, 3) := by decide +kernel
theorem dX12_props_36 : decode cX12_props 36 = .ok (.ireturn, 1) := by decide +kernel
theorem dL_law_1699 : decode cL_law 1699 = .ok (.istore 7, 2) := by decide +kernel
theorem dL_law_1701 : decode cL_law 1701 = .ok (.aload_n 2, 1) := by decide +kernel
theorem dL_law_1702 : decode cL_law 1702 = .ok (.invokevirtual 125, 3) := by decide +kernel
theorem dL_law_1705 : decode cL_law 1705 = .ok (.iload 6, 2) := by decide +kernel
theorem dL_law_1707 : decode cL_law 1707 = .ok (.if_icmp .eq 5, 3) := by decide +kernel
theorem dL_law_1712 : decode cL_law 1712 = .ok (.iload 6, 2) := by decide +kernel
theorem dL_law_1714 : decode cL_law 1714 = .ok (.ifCond .ne 15, 3) := by decide +kernel
theorem dL_law_1729 : decode cL_law 1729 = .ok (.goto 234, 3) := by decide +kernel
theorem dL_law_1732 : decode cL_law 1732 = .ok (.aload_n 1, 1) := by decide +kernel
theorem dL_law_1733 : decode cL_law 1733 = .ok (.aload_n 3, 1) := by decide +kernel
theorem dL_law_1734 : decode cL_law 1734 = .ok (.invokestatic 223, 3) := by decide +kernel
theorem dL_stuck_0 : decode cL_stuck 0 = .ok (.aload_n 1, 1) := by decide +kernel
theorem dL_stuck_1 : decode cL_stuck 1 = .ok (.iconst 0, 1) := by decide +kernel
theorem dL_stuck_2 : decode cL_stuck 2 = .ok (.aload_n 0, 1) := by decide +kernel
theorem dL_stuck_3 : decode cL_stuck 3 = .ok (.invokevirtual 98, 3) := by decide +kernel
theorem dX6_stuck_0 : decode cX6_stuck 0 = .ok (.aload_n 0, 1) := by decide +kernel
theorem dX6_stuck_1 : decode cX6_stuck 1 = .ok (.getfield 40, 3) := by decide +kernel
theorem dX6_stuck_4 : decode cX6_stuck 4 = .ok (.aload_n 0, 1) := by decide +kernel
theorem dX6_stuck_5 : decode cX6_stuck 5 = .ok (.getfield 12, 3) := by decide +kernel
theorem dX6_stuck_8 : decode cX6_stuck 8 = .ok (.aload_n 0, 1) := by decide +kernel
theorem dX6_stuck_9 : decode cX6_stuck 9 = .ok (.getfield 26, 3) := by decide +kernel
theorem dX6_stuck_12 : decode cX6_stuck 12 = .ok (.invokevirtual 247, 3) := by decide +kernel
theorem dX6_stuck_15 : decode cX6_stuck 15 = .ok (.aload_n 0, 1) := by decide +kernel
theorem dX6_stuck_16 : decode cX6_stuck 16 = .ok (.getfield 40, 3) := by decide +kernel
theorem dX6_stuck_19 : decode cX6_stuck 19 = .ok (.invokevirtual 261, 3) := by decide +kernel
theorem dX4_lowestStuck_0 : decode cX4_lowestStuck 0 = .ok (.iconst 0, 1) := by decide +kernel
theorem dX4_lowestStuck_1 : decode cX4_lowestStuck 1 = .ok (.istore_n 1, 1) := by decide +kernel
theorem dX4_lowestStuck_2 : decode cX4_lowestStuck 2 = .ok (.iload_n 1, 1) := by decide +kernel
theorem dX4_lowestStuck_3 : decode cX4_lowestStuck 3 = .ok (.bipush 9, 2) := by decide +kernel
theorem dX4_lowestStuck_5 : decode cX4_lowestStuck 5 = .ok (.if_icmp .ge 38, 3) := by decide +kernel
theorem dX4_lowestStuck_8 : decode cX4_lowestStuck 8 = .ok (.iconst 1, 1) := by decide +kernel
theorem dX4_lowestStuck_9 : decode cX4_lowestStuck 9 = .ok (.iload_n 1, 1) := by decide +kernel
theorem dX4_lowestStuck_10 : decode cX4_lowestStuck 10 = .ok (.ishl, 1) := by decide +kernel
theorem dX4_lowestStuck_11 : decode cX4_lowestStuck 11 = .ok (.istore_n 2, 1) := by decide +kernel
theorem dX4_lowestStuck_12 : decode cX4_lowestStuck 12 = .ok (.aload_n 0, 1) := by decide +kernel
theorem dX4_lowestStuck_13 : decode cX4_lowestStuck 13 = .ok (.getfield 34, 3) := by decide +kernel
theorem dX4_lowestStuck_16 : decode cX4_lowestStuck 16 = .ok (.iload_n 2, 1) := by decide +kernel
theorem dX4_lowestStuck_17 : decode cX4_lowestStuck 17 = .ok (.iand, 1) := by decide +kernel
theorem dX4_lowestStuck_18 : decode cX4_lowestStuck 18 = .ok (.ifCond .eq 19, 3) := by decide +kernel
theorem dX4_lowestStuck_37 : decode cX4_lowestStuck 37 = .ok (.iinc 1 1, 3) := by decide +kernel
theorem dX4_lowestStuck_40 : decode cX4_lowestStuck 40 = .ok (.goto (-38), 3) := by decide +kernel
theorem dX4_lowestStuck_43 : decode cX4_lowestStuck 43 = .ok (.iconst (-1), 1) := by decide +kernel
theorem dX4_lowestStuck_44 : decode cX4_lowestStuck 44 = .ok (.ireturn, 1) := by decide +kernel
theorem dX6_stuck_22 : decode cX6_stuck 22 = .ok (.istore_n 1, 1) := by decide +kernel
theorem dX6_stuck_23 : decode cX6_stuck 23 = .ok (.iload_n 1, 1) := by decide +kernel
theorem dX6_stuck_24 : decode cX6_stuck 24 = .ok (.ifCond .ge 14, 3) := by decide +kernel
theorem dX6_stuck_27 : decode cX6_stuck 27 = .ok (.new 142, 3) := by decide +kernel
theorem dX6_stuck_30 : decode cX6_stuck 30 = .ok (.dup, 1) := by decide +kernel
theorem dX6_stuck_31 : decode cX6_stuck 31 = .ok (.ldc_w 264, 3) := by decide +kernel
theorem dX6_stuck_34 : decode cX6_stuck 34 = .ok (.invokespecial 146, 3) := by decide +kernel
theorem dX6_stuck_37 : decode cX6_stuck 37 = .ok (.athrow, 1) := by decide +kernel
theorem dL_stuck_11 : decode cL_stuck 11 = .ok (.astore_n 2, 1) := by decide +kernel
theorem dL_stuck_12 : decode cL_stuck 12 = .ok (.iconst 1, 1) := by decide +kernel
theorem dL_stuck_13 : decode cL_stuck 13 = .ok (.ireturn, 1) := by decide +kernel
theorem dL_law_1737 : decode cL_law 1737 = .ok (.istore 6, 2) := by decide +kernel
theorem dL_law_1739 : decode cL_law 1739 = .ok (.aload_n 2, 1) := by decide +kernel
theorem dL_law_1740 : decode cL_law 1740 = .ok (.invokevirtual 225, 3) := by decide +kernel
theorem dX12_stuck_0 : decode cX12_stuck 0 = .ok (.iconst 1, 1) := by decide +kernel
theorem dX12_stuck_1 : decode cX12_stuck 1 = .ok (.aload_n 0, 1) := by decide +kernel
theorem dX12_stuck_2 : decode cX12_stuck 2 = .ok (.getfield 16, 3) := by decide +kernel
theorem dX12_stuck_5 : decode cX12_stuck 5 = .ok (.invokevirtual 125, 3) := by decide +kernel
theorem dX12_stuck_8 : decode cX12_stuck 8 = .ok (.ishl, 1) := by decide +kernel
theorem dX12_stuck_9 : decode cX12_stuck 9 = .ok (.iconst 1, 1) := by decide +kernel
theorem dX12_stuck_10 : decode cX12_stuck 10 = .ok (.isub, 1) := by decide +kernel
theorem dX12_stuck_11 : decode cX12_stuck 11 = .ok (.istore_n 1, 1) := by decide +kernel
theorem dX12_stuck_12 : decode cX12_stuck 12 = .ok (.iconst 0, 1) := by decide +kernel
theorem dX12_stuck_13 : decode cX12_stuck 13 = .ok (.istore_n 2, 1) := by decide +kernel
theorem dX12_stuck_14 : decode cX12_stuck 14 = .ok (.iload_n 2, 1) := by decide +kernel
theorem dX12_stuck_15 : decode cX12_stuck 15 = .ok (.aload_n 0, 1) := by decide +kernel
theorem dX12_stuck_16 : decode cX12_stuck 16 = .ok (.getfield 16, 3) := by decide +kernel
theorem dX12_stuck_19 : decode cX12_stuck 19 = .ok (.invokevirtual 125, 3) := by decide +kernel
theorem dX12_stuck_22 : decode cX12_stuck 22 = .ok (.if_icmp .ge 30, 3) := by decide +kernel
theorem dX12_stuck_52 : decode cX12_stuck 52 = .ok (.aload_n 0, 1) := by decide +kernel
theorem dX12_stuck_53 : decode cX12_stuck 53 = .ok (.iconst 1, 1) := by decide +kernel
theorem dX12_stuck_54 : decode cX12_stuck 54 = .ok (.invokevirtual 289, 3) := by decide +kernel
theorem dX12_stuck_57 : decode cX12_stuck 57 = .ok (.ireturn, 1) := by decide +kernel
theorem dL_law_1743 : decode cL_law 1743 = .ok (.istore 7, 2) := by decide +kernel
theorem dL_law_1745 : decode cL_law 1745 = .ok (.aload_n 2, 1) := by decide +kernel
theorem dL_law_1746 : decode cL_law 1746 = .ok (.invokevirtual 125, 3) := by decide +kernel
theorem dL_law_1749 : decode cL_law 1749 = .ok (.iload 6, 2) := by decide +kernel
theorem dL_law_1751 : decode cL_law 1751 = .ok (.if_icmp .eq 5, 3) := by decide +kernel
theorem dL_law_1756 : decode cL_law 1756 = .ok (.iload 6, 2) := by decide +kernel
theorem dL_law_1758 : decode cL_law 1758 = .ok (.ifCond .ne 15, 3) := by decide +kernel
theorem dL_law_1773 : decode cL_law 1773 = .ok (.goto 190, 3) := by decide +kernel
theorem dL_law_1776 : decode cL_law 1776 = .ok (.aload_n 1, 1) := by decide +kernel
theorem dL_law_1777 : decode cL_law 1777 = .ok (.aload_n 3, 1) := by decide +kernel
theorem dL_law_1778 : decode cL_law 1778 = .ok (.invokestatic 226, 3) := by decide +kernel
theorem dL_allForce_0 : decode cL_allForce 0 = .ok (.aload_n 1, 1) := by decide +kernel
theorem dL_allForce_1 : decode cL_allForce 1 = .ok (.iconst 0, 1) := by decide +kernel
theorem dL_allForce_2 : decode cL_allForce 2 = .ok (.aload_n 0, 1) := by decide +kernel
theorem dL_allForce_3 : decode cL_allForce 3 = .ok (.invokevirtual 101, 3) := by decide +kernel
theorem dX6_allForce_0 : decode cX6_allForce 0 = .ok (.aload_n 0, 1) := by decide +kernel
theorem dX6_allForce_1 : decode cX6_allForce 1 = .ok (.invokevirtual 121, 3) := by decide +kernel
theorem dX6_allForce_4 : decode cX6_allForce 4 = .ok (.lconst 0, 1) := by decide +kernel
theorem dX6_allForce_5 : decode cX6_allForce 5 = .ok (.lstore_n 1, 1) := by decide +kernel
theorem dX6_allForce_6 : decode cX6_allForce 6 = .ok (.iconst 0, 1) := by decide +kernel
theorem dX6_allForce_7 : decode cX6_allForce 7 = .ok (.istore_n 3, 1) := by decide +kernel
theorem dX6_allForce_8 : decode cX6_allForce 8 = .ok (.iload_n 3, 1) := by decide +kernel
theorem dX6_allForce_9 : decode cX6_allForce 9 = .ok (.aload_n 0, 1) := by decide +kernel
theorem dX6_allForce_10 : decode cX6_allForce 10 = .ok (.getfield 12, 3) := by decide +kernel
theorem dX6_allForce_13 : decode cX6_allForce 13 = .ok (.getfield 93, 3) := by decide +kernel
theorem dX6_allForce_16 : decode cX6_allForce 16 = .ok (.if_icmp .ge 24, 3) := by decide +kernel
theorem dX6_allForce_40 : decode cX6_allForce 40 = .ok (.lload_n 1, 1) := by decide +kernel
theorem dX6_allForce_41 : decode cX6_allForce 41 = .ok (.lreturn, 1) := by decide +kernel
theorem dL_allForce_6 : decode cL_allForce 6 = .ok (.lastore, 1) := by decide +kernel
theorem dL_allForce_7 : decode cL_allForce 7 = .ok (.goto 6, 3) := by decide +kernel
theorem dL_allForce_13 : decode cL_allForce 13 = .ok (.iconst 0, 1) := by decide +kernel
theorem dL_allForce_14 : decode cL_allForce 14 = .ok (.ireturn, 1) := by decide +kernel
theorem dL_law_1781 : decode cL_law 1781 = .ok (.istore 6, 2) := by decide +kernel
theorem dL_law_1783 : decode cL_law 1783 = .ok (.aload_n 2, 1) := by decide +kernel
theorem dL_law_1784 : decode cL_law 1784 = .ok (.invokevirtual 228, 3) := by decide +kernel
theorem dX12_allForce_0 : decode cX12_allForce 0 = .ok (.aload_n 0, 1) := by decide +kernel
theorem dX12_allForce_1 : decode cX12_allForce 1 = .ok (.invokevirtual 320, 3) := by decide +kernel
theorem dX12_allForce_4 : decode cX12_allForce 4 = .ok (.ifCond .ne 9, 3) := by decide +kernel
theorem dX12_allForce_13 : decode cX12_allForce 13 = .ok (.lconst 0, 1) := by decide +kernel
theorem dX12_allForce_14 : decode cX12_allForce 14 = .ok (.lstore_n 1, 1) := by decide +kernel
theorem dX12_allForce_15 : decode cX12_allForce 15 = .ok (.iconst 0, 1) := by decide +kernel
theorem dX12_allForce_16 : decode cX12_allForce 16 = .ok (.istore_n 3, 1) := by decide +kernel
theorem dX12_allForce_17 : decode cX12_allForce 17 = .ok (.iload_n 3, 1) := by decide +kernel
theorem dX12_allForce_18 : decode cX12_allForce 18 = .ok (.aload_n 0, 1) := by decide +kernel
theorem dX12_allForce_19 : decode cX12_allForce 19 = .ok (.getfield 16, 3) := by decide +kernel
theorem dX12_allForce_22 : decode cX12_allForce 22 = .ok (.invokevirtual 125, 3) := by decide +kernel
theorem dX12_allForce_25 : decode cX12_allForce 25 = .ok (.if_icmp .ge 20, 3) := by decide +kernel
theorem dX12_allForce_45 : decode cX12_allForce 45 = .ok (.aload_n 0, 1) := by decide +kernel
theorem dX12_allForce_46 : decode cX12_allForce 46 = .ok (.lload_n 1, 1) := by decide +kernel
theorem dX12_allForce_47 : decode cX12_allForce 47 = .ok (.invokevirtual 326, 3) := by decide +kernel
theorem dX12_tellLong_0 : decode cX12_tellLong 0 = .ok (.aload_n 0, 1) := by decide +kernel
theorem dX12_tellLong_1 : decode cX12_tellLong 1 = .ok (.iconst 0, 1) := by decide +kernel
theorem dX12_tellLong_2 : decode cX12_tellLong 2 = .ok (.putfield 74, 3) := by decide +kernel
theorem dX12_tellLong_5 : decode cX12_tellLong 5 = .ok (.lload_n 1, 1) := by decide +kernel
theorem dX12_tellLong_6 : decode cX12_tellLong 6 = .ok (.lreturn, 1) := by decide +kernel
theorem dX12_allForce_50 : decode cX12_allForce 50 = .ok (.lreturn, 1) := by decide +kernel
theorem dL_law_1787 : decode cL_law 1787 = .ok (.lstore 7, 2) := by decide +kernel
theorem dL_law_1789 : decode cL_law 1789 = .ok (.aload_n 2, 1) := by decide +kernel
theorem dL_law_1790 : decode cL_law 1790 = .ok (.invokevirtual 125, 3) := by decide +kernel
theorem dL_law_1793 : decode cL_law 1793 = .ok (.iload 6, 2) := by decide +kernel
theorem dL_law_1795 : decode cL_law 1795 = .ok (.if_icmp .eq 5, 3) := by decide +kernel
theorem dL_law_1800 : decode cL_law 1800 = .ok (.iload 6, 2) := by decide +kernel
theorem dL_law_1802 : decode cL_law 1802 = .ok (.ifCond .ne 14, 3) := by decide +kernel
theorem dL_law_1805 : decode cL_law 1805 = .ok (.aload_n 3, 1) := by decide +kernel
theorem dL_law_1806 : decode cL_law 1806 = .ok (.iconst 0, 1) := by decide +kernel
theorem dL_law_1807 : decode cL_law 1807 = .ok (.laload, 1) := by decide +kernel
theorem dL_law_1808 : decode cL_law 1808 = .ok (.lload 7, 2) := by decide +kernel
theorem dL_law_1810 : decode cL_law 1810 = .ok (.lcmp, 1) := by decide +kernel
theorem dL_law_1811 : decode cL_law 1811 = .ok (.ifCond .eq 5, 3) := by decide +kernel
theorem dL_law_1816 : decode cL_law 1816 = .ok (.goto 147, 3) := by decide +kernel
theorem dL_law_1819 : decode cL_law 1819 = .ok (.aload_n 1, 1) := by decide +kernel
theorem dL_law_1820 : decode cL_law 1820 = .ok (.aload 4, 2) := by decide +kernel
theorem dL_law_1822 : decode cL_law 1822 = .ok (.invokestatic 229, 3) := by decide +kernel
theorem dL_rightShare_0 : decode cL_rightShare 0 = .ok (.aload_n 1, 1) := by decide +kernel
theorem dL_rightShare_1 : decode cL_rightShare 1 = .ok (.iconst 0, 1) := by decide +kernel
theorem dL_rightShare_2 : decode cL_rightShare 2 = .ok (.aload_n 0, 1) := by decide +kernel
theorem dL_rightShare_3 : decode cL_rightShare 3 = .ok (.invokevirtual 105, 3) := by decide +kernel
theorem dX6_rightShare_0 : decode cX6_rightShare 0 = .ok (.aload_n 0, 1) := by decide +kernel
theorem dX6_rightShare_1 : decode cX6_rightShare 1 = .ok (.getfield 26, 3) := by decide +kernel
theorem dX6_rightShare_4 : decode cX6_rightShare 4 = .ok (.getfield 170, 3) := by decide +kernel
theorem dX6_rightShare_7 : decode cX6_rightShare 7 = .ok (.ifCond .ne 13, 3) := by decide +kernel
theorem dX6_rightShare_10 : decode cX6_rightShare 10 = .ok (.new 266, 3) := by decide +kernel
theorem dX6_rightShare_13 : decode cX6_rightShare 13 = .ok (.dup, 1) := by decide +kernel
theorem dX6_rightShare_14 : decode cX6_rightShare 14 = .ok (.ldc 206, 2) := by decide +kernel
theorem dX6_rightShare_16 : decode cX6_rightShare 16 = .ok (.invokespecial 268, 3) := by decide +kernel
theorem dX6_rightShare_19 : decode cX6_rightShare 19 = .ok (.athrow, 1) := by decide +kernel
theorem dL_rightShare_11 : decode cL_rightShare 11 = .ok (.astore_n 2, 1) := by decide +kernel
theorem dL_rightShare_12 : decode cL_rightShare 12 = .ok (.iconst 1, 1) := by decide +kernel
theorem dL_rightShare_13 : decode cL_rightShare 13 = .ok (.ireturn, 1) := by decide +kernel
theorem dL_law_1825 : decode cL_law 1825 = .ok (.istore 6, 2) := by decide +kernel
theorem dL_law_1827 : decode cL_law 1827 = .ok (.aload_n 2, 1) := by decide +kernel
theorem dL_law_1828 : decode cL_law 1828 = .ok (.invokevirtual 232, 3) := by decide +kernel
theorem dX12_rightShare_0 : decode cX12_rightShare 0 = .ok (.iconst 0, 1) := by decide +kernel
theorem dX12_rightShare_1 : decode cX12_rightShare 1 = .ok (.istore_n 1, 1) := by decide +kernel
theorem dX12_rightShare_2 : decode cX12_rightShare 2 = .ok (.iconst 0, 1) := by decide +kernel
theorem dX12_rightShare_3 : decode cX12_rightShare 3 = .ok (.istore_n 2, 1) := by decide +kernel
theorem dX12_rightShare_4 : decode cX12_rightShare 4 = .ok (.iload_n 2, 1) := by decide +kernel
theorem dX12_rightShare_5 : decode cX12_rightShare 5 = .ok (.aload_n 0, 1) := by decide +kernel
theorem dX12_rightShare_6 : decode cX12_rightShare 6 = .ok (.getfield 19, 3) := by decide +kernel
theorem dX12_rightShare_9 : decode cX12_rightShare 9 = .ok (.invokevirtual 125, 3) := by decide +kernel
theorem dX12_rightShare_12 : decode cX12_rightShare 12 = .ok (.if_icmp .ge 35, 3) := by decide +kernel
theorem dX12_rightShare_47 : decode cX12_rightShare 47 = .ok (.aload_n 0, 1) := by decide +kernel
theorem dX12_rightShare_48 : decode cX12_rightShare 48 = .ok (.aload_n 0, 1) := by decide +kernel
theorem dX12_rightShare_49 : decode cX12_rightShare 49 = .ok (.getfield 19, 3) := by decide +kernel
theorem dX12_rightShare_52 : decode cX12_rightShare 52 = .ok (.invokevirtual 401, 3) := by decide +kernel
theorem dJx4a65c_isEmpty_aae02_0 : decode cJx4a65c_isEmpty_aae02 0 = .ok (.aload_n 0, 1) := by decide +kernel
theorem dJx4a65c_isEmpty_aae02_1 : decode cJx4a65c_isEmpty_aae02 1 = .ok (.getfield 48, 3) := by decide +kernel
theorem dJx4a65c_isEmpty_aae02_4 : decode cJx4a65c_isEmpty_aae02 4 = .ok (.ifCond .ne 7, 3) := by decide +kernel
theorem dJx4a65c_isEmpty_aae02_7 : decode cJx4a65c_isEmpty_aae02 7 = .ok (.iconst 1, 1) := by decide +kernel
theorem dJx4a65c_isEmpty_aae02_8 : decode cJx4a65c_isEmpty_aae02 8 = .ok (.goto 4, 3) := by decide +kernel
theorem dJx4a65c_isEmpty_aae02_12 : decode cJx4a65c_isEmpty_aae02 12 = .ok (.ireturn, 1) := by decide +kernel
theorem dX12_rightShare_55 : decode cX12_rightShare 55 = .ok (.ifCond .eq 7, 3) := by decide +kernel
theorem dX12_rightShare_58 : decode cX12_rightShare 58 = .ok (.iconst 1, 1) := by decide +kernel
theorem dX12_rightShare_59 : decode cX12_rightShare 59 = .ok (.goto 4, 3) := by decide +kernel
theorem dX12_rightShare_63 : decode cX12_rightShare 63 = .ok (.putfield 74, 3) := by decide +kernel
theorem dX12_rightShare_66 : decode cX12_rightShare 66 = .ok (.aload_n 0, 1) := by decide +kernel
theorem dX12_rightShare_67 : decode cX12_rightShare 67 = .ok (.getfield 74, 3) := by decide +kernel
theorem dX12_rightShare_70 : decode cX12_rightShare 70 = .ok (.ifCond .le 7, 3) := by decide +kernel
theorem dX12_rightShare_73 : decode cX12_rightShare 73 = .ok (.fconst 0, 1) := by decide +kernel
theorem dX12_rightShare_74 : decode cX12_rightShare 74 = .ok (.goto 14, 3) := by decide +kernel
theorem dX12_rightShare_88 : decode cX12_rightShare 88 = .ok (.freturn, 1) := by decide +kernel
theorem dL_law_1831 : decode cL_law 1831 = .ok (.fstore 7, 2) := by decide +kernel
theorem dL_law_1833 : decode cL_law 1833 = .ok (.aload_n 2, 1) := by decide +kernel
theorem dL_law_1834 : decode cL_law 1834 = .ok (.invokevirtual 125, 3) := by decide +kernel
theorem dL_law_1837 : decode cL_law 1837 = .ok (.iload 6, 2) := by decide +kernel
theorem dL_law_1839 : decode cL_law 1839 = .ok (.if_icmp .eq 5, 3) := by decide +kernel
theorem dL_law_1844 : decode cL_law 1844 = .ok (.iload 6, 2) := by decide +kernel
theorem dL_law_1846 : decode cL_law 1846 = .ok (.ifCond .ne 36, 3) := by decide +kernel
theorem dL_law_1882 : decode cL_law 1882 = .ok (.goto 81, 3) := by decide +kernel
theorem dL_law_1885 : decode cL_law 1885 = .ok (.aload_n 1, 1) := by decide +kernel
theorem dL_law_1886 : decode cL_law 1886 = .ok (.aload 4, 2) := by decide +kernel
theorem dL_law_1888 : decode cL_law 1888 = .ok (.invokestatic 233, 3) := by decide +kernel
theorem dL_meanPull_0 : decode cL_meanPull 0 = .ok (.aload_n 1, 1) := by decide +kernel
theorem dL_meanPull_1 : decode cL_meanPull 1 = .ok (.iconst 0, 1) := by decide +kernel
theorem dL_meanPull_2 : decode cL_meanPull 2 = .ok (.aload_n 0, 1) := by decide +kernel
theorem dL_meanPull_3 : decode cL_meanPull 3 = .ok (.invokevirtual 111, 3) := by decide +kernel
theorem dX6_meanPull_0 : decode cX6_meanPull 0 = .ok (.aload_n 0, 1) := by decide +kernel
theorem dX6_meanPull_1 : decode cX6_meanPull 1 = .ok (.invokevirtual 121, 3) := by decide +kernel
theorem dX6_meanPull_4 : decode cX6_meanPull 4 = .ok (.aload_n 0, 1) := by decide +kernel
theorem dX6_meanPull_5 : decode cX6_meanPull 5 = .ok (.getfield 12, 3) := by decide +kernel
theorem dX6_meanPull_8 : decode cX6_meanPull 8 = .ok (.getfield 93, 3) := by decide +kernel
theorem dX6_meanPull_11 : decode cX6_meanPull 11 = .ok (.ifCond .ne 13, 3) := by decide +kernel
theorem dX6_meanPull_14 : decode cX6_meanPull 14 = .ok (.new 266, 3) := by decide +kernel
theorem dX6_meanPull_17 : decode cX6_meanPull 17 = .ok (.dup, 1) := by decide +kernel
theorem dX6_meanPull_18 : decode cX6_meanPull 18 = .ok (.ldc 144, 2) := by decide +kernel
theorem dX6_meanPull_20 : decode cX6_meanPull 20 = .ok (.invokespecial 268, 3) := by decide +kernel
theorem dX6_meanPull_23 : decode cX6_meanPull 23 = .ok (.athrow, 1) := by decide +kernel
theorem dL_meanPull_13 : decode cL_meanPull 13 = .ok (.astore_n 2, 1) := by decide +kernel
theorem dL_meanPull_14 : decode cL_meanPull 14 = .ok (.iconst 2, 1) := by decide +kernel
theorem dL_meanPull_15 : decode cL_meanPull 15 = .ok (.ireturn, 1) := by decide +kernel
theorem dL_law_1891 : decode cL_law 1891 = .ok (.istore 6, 2) := by decide +kernel
theorem dL_law_1893 : decode cL_law 1893 = .ok (.aload_n 2, 1) := by decide +kernel
theorem dL_law_1894 : decode cL_law 1894 = .ok (.invokevirtual 235, 3) := by decide +kernel
theorem dX12_meanPull_0 : decode cX12_meanPull 0 = .ok (.aload_n 0, 1) := by decide +kernel
theorem dX12_meanPull_1 : decode cX12_meanPull 1 = .ok (.aload_n 0, 1) := by decide +kernel
theorem dX12_meanPull_2 : decode cX12_meanPull 2 = .ok (.invokevirtual 320, 3) := by decide +kernel
theorem dX12_meanPull_5 : decode cX12_meanPull 5 = .ok (.ifCond .ne 7, 3) := by decide +kernel
theorem dX12_meanPull_12 : decode cX12_meanPull 12 = .ok (.aload_n 0, 1) := by decide +kernel
theorem dX12_meanPull_13 : decode cX12_meanPull 13 = .ok (.getfield 16, 3) := by decide +kernel
theorem dX12_meanPull_16 : decode cX12_meanPull 16 = .ok (.invokevirtual 401, 3) := by decide +kernel
theorem dX12_meanPull_19 : decode cX12_meanPull 19 = .ok (.ifCond .eq 7, 3) := by decide +kernel
theorem dX12_meanPull_22 : decode cX12_meanPull 22 = .ok (.iconst 2, 1) := by decide +kernel
theorem dX12_meanPull_23 : decode cX12_meanPull 23 = .ok (.goto 4, 3) := by decide +kernel
theorem dX12_meanPull_27 : decode cX12_meanPull 27 = .ok (.putfield 74, 3) := by decide +kernel
theorem dX12_meanPull_30 : decode cX12_meanPull 30 = .ok (.aload_n 0, 1) := by decide +kernel
theorem dX12_meanPull_31 : decode cX12_meanPull 31 = .ok (.getfield 74, 3) := by decide +kernel
theorem dX12_meanPull_34 : decode cX12_meanPull 34 = .ok (.ifCond .le 5, 3) := by decide +kernel
theorem dX12_meanPull_37 : decode cX12_meanPull 37 = .ok (.dconst 0, 1) := by decide +kernel
theorem dX12_meanPull_38 : decode cX12_meanPull 38 = .ok (.dreturn, 1) := by decide +kernel
theorem dL_law_1897 : decode cL_law 1897 = .ok (.dstore 7, 2) := by decide +kernel
theorem dL_law_1899 : decode cL_law 1899 = .ok (.aload_n 2, 1) := by decide +kernel
theorem dL_law_1900 : decode cL_law 1900 = .ok (.invokevirtual 125, 3) := by decide +kernel
theorem dL_law_1903 : decode cL_law 1903 = .ok (.iload 6, 2) := by decide +kernel
theorem dL_law_1905 : decode cL_law 1905 = .ok (.if_icmp .eq 5, 3) := by decide +kernel
theorem dL_law_1910 : decode cL_law 1910 = .ok (.iload 6, 2) := by decide +kernel
theorem dL_law_1912 : decode cL_law 1912 = .ok (.ifCond .ne 35, 3) := by decide +kernel
theorem dL_law_1947 : decode cL_law 1947 = .ok (.goto 16, 3) := by decide +kernel
theorem dL_law_1950 : decode cL_law 1950 = .ok (.aload_n 1, 1) := by decide +kernel
theorem dL_law_1951 : decode cL_law 1951 = .ok (.invokevirtual 236, 3) := by decide +kernel
theorem dX6_isSound_0 : decode cX6_isSound 0 = .ok (.aload_n 0, 1) := by decide +kernel
theorem dX6_isSound_1 : decode cX6_isSound 1 = .ok (.getfield 19, 3) := by decide +kernel
theorem dX6_isSound_4 : decode cX6_isSound 4 = .ok (.aload_n 0, 1) := by decide +kernel
theorem dX6_isSound_5 : decode cX6_isSound 5 = .ok (.getfield 12, 3) := by decide +kernel
theorem dX6_isSound_8 : decode cX6_isSound 8 = .ok (.invokevirtual 110, 3) := by decide +kernel
theorem dX6_isSound_11 : decode cX6_isSound 11 = .ok (.aload_n 0, 1) := by decide +kernel
theorem dX6_isSound_12 : decode cX6_isSound 12 = .ok (.getfield 19, 3) := by decide +kernel
theorem dX6_isSound_15 : decode cX6_isSound 15 = .ok (.getfield 114, 3) := by decide +kernel
theorem dX6_isSound_18 : decode cX6_isSound 18 = .ok (.bipush 46, 2) := by decide +kernel
theorem dX6_isSound_20 : decode cX6_isSound 20 = .ok (.if_icmp .ne 34, 3) := by decide +kernel
theorem dX6_isSound_23 : decode cX6_isSound 23 = .ok (.iconst 0, 1) := by decide +kernel
theorem dX6_isSound_24 : decode cX6_isSound 24 = .ok (.istore_n 1, 1) := by decide +kernel
theorem dX6_isSound_25 : decode cX6_isSound 25 = .ok (.iload_n 1, 1) := by decide +kernel
theorem dX6_isSound_26 : decode cX6_isSound 26 = .ok (.bipush 30, 2) := by decide +kernel
theorem dX6_isSound_28 : decode cX6_isSound 28 = .ok (.if_icmp .gt 26, 3) := by decide +kernel
theorem dX6_isSound_31 : decode cX6_isSound 31 = .ok (.aload_n 0, 1) := by decide +kernel
theorem dX6_isSound_32 : decode cX6_isSound 32 = .ok (.getfield 19, 3) := by decide +kernel
theorem dX6_isSound_35 : decode cX6_isSound 35 = .ok (.aload_n 0, 1) := by decide +kernel
theorem dX6_isSound_36 : decode cX6_isSound 36 = .ok (.getfield 12, 3) := by decide +kernel
theorem dX6_isSound_39 : decode cX6_isSound 39 = .ok (.iload_n 1, 1) := by decide +kernel
theorem dX6_isSound_40 : decode cX6_isSound 40 = .ok (.invokevirtual 138, 3) := by decide +kernel
theorem dX6_isSound_43 : decode cX6_isSound 43 = .ok (.ifCond .ne 5, 3) := by decide +kernel
theorem dX6_isSound_48 : decode cX6_isSound 48 = .ok (.iinc 1 1, 3) := by decide +kernel
theorem dX6_isSound_51 : decode cX6_isSound 51 = .ok (.goto (-26), 3) := by decide +kernel
theorem dX6_isSound_54 : decode cX6_isSound 54 = .ok (.aload_n 0, 1) := by decide +kernel
theorem dX6_isSound_55 : decode cX6_isSound 55 = .ok (.invokevirtual 273, 3) := by decide +kernel
theorem dX6_isSound_58 : decode cX6_isSound 58 = .ok (.aload_n 0, 1) := by decide +kernel
theorem dX6_isSound_59 : decode cX6_isSound 59 = .ok (.invokevirtual 277, 3) := by decide +kernel
theorem dX4_find_7 : decode cX4_find 7 = .ok (.return_, 1) := by decide +kernel
theorem dX6_isSound_62 : decode cX6_isSound 62 = .ok (.if_icmp .ne 7, 3) := by decide +kernel
theorem dX6_isSound_65 : decode cX6_isSound 65 = .ok (.iconst 1, 1) := by decide +kernel
theorem dX6_isSound_66 : decode cX6_isSound 66 = .ok (.goto 4, 3) := by decide +kernel
theorem dX6_isSound_70 : decode cX6_isSound 70 = .ok (.ireturn, 1) := by decide +kernel
theorem dL_law_1954 : decode cL_law 1954 = .ok (.aload_n 2, 1) := by decide +kernel
theorem dL_law_1955 : decode cL_law 1955 = .ok (.invokevirtual 239, 3) := by decide +kernel
theorem dX12_isSound_0 : decode cX12_isSound 0 = .ok (.aload_n 0, 1) := by decide +kernel
theorem dX12_isSound_1 : decode cX12_isSound 1 = .ok (.iconst 1, 1) := by decide +kernel
theorem dX12_isSound_2 : decode cX12_isSound 2 = .ok (.invokevirtual 343, 3) := by decide +kernel
theorem dX12_isSound_5 : decode cX12_isSound 5 = .ok (.ireturn, 1) := by decide +kernel
theorem dL_law_1958 : decode cL_law 1958 = .ok (.if_icmp .eq 5, 3) := by decide +kernel
theorem dL_law_1963 : decode cL_law 1963 = .ok (.iinc 5 6, 3) := by decide +kernel
theorem dL_law_1966 : decode cL_law 1966 = .ok (.goto (-1938), 3) := by decide +kernel
theorem dL_law_28 : decode cL_law 28 = .ok (.iload 5, 2) := by decide +kernel
theorem dL_law_30 : decode cL_law 30 = .ok (.aload_n 0, 1) := by decide +kernel
theorem dL_law_31 : decode cL_law 31 = .ok (.arraylength, 1) := by decide +kernel
theorem dL_law_32 : decode cL_law 32 = .ok (.bipush 6, 2) := by decide +kernel
theorem dL_law_34 : decode cL_law 34 = .ok (.isub, 1) := by decide +kernel
theorem dL_law_35 : decode cL_law 35 = .ok (.if_icmp .gt 1934, 3) := by decide +kernel
theorem dL_law_1969 : decode cL_law 1969 = .ok (.iconst 1, 1) := by decide +kernel
theorem dL_law_1970 : decode cL_law 1970 = .ok (.ireturn, 1) := by decide +kernel
theorem dL_law_0 : decode cL_law 0 = .ok (.new 8, 3) := by decide +kernel
theorem dL_law_3 : decode cL_law 3 = .ok (.dup, 1) := by decide +kernel
theorem dL_law_4 : decode cL_law 4 = .ok (.invokespecial 115, 3) := by decide +kernel
theorem dL_law_7 : decode cL_law 7 = .ok (.astore_n 1, 1) := by decide +kernel
theorem dL_law_8 : decode cL_law 8 = .ok (.new 116, 3) := by decide +kernel
theorem dL_law_11 : decode cL_law 11 = .ok (.dup, 1) := by decide +kernel
theorem dL_law_12 : decode cL_law 12 = .ok (.invokespecial 118, 3) := by decide +kernel
theorem dL_law_15 : decode cL_law 15 = .ok (.astore_n 2, 1) := by decide +kernel
theorem dL_law_16 : decode cL_law 16 = .ok (.iconst 1, 1) := by decide +kernel
theorem dL_law_17 : decode cL_law 17 = .ok (.newarray .long, 2) := by decide +kernel
theorem dL_law_19 : decode cL_law 19 = .ok (.astore_n 3, 1) := by decide +kernel
theorem dL_law_20 : decode cL_law 20 = .ok (.iconst 1, 1) := by decide +kernel
theorem dL_law_21 : decode cL_law 21 = .ok (.newarray .double, 2) := by decide +kernel
theorem dL_law_23 : decode cL_law 23 = .ok (.astore 4, 2) := by decide +kernel
theorem dL_law_25 : decode cL_law 25 = .ok (.iconst 0, 1) := by decide +kernel
theorem dL_law_26 : decode cL_law 26 = .ok (.istore 5, 2) := by decide +kernel
theorem dL_law_38 : decode cL_law 38 = .ok (.aload_n 0, 1) := by decide +kernel
theorem dL_law_39 : decode cL_law 39 = .ok (.iload 5, 2) := by decide +kernel
theorem dL_law_41 : decode cL_law 41 = .ok (.iaload, 1) := by decide +kernel
theorem dL_law_42 : decode cL_law 42 = .ok (.bipush 63, 2) := by decide +kernel
theorem dL_law_44 : decode cL_law 44 = .ok (.iand, 1) := by decide +kernel
theorem dL_law_45 : decode cL_law 45 = .ok (.tableswitch 1918 0 32 #[147, 229, 321, 401, 414, 469, 524, 607, 670, 714, 820, 883, 939, 952, 1020, 1088, 1144, 1188, 1268, 1324, 1380, 1424, 1480, 1536, 1592, 1605, 1618, 1631, 1687, 1731, 1774, 1840, 1905], 147) := by decide +kernel
end
section
theorem gw0 : Cond.selects RX1 yX1_findPulls yX1_findPulls ∈ GW := gw_of (i := 0) (by decide +kernel) rfl
theorem gw1 : Cond.selects RX1 yX1_fillRows yX1_fillRows ∈ GW := gw_of (i := 1) (by decide +kernel) rfl
theorem gw2 : Cond.selects RX1 yX1_findDeterminants yX1_findDeterminants ∈ GW := gw_of (i := 2) (by decide +kernel) rfl
theorem gw6 : Cond.selects RX1 yX1_findBearings yX1_findBearings ∈ GW := gw_of (i := 6) (by decide +kernel) rfl
theorem gw7 : Cond.selects RX1 yX1_findAmounts yX1_findAmounts ∈ GW := gw_of (i := 7) (by decide +kernel) rfl
theorem gw9 : Cond.selects RX4 yX4_gather yX4_gather ∈ GW := gw_of (i := 9) (by decide +kernel) rfl
theorem gw10 : Cond.selects RX4 yX4_goForward yX4_goForward ∈ GW := gw_of (i := 10) (by decide +kernel) rfl
theorem gw12 : Cond.selects RX4 yX4_goBackward yX4_goBackward ∈ GW := gw_of (i := 12) (by decide +kernel) rfl
theorem gw13 : Cond.selects RX4 yX4_findOrder yX4_findOrder ∈ GW := gw_of (i := 13) (by decide +kernel) rfl
theorem gw15 : Cond.selects RX1 yX1_holdsAlong yX1_holdsAlong ∈ GW := gw_of (i := 15) (by decide +kernel) rfl
theorem gw17 : Cond.selects RX6 yX6_checkNode yX6_checkNode ∈ GW := gw_of (i := 17) (by decide +kernel) rfl
theorem gw18 : Cond.selects RX6 yX6_checkMember yX6_checkMember ∈ GW := gw_of (i := 18) (by decide +kernel) rfl
theorem gw19 : Cond.selects RX6 yX6_checkStanding yX6_checkStanding ∈ GW := gw_of (i := 19) (by decide +kernel) rfl
theorem gw21 : Cond.selects RX6 yX6_checkJoint yX6_checkJoint ∈ GW := gw_of (i := 21) (by decide +kernel) rfl
theorem gw23 : Cond.selects RX6 yX6_checkCut yX6_checkCut ∈ GW := gw_of (i := 23) (by decide +kernel) rfl
theorem gw24 : Cond.selects RX0 yX0_measure yX0_measure ∈ GW := gw_of (i := 24) (by decide +kernel) rfl
theorem gw27 : Cond.selects RX0 yX0_choose yX0_choose ∈ GW := gw_of (i := 27) (by decide +kernel) rfl
theorem gw28 : Cond.selects RX6 yX6_checkPlaceInOrder yX6_checkPlaceInOrder ∈ GW := gw_of (i := 28) (by decide +kernel) rfl
theorem gw29 : Cond.selects RX12 yX12_fails yX12_fails ∈ GW := gw_of (i := 29) (by decide +kernel) rfl
theorem gw30 : Cond.selects RJx4a65c yJx4a65c_add_72be8 yJx4a65c_add_72be8 ∈ GW := gw_of (i := 30) (by decide +kernel) rfl
theorem gw31 : Cond.selects RJx4a65c yJx4a65c_grow_d5877 yJx4a65c_grow_d5877 ∈ GW := gw_of (i := 31) (by decide +kernel) rfl
theorem gw32 : Cond.selects RJx4a65c yJx4a65c_grow_92f84 yJx4a65c_grow_92f84 ∈ GW := gw_of (i := 32) (by decide +kernel) rfl
theorem gw33 : Cond.selects RX12 yX12_changes yX12_changes ∈ GW := gw_of (i := 33) (by decide +kernel) rfl
theorem gw34 : Cond.selects RX12 yX12_tell yX12_tell ∈ GW := gw_of (i := 34) (by decide +kernel) rfl
theorem gw35 : Cond.selects RX12 yX12_isNode yX12_isNode ∈ GW := gw_of (i := 35) (by decide +kernel) rfl
theorem gw36 : Cond.selects RX12 yX12_reckons yX12_reckons ∈ GW := gw_of (i := 36) (by decide +kernel) rfl
theorem gw37 : Cond.selects RX12 yX12_unknowns yX12_unknowns ∈ GW := gw_of (i := 37) (by decide +kernel) rfl
theorem gw38 : Cond.selects RX12 yX12_determinant yX12_determinant ∈ GW := gw_of (i := 38) (by decide +kernel) rfl
theorem gw45 : Cond.selects RX12 yX12_isMember yX12_isMember ∈ GW := gw_of (i := 45) (by decide +kernel) rfl
theorem gw46 : Cond.selects RX12 yX12_failsLong yX12_failsLong ∈ GW := gw_of (i := 46) (by decide +kernel) rfl
theorem gw47 : Cond.selects RX12 yX12_stands yX12_stands ∈ GW := gw_of (i := 47) (by decide +kernel) rfl
theorem gw51 : Cond.selects RX12 yX12_tellLong yX12_tellLong ∈ GW := gw_of (i := 51) (by decide +kernel) rfl
theorem gw54 : Cond.selects RX12 yX12_refuses yX12_refuses ∈ GW := gw_of (i := 54) (by decide +kernel) rfl
theorem gw55 : Cond.selects RX12 yX12_restOf yX12_restOf ∈ GW := gw_of (i := 55) (by decide +kernel) rfl
theorem gw56 : Cond.selects RX12 yX12_tells yX12_tells ∈ GW := gw_of (i := 56) (by decide +kernel) rfl
theorem gw57 : Cond.selects RX12 yX12_isJoint yX12_isJoint ∈ GW := gw_of (i := 57) (by decide +kernel) rfl
theorem gw61 : Cond.selects RX12 yX12_areCut yX12_areCut ∈ GW := gw_of (i := 61) (by decide +kernel) rfl
theorem gw62 : Cond.selects RX12 yX12_saws yX12_saws ∈ GW := gw_of (i := 62) (by decide +kernel) rfl
theorem gw63 : Cond.selects RX12 yX12_sums yX12_sums ∈ GW := gw_of (i := 63) (by decide +kernel) rfl
theorem gw64 : Cond.selects RX12 yX12_areEnough yX12_areEnough ∈ GW := gw_of (i := 64) (by decide +kernel) rfl
theorem gw66 : Cond.selects RX12 yX12_cuts yX12_cuts ∈ GW := gw_of (i := 66) (by decide +kernel) rfl
theorem gw68 : Cond.selects RX12 yX12_hasOrder yX12_hasOrder ∈ GW := gw_of (i := 68) (by decide +kernel) rfl
theorem gw69 : Cond.selects RX12 yX12_raises yX12_raises ∈ GW := gw_of (i := 69) (by decide +kernel) rfl
theorem gw73 : Cond.selects RX12 yX12_isTakenAway yX12_isTakenAway ∈ GW := gw_of (i := 73) (by decide +kernel) rfl
theorem gw74 : Cond.initialized RL ∈ GW := gw_of (i := 74) (by decide +kernel) rfl
theorem gw75 : Cond.initialized RX6 ∈ GW := gw_of (i := 75) (by decide +kernel) rfl
theorem gw76 : Cond.initialized RX2 ∈ GW := gw_of (i := 76) (by decide +kernel) rfl
theorem gw77 : Cond.initialized RX1 ∈ GW := gw_of (i := 77) (by decide +kernel) rfl
theorem gw78 : Cond.initialized RX5 ∈ GW := gw_of (i := 78) (by decide +kernel) rfl
theorem gw79 : Cond.initialized RX3 ∈ GW := gw_of (i := 79) (by decide +kernel) rfl
theorem gw80 : Cond.initialized RX0 ∈ GW := gw_of (i := 80) (by decide +kernel) rfl
theorem gw81 : Cond.initialized RX4 ∈ GW := gw_of (i := 81) (by decide +kernel) rfl
theorem gw82 : Cond.initialized RX12 ∈ GW := gw_of (i := 82) (by decide +kernel) rfl
theorem gw83 : Cond.initialized RJxa1e45 ∈ GW := gw_of (i := 83) (by decide +kernel) rfl
theorem gw84 : Cond.initialized RJxc12de ∈ GW := gw_of (i := 84) (by decide +kernel) rfl
theorem gw85 : Cond.initialized RJx4a65c ∈ GW := gw_of (i := 85) (by decide +kernel) rfl
theorem gw86 : Cond.initialized RJ0 ∈ GW := gw_of (i := 86) (by decide +kernel) rfl
theorem gw87 : Cond.initialized RJ1 ∈ GW := gw_of (i := 87) (by decide +kernel) rfl
theorem gw88 : Cond.initialized RJ9 ∈ GW := gw_of (i := 88) (by decide +kernel) rfl
theorem gw95 : Cond.initialized "java/lang/IllegalArgumentException" ∈ GW := gw_of (i := 95) (by decide +kernel) rfl
theorem gw97 : Cond.initialized RX9 ∈ GW := gw_of (i := 97) (by decide +kernel) rfl
theorem gw101 : Cond.initialized "java/lang/IndexOutOfBoundsException" ∈ GW := gw_of (i := 101) (by decide +kernel) rfl
theorem gw105 : Cond.initialized RJ6 ∈ GW := gw_of (i := 105) (by decide +kernel) rfl
theorem gw107 : Cond.initialized "java/util/NoSuchElementException" ∈ GW := gw_of (i := 107) (by decide +kernel) rfl
theorem gw110 : Cond.initialized RX10 ∈ GW := gw_of (i := 110) (by decide +kernel) rfl
theorem gw111 : Cond.initialized "java/lang/ArithmeticException" ∈ GW := gw_of (i := 111) (by decide +kernel) rfl
theorem gw112 : Cond.classLink RL 8 RX6 ∈ GW := gw_of (i := 112) (by decide +kernel) rfl
theorem gw113 : Cond.instantiable RX6 5 ∈ GW := gw_of (i := 113) (by decide +kernel) rfl
theorem gw114 : Cond.methodLink RL 115 yX6_init ∈ GW := gw_of (i := 114) (by decide +kernel) rfl
theorem gw115 : Cond.instanceMethod yX6_init ∈ GW := gw_of (i := 115) (by decide +kernel) rfl
theorem gw116 : Cond.code yX6_init cX6_init 1 none ∈ GW := gw_of (i := 116) (by decide +kernel) rfl
theorem gw117 : Cond.methodLink RX6 3 objectInit ∈ GW := gw_of (i := 117) (by decide +kernel) rfl
theorem gw118 : Cond.instanceMethod objectInit ∈ GW := gw_of (i := 118) (by decide +kernel) rfl
theorem gw119 : Cond.code objectInit ⟨#[0xb1]⟩ 1 none ∈ GW := gw_of (i := 119) (by decide +kernel) rfl
theorem gw120 : Cond.classLink RX6 9 RX2 ∈ GW := gw_of (i := 120) (by decide +kernel) rfl
theorem gw121 : Cond.instantiable RX2 12 ∈ GW := gw_of (i := 121) (by decide +kernel) rfl
theorem gw122 : Cond.methodLinkNest RX6 11 yX2_init "Tenonyard" ∈ NW := nw_of (i := 122) (by decide +kernel) rfl
theorem gw123 : Cond.instanceMethod yX2_init ∈ GW := gw_of (i := 123) (by decide +kernel) rfl
theorem gw124 : Cond.code yX2_init cX2_init 1 none ∈ GW := gw_of (i := 124) (by decide +kernel) rfl
theorem gw125 : Cond.methodLink RX2 3 objectInit ∈ GW := gw_of (i := 125) (by decide +kernel) rfl
theorem gw126 : Cond.fieldLink RX2 43 "Tenonyard$Frame" "nodes" "I" ∈ GW := gw_of (i := 126) (by decide +kernel) rfl
theorem gw127 : Cond.fieldLink RX6 63 "Tenonyard$Frame" "nodes" "I" ∈ GW := gw_of (i := 127) (by decide +kernel) rfl
theorem gw128 : Cond.fieldLink RX1 78 "Tenonyard$Frame" "nodes" "I" ∈ GW := gw_of (i := 128) (by decide +kernel) rfl
theorem gw130 : Cond.fieldLink RX4 41 "Tenonyard$Frame" "members" "I" ∈ GW := gw_of (i := 130) (by decide +kernel) rfl
theorem gw131 : Cond.fieldLink RX6 93 "Tenonyard$Frame" "members" "I" ∈ GW := gw_of (i := 131) (by decide +kernel) rfl
theorem gw132 : Cond.fieldLink RX0 53 "Tenonyard$Frame" "members" "I" ∈ GW := gw_of (i := 132) (by decide +kernel) rfl
theorem gw133 : Cond.fieldLink RX1 88 "Tenonyard$Frame" "members" "I" ∈ GW := gw_of (i := 133) (by decide +kernel) rfl
theorem gw134 : Cond.fieldLink RX2 9 "Tenonyard$Frame" "places" "[I" ∈ GW := gw_of (i := 134) (by decide +kernel) rfl
theorem gw136 : Cond.fieldLink RX2 15 "Tenonyard$Frame" "loads" "[I" ∈ GW := gw_of (i := 136) (by decide +kernel) rfl
theorem gw138 : Cond.fieldLink RX2 18 "Tenonyard$Frame" "loadCounts" "[I" ∈ GW := gw_of (i := 138) (by decide +kernel) rfl
theorem gw139 : Cond.fieldLink RX2 21 "Tenonyard$Frame" "kinds" "[C" ∈ GW := gw_of (i := 139) (by decide +kernel) rfl
theorem gw140 : Cond.fieldLink RX2 25 "Tenonyard$Frame" "firstNodes" "[I" ∈ GW := gw_of (i := 140) (by decide +kernel) rfl
theorem gw141 : Cond.fieldLink RX2 28 "Tenonyard$Frame" "secondNodes" "[I" ∈ GW := gw_of (i := 141) (by decide +kernel) rfl
theorem gw142 : Cond.fieldLink RX2 31 "Tenonyard$Frame" "breadths" "[I" ∈ GW := gw_of (i := 142) (by decide +kernel) rfl
theorem gw145 : Cond.fieldLink RX2 34 "Tenonyard$Frame" "grades" "[I" ∈ GW := gw_of (i := 145) (by decide +kernel) rfl
theorem gw147 : Cond.fieldLink RX2 37 "Tenonyard$Frame" "cutMoistures" "[I" ∈ GW := gw_of (i := 147) (by decide +kernel) rfl
theorem gw150 : Cond.fieldLink RX2 40 "Tenonyard$Frame" "driedMoistures" "[I" ∈ GW := gw_of (i := 150) (by decide +kernel) rfl
theorem gw178 : Cond.arrayClass .int ∈ GW := gw_of (i := 178) (by decide +kernel) rfl
theorem gw179 : Cond.arrayClass .char ∈ GW := gw_of (i := 179) (by decide +kernel) rfl
theorem gw180 : Cond.classLink RX6 16 RX1 ∈ GW := gw_of (i := 180) (by decide +kernel) rfl
theorem gw181 : Cond.instantiable RX1 17 ∈ GW := gw_of (i := 181) (by decide +kernel) rfl
theorem gw182 : Cond.methodLinkNest RX6 18 yX1_init "Tenonyard" ∈ NW := nw_of (i := 182) (by decide +kernel) rfl
theorem gw183 : Cond.instanceMethod yX1_init ∈ GW := gw_of (i := 183) (by decide +kernel) rfl
theorem gw184 : Cond.code yX1_init cX1_init 1 none ∈ GW := gw_of (i := 184) (by decide +kernel) rfl
theorem gw185 : Cond.methodLink RX1 3 objectInit ∈ GW := gw_of (i := 185) (by decide +kernel) rfl
theorem gw186 : Cond.classLink RX1 40 RX5 ∈ GW := gw_of (i := 186) (by decide +kernel) rfl
theorem gw187 : Cond.instantiable RX5 1 ∈ GW := gw_of (i := 187) (by decide +kernel) rfl
theorem gw188 : Cond.methodLinkNest RX1 42 yX5_init "Tenonyard" ∈ NW := nw_of (i := 188) (by decide +kernel) rfl
theorem gw189 : Cond.instanceMethod yX5_init ∈ GW := gw_of (i := 189) (by decide +kernel) rfl
theorem gw190 : Cond.code yX5_init cX5_init 1 none ∈ GW := gw_of (i := 190) (by decide +kernel) rfl
theorem gw191 : Cond.methodLink RX5 1 objectInit ∈ GW := gw_of (i := 191) (by decide +kernel) rfl
theorem gw192 : Cond.fieldLink RX5 9 "Tenonyard$Wide" "parts" "[J" ∈ GW := gw_of (i := 192) (by decide +kernel) rfl
theorem gw196 : Cond.arrayClass .long ∈ GW := gw_of (i := 196) (by decide +kernel) rfl
theorem gw197 : Cond.fieldLink RX6 72 "Tenonyard$Forces" "isFound" "Z" ∈ GW := gw_of (i := 197) (by decide +kernel) rfl
theorem gw198 : Cond.fieldLink RX1 59 "Tenonyard$Forces" "isFound" "Z" ∈ GW := gw_of (i := 198) (by decide +kernel) rfl
theorem gw199 : Cond.fieldLink RX1 67 "Tenonyard$Forces" "outcome" "C" ∈ GW := gw_of (i := 199) (by decide +kernel) rfl
theorem gw200 : Cond.fieldLink RX6 114 "Tenonyard$Forces" "outcome" "C" ∈ GW := gw_of (i := 200) (by decide +kernel) rfl
theorem gw201 : Cond.fieldLink RX1 104 "Tenonyard$Forces" "divisor" "J" ∈ GW := gw_of (i := 201) (by decide +kernel) rfl
theorem gw202 : Cond.fieldLink RX1 11 "Tenonyard$Forces" "wholes" "[J" ∈ GW := gw_of (i := 202) (by decide +kernel) rfl
theorem gw203 : Cond.fieldLink RX1 15 "Tenonyard$Forces" "rests" "[J" ∈ GW := gw_of (i := 203) (by decide +kernel) rfl
theorem gw204 : Cond.fieldLink RX1 18 "Tenonyard$Forces" "amounts" "[J" ∈ GW := gw_of (i := 204) (by decide +kernel) rfl
theorem gw206 : Cond.fieldLink RX1 21 "Tenonyard$Forces" "ways" "[I" ∈ GW := gw_of (i := 206) (by decide +kernel) rfl
theorem gw207 : Cond.fieldLink RX1 25 "Tenonyard$Forces" "highAsked" "[I" ∈ GW := gw_of (i := 207) (by decide +kernel) rfl
theorem gw208 : Cond.fieldLink RX1 28 "Tenonyard$Forces" "lowAsked" "[I" ∈ GW := gw_of (i := 208) (by decide +kernel) rfl
theorem gw209 : Cond.fieldLink RX1 31 "Tenonyard$Forces" "plain" "[J" ∈ GW := gw_of (i := 209) (by decide +kernel) rfl
theorem gw210 : Cond.fieldLink RX1 34 "Tenonyard$Forces" "high" "[J" ∈ GW := gw_of (i := 210) (by decide +kernel) rfl
theorem gw211 : Cond.fieldLink RX1 37 "Tenonyard$Forces" "low" "[J" ∈ GW := gw_of (i := 211) (by decide +kernel) rfl
theorem gw212 : Cond.fieldLink RX1 43 "Tenonyard$Forces" "factor" "LTenonyard$Wide;" ∈ GW := gw_of (i := 212) (by decide +kernel) rfl
theorem gw213 : Cond.fieldLink RX1 47 "Tenonyard$Forces" "wideDivisor" "LTenonyard$Wide;" ∈ GW := gw_of (i := 213) (by decide +kernel) rfl
theorem gw214 : Cond.fieldLink RX1 50 "Tenonyard$Forces" "product" "LTenonyard$Wide;" ∈ GW := gw_of (i := 214) (by decide +kernel) rfl
theorem gw215 : Cond.fieldLink RX1 53 "Tenonyard$Forces" "square" "LTenonyard$Wide;" ∈ GW := gw_of (i := 215) (by decide +kernel) rfl
theorem gw216 : Cond.fieldLink RX1 56 "Tenonyard$Forces" "greatestSquare" "LTenonyard$Wide;" ∈ GW := gw_of (i := 216) (by decide +kernel) rfl
theorem gw252 : Cond.classLink RX6 23 RX3 ∈ GW := gw_of (i := 252) (by decide +kernel) rfl
theorem gw253 : Cond.instantiable RX3 6 ∈ GW := gw_of (i := 253) (by decide +kernel) rfl
theorem gw254 : Cond.methodLinkNest RX6 25 yX3_init "Tenonyard" ∈ NW := nw_of (i := 254) (by decide +kernel) rfl
theorem gw255 : Cond.instanceMethod yX3_init ∈ GW := gw_of (i := 255) (by decide +kernel) rfl
theorem gw256 : Cond.code yX3_init cX3_init 1 none ∈ GW := gw_of (i := 256) (by decide +kernel) rfl
theorem gw257 : Cond.methodLink RX3 3 objectInit ∈ GW := gw_of (i := 257) (by decide +kernel) rfl
theorem gw260 : Cond.fieldLink RX6 170 "Tenonyard$Joinery" "count" "I" ∈ GW := gw_of (i := 260) (by decide +kernel) rfl
theorem gw261 : Cond.fieldLink RX3 9 "Tenonyard$Joinery" "goingIn" "[I" ∈ GW := gw_of (i := 261) (by decide +kernel) rfl
theorem gw262 : Cond.fieldLink RX3 15 "Tenonyard$Joinery" "receiving" "[I" ∈ GW := gw_of (i := 262) (by decide +kernel) rfl
theorem gw263 : Cond.fieldLink RX3 18 "Tenonyard$Joinery" "ways" "[I" ∈ GW := gw_of (i := 263) (by decide +kernel) rfl
theorem gw264 : Cond.fieldLink RX3 21 "Tenonyard$Joinery" "thicknesses" "[I" ∈ GW := gw_of (i := 264) (by decide +kernel) rfl
theorem gw265 : Cond.fieldLink RX3 24 "Tenonyard$Joinery" "marks" "[I" ∈ GW := gw_of (i := 265) (by decide +kernel) rfl
theorem gw279 : Cond.classLink RX6 30 RX0 ∈ GW := gw_of (i := 279) (by decide +kernel) rfl
theorem gw280 : Cond.instantiable RX0 11 ∈ GW := gw_of (i := 280) (by decide +kernel) rfl
theorem gw281 : Cond.methodLinkNest RX6 32 yX0_init "Tenonyard" ∈ NW := nw_of (i := 281) (by decide +kernel) rfl
theorem gw282 : Cond.instanceMethod yX0_init ∈ GW := gw_of (i := 282) (by decide +kernel) rfl
theorem gw283 : Cond.code yX0_init cX0_init 1 none ∈ GW := gw_of (i := 283) (by decide +kernel) rfl
theorem gw284 : Cond.methodLink RX0 3 objectInit ∈ GW := gw_of (i := 284) (by decide +kernel) rfl
theorem gw285 : Cond.fieldLink RX0 34 "Tenonyard$Cutting" "count" "I" ∈ GW := gw_of (i := 285) (by decide +kernel) rfl
theorem gw286 : Cond.fieldLink RX6 210 "Tenonyard$Cutting" "count" "I" ∈ GW := gw_of (i := 286) (by decide +kernel) rfl
theorem gw287 : Cond.fieldLink RX6 98 "Tenonyard$Cutting" "isFound" "Z" ∈ GW := gw_of (i := 287) (by decide +kernel) rfl
theorem gw288 : Cond.fieldLink RX0 49 "Tenonyard$Cutting" "isFound" "Z" ∈ GW := gw_of (i := 288) (by decide +kernel) rfl
theorem gw289 : Cond.fieldLink RX0 89 "Tenonyard$Cutting" "canCut" "Z" ∈ GW := gw_of (i := 289) (by decide +kernel) rfl
theorem gw290 : Cond.fieldLink RX6 291 "Tenonyard$Cutting" "canCut" "Z" ∈ GW := gw_of (i := 290) (by decide +kernel) rfl
theorem gw291 : Cond.fieldLink RX0 92 "Tenonyard$Cutting" "usedLength" "I" ∈ GW := gw_of (i := 291) (by decide +kernel) rfl
theorem gw292 : Cond.fieldLink RX6 225 "Tenonyard$Cutting" "usedLength" "I" ∈ GW := gw_of (i := 292) (by decide +kernel) rfl
theorem gw293 : Cond.fieldLink RX0 9 "Tenonyard$Cutting" "chosen" "[I" ∈ GW := gw_of (i := 293) (by decide +kernel) rfl
theorem gw295 : Cond.fieldLink RX0 15 "Tenonyard$Cutting" "lengths" "[I" ∈ GW := gw_of (i := 295) (by decide +kernel) rfl
theorem gw296 : Cond.fieldLink RX0 18 "Tenonyard$Cutting" "breadths" "[I" ∈ GW := gw_of (i := 296) (by decide +kernel) rfl
theorem gw297 : Cond.fieldLink RX0 21 "Tenonyard$Cutting" "grades" "[I" ∈ GW := gw_of (i := 297) (by decide +kernel) rfl
theorem gw298 : Cond.fieldLink RX0 24 "Tenonyard$Cutting" "spans" "[I" ∈ GW := gw_of (i := 298) (by decide +kernel) rfl
theorem gw299 : Cond.fieldLink RX0 27 "Tenonyard$Cutting" "weights" "[I" ∈ GW := gw_of (i := 299) (by decide +kernel) rfl
theorem gw300 : Cond.fieldLink RX0 30 "Tenonyard$Cutting" "costs" "[J" ∈ GW := gw_of (i := 300) (by decide +kernel) rfl
theorem gw324 : Cond.classLink RX6 37 RX4 ∈ GW := gw_of (i := 324) (by decide +kernel) rfl
theorem gw325 : Cond.instantiable RX4 9 ∈ GW := gw_of (i := 325) (by decide +kernel) rfl
theorem gw326 : Cond.methodLinkNest RX6 39 yX4_init "Tenonyard" ∈ NW := nw_of (i := 326) (by decide +kernel) rfl
theorem gw327 : Cond.instanceMethod yX4_init ∈ GW := gw_of (i := 327) (by decide +kernel) rfl
theorem gw328 : Cond.code yX4_init cX4_init 1 none ∈ GW := gw_of (i := 328) (by decide +kernel) rfl
theorem gw329 : Cond.methodLink RX4 3 objectInit ∈ GW := gw_of (i := 329) (by decide +kernel) rfl
theorem gw330 : Cond.fieldLink RX4 9 "Tenonyard$Raising" "limit" "I" ∈ GW := gw_of (i := 330) (by decide +kernel) rfl
theorem gw331 : Cond.fieldLink RX6 238 "Tenonyard$Raising" "limit" "I" ∈ GW := gw_of (i := 331) (by decide +kernel) rfl
theorem gw332 : Cond.fieldLink RX4 37 "Tenonyard$Raising" "isFound" "Z" ∈ GW := gw_of (i := 332) (by decide +kernel) rfl
theorem gw333 : Cond.fieldLink RX6 99 "Tenonyard$Raising" "isFound" "Z" ∈ GW := gw_of (i := 333) (by decide +kernel) rfl
theorem gw334 : Cond.fieldLink RX4 34 "Tenonyard$Raising" "all" "I" ∈ GW := gw_of (i := 334) (by decide +kernel) rfl
theorem gw335 : Cond.fieldLink RX4 60 "Tenonyard$Raising" "hanging" "I" ∈ GW := gw_of (i := 335) (by decide +kernel) rfl
theorem gw336 : Cond.fieldLink RX4 17 "Tenonyard$Raising" "asking" "[I" ∈ GW := gw_of (i := 336) (by decide +kernel) rfl
theorem gw337 : Cond.fieldLink RX4 21 "Tenonyard$Raising" "joined" "[I" ∈ GW := gw_of (i := 337) (by decide +kernel) rfl
theorem gw338 : Cond.fieldLink RX4 24 "Tenonyard$Raising" "orderCounts" "[I" ∈ GW := gw_of (i := 338) (by decide +kernel) rfl
theorem gw339 : Cond.fieldLink RX4 27 "Tenonyard$Raising" "leadsToAll" "[Z" ∈ GW := gw_of (i := 339) (by decide +kernel) rfl
theorem gw340 : Cond.fieldLink RX6 254 "Tenonyard$Raising" "leadsToAll" "[Z" ∈ GW := gw_of (i := 340) (by decide +kernel) rfl
theorem gw341 : Cond.fieldLink RX4 31 "Tenonyard$Raising" "order" "[I" ∈ GW := gw_of (i := 341) (by decide +kernel) rfl
theorem gw362 : Cond.arrayClass .boolean ∈ GW := gw_of (i := 362) (by decide +kernel) rfl
theorem gw363 : Cond.fieldLink RX6 12 "Tenonyard" "frame" "LTenonyard$Frame;" ∈ GW := gw_of (i := 363) (by decide +kernel) rfl
theorem gw364 : Cond.fieldLink RX6 19 "Tenonyard" "forces" "LTenonyard$Forces;" ∈ GW := gw_of (i := 364) (by decide +kernel) rfl
theorem gw365 : Cond.fieldLink RX6 26 "Tenonyard" "joinery" "LTenonyard$Joinery;" ∈ GW := gw_of (i := 365) (by decide +kernel) rfl
theorem gw366 : Cond.fieldLink RX6 33 "Tenonyard" "cutting" "LTenonyard$Cutting;" ∈ GW := gw_of (i := 366) (by decide +kernel) rfl
theorem gw367 : Cond.fieldLink RX6 40 "Tenonyard" "raising" "LTenonyard$Raising;" ∈ GW := gw_of (i := 367) (by decide +kernel) rfl
theorem gw379 : Cond.methodLink RL 136 yX6_state ∈ GW := gw_of (i := 379) (by decide +kernel) rfl
theorem gw380 : Cond.instanceMethod yX6_state ∈ GW := gw_of (i := 380) (by decide +kernel) rfl
theorem gw381 : Cond.selects RX6 yX6_state yX6_state ∈ GW := gw_of (i := 381) (by decide +kernel) rfl
theorem gw382 : Cond.code yX6_state cX6_state 1 (some .char) ∈ GW := gw_of (i := 382) (by decide +kernel) rfl
theorem gw383 : Cond.methodLink RX6 110 yX1_find ∈ GW := gw_of (i := 383) (by decide +kernel) rfl
theorem gw384 : Cond.instanceMethod yX1_find ∈ GW := gw_of (i := 384) (by decide +kernel) rfl
theorem gw385 : Cond.selects RX1 yX1_find yX1_find ∈ GW := gw_of (i := 385) (by decide +kernel) rfl
theorem gw386 : Cond.code yX1_find cX1_find 2 none ∈ GW := gw_of (i := 386) (by decide +kernel) rfl
theorem gw387 : Cond.methodLink RX1 63 yX1_findPulls ∈ GW := gw_of (i := 387) (by decide +kernel) rfl
theorem gw389 : Cond.instanceMethod yX1_findPulls ∈ GW := gw_of (i := 389) (by decide +kernel) rfl
theorem gw390 : Cond.code yX1_findPulls cX1_findPulls 7 (some .char) ∈ GW := gw_of (i := 390) (by decide +kernel) rfl
theorem gw395 : Cond.methodLink RX1 91 yX1_fillRows ∈ GW := gw_of (i := 395) (by decide +kernel) rfl
theorem gw397 : Cond.instanceMethod yX1_fillRows ∈ GW := gw_of (i := 397) (by decide +kernel) rfl
theorem gw398 : Cond.code yX1_fillRows cX1_fillRows 7 none ∈ GW := gw_of (i := 398) (by decide +kernel) rfl
theorem gw407 : Cond.methodLink RX1 94 yX1_findDeterminants ∈ GW := gw_of (i := 407) (by decide +kernel) rfl
theorem gw409 : Cond.instanceMethod yX1_findDeterminants ∈ GW := gw_of (i := 409) (by decide +kernel) rfl
theorem gw410 : Cond.code yX1_findDeterminants cX1_findDeterminants 4 none ∈ GW := gw_of (i := 410) (by decide +kernel) rfl
theorem gw411 : Cond.methodLink RX1 119 yJ6_bitCount_0f7a4 ∈ GW := gw_of (i := 411) (by decide +kernel) rfl
theorem gw412 : Cond.static yJ6_bitCount_0f7a4 ∈ GW := gw_of (i := 412) (by decide +kernel) rfl
theorem gw413 : Cond.code yJ6_bitCount_0f7a4 cJ6_bitCount_0f7a4 1 (some .int) ∈ GW := gw_of (i := 413) (by decide +kernel) rfl
theorem gw414 : Cond.constant RJ6 265 (1431655765) ∈ GW := gw_of (i := 414) (by decide +kernel) rfl
theorem gw415 : Cond.constant RJ6 266 (858993459) ∈ GW := gw_of (i := 415) (by decide +kernel) rfl
theorem gw416 : Cond.constant RJ6 267 (252645135) ∈ GW := gw_of (i := 416) (by decide +kernel) rfl
theorem gw421 : Cond.methodLink RX1 98 Lib.MathLoose.abs_long.x ∈ GW := gw_of (i := 421) (by decide +kernel) rfl
theorem gw422 : Cond.static Lib.MathLoose.abs_long.x ∈ GW := gw_of (i := 422) (by decide +kernel) rfl
theorem gw423 : Cond.code Lib.MathLoose.abs_long.x Lib.MathLoose.abs_long.code 2 (some .long) ∈ GW := gw_of (i := 423) (by decide +kernel) rfl
theorem gw439 : Cond.methodLink RX1 71 yX1_findBearings ∈ GW := gw_of (i := 439) (by decide +kernel) rfl
theorem gw441 : Cond.instanceMethod yX1_findBearings ∈ GW := gw_of (i := 441) (by decide +kernel) rfl
theorem gw442 : Cond.code yX1_findBearings cX1_findBearings 6 none ∈ GW := gw_of (i := 442) (by decide +kernel) rfl
theorem gw443 : Cond.methodLink RX1 75 yX1_findAmounts ∈ GW := gw_of (i := 443) (by decide +kernel) rfl
theorem gw445 : Cond.instanceMethod yX1_findAmounts ∈ GW := gw_of (i := 445) (by decide +kernel) rfl
theorem gw446 : Cond.code yX1_findAmounts cX1_findAmounts 8 none ∈ GW := gw_of (i := 446) (by decide +kernel) rfl
theorem gw447 : Cond.methodLink RX1 141 yX5_set ∈ GW := gw_of (i := 447) (by decide +kernel) rfl
theorem gw448 : Cond.instanceMethod yX5_set ∈ GW := gw_of (i := 448) (by decide +kernel) rfl
theorem gw449 : Cond.selects RX5 yX5_set yX5_set ∈ GW := gw_of (i := 449) (by decide +kernel) rfl
theorem gw450 : Cond.code yX5_set cX5_set 4 none ∈ GW := gw_of (i := 450) (by decide +kernel) rfl
theorem gw451 : Cond.constantLong RX5 13 (4294967295) ∈ GW := gw_of (i := 451) (by decide +kernel) rfl
theorem gw477 : Cond.methodLink RL 169 yX6_clashes ∈ GW := gw_of (i := 477) (by decide +kernel) rfl
theorem gw478 : Cond.instanceMethod yX6_clashes ∈ GW := gw_of (i := 478) (by decide +kernel) rfl
theorem gw479 : Cond.selects RX6 yX6_clashes yX6_clashes ∈ GW := gw_of (i := 479) (by decide +kernel) rfl
theorem gw480 : Cond.code yX6_clashes cX6_clashes 4 (some .int) ∈ GW := gw_of (i := 480) (by decide +kernel) rfl
theorem gw489 : Cond.methodLink RL 207 yX6_canRaise ∈ GW := gw_of (i := 489) (by decide +kernel) rfl
theorem gw490 : Cond.instanceMethod yX6_canRaise ∈ GW := gw_of (i := 490) (by decide +kernel) rfl
theorem gw491 : Cond.selects RX6 yX6_canRaise yX6_canRaise ∈ GW := gw_of (i := 491) (by decide +kernel) rfl
theorem gw492 : Cond.code yX6_canRaise cX6_canRaise 1 (some .boolean) ∈ GW := gw_of (i := 492) (by decide +kernel) rfl
theorem gw493 : Cond.methodLink RX6 247 yX4_find ∈ GW := gw_of (i := 493) (by decide +kernel) rfl
theorem gw494 : Cond.instanceMethod yX4_find ∈ GW := gw_of (i := 494) (by decide +kernel) rfl
theorem gw495 : Cond.selects RX4 yX4_find yX4_find ∈ GW := gw_of (i := 495) (by decide +kernel) rfl
theorem gw496 : Cond.code yX4_find cX4_find 3 none ∈ GW := gw_of (i := 496) (by decide +kernel) rfl
theorem gw497 : Cond.methodLink RX4 46 yX4_gather ∈ GW := gw_of (i := 497) (by decide +kernel) rfl
theorem gw499 : Cond.instanceMethod yX4_gather ∈ GW := gw_of (i := 499) (by decide +kernel) rfl
theorem gw500 : Cond.code yX4_gather cX4_gather 6 none ∈ GW := gw_of (i := 500) (by decide +kernel) rfl
theorem gw513 : Cond.methodLink RX4 50 yX4_goForward ∈ GW := gw_of (i := 513) (by decide +kernel) rfl
theorem gw515 : Cond.instanceMethod yX4_goForward ∈ GW := gw_of (i := 515) (by decide +kernel) rfl
theorem gw516 : Cond.code yX4_goForward cX4_goForward 6 none ∈ GW := gw_of (i := 516) (by decide +kernel) rfl
theorem gw526 : Cond.methodLink RX4 54 yX4_goBackward ∈ GW := gw_of (i := 526) (by decide +kernel) rfl
theorem gw528 : Cond.instanceMethod yX4_goBackward ∈ GW := gw_of (i := 528) (by decide +kernel) rfl
theorem gw529 : Cond.code yX4_goBackward cX4_goBackward 6 none ∈ GW := gw_of (i := 529) (by decide +kernel) rfl
theorem gw530 : Cond.methodLink RX4 57 yX4_findOrder ∈ GW := gw_of (i := 530) (by decide +kernel) rfl
theorem gw532 : Cond.instanceMethod yX4_findOrder ∈ GW := gw_of (i := 532) (by decide +kernel) rfl
theorem gw533 : Cond.code yX4_findOrder cX4_findOrder 5 none ∈ GW := gw_of (i := 533) (by decide +kernel) rfl
theorem gw538 : Cond.methodLink RX6 250 yX4_orderCount ∈ GW := gw_of (i := 538) (by decide +kernel) rfl
theorem gw539 : Cond.instanceMethod yX4_orderCount ∈ GW := gw_of (i := 539) (by decide +kernel) rfl
theorem gw540 : Cond.selects RX4 yX4_orderCount yX4_orderCount ∈ GW := gw_of (i := 540) (by decide +kernel) rfl
theorem gw541 : Cond.code yX4_orderCount cX4_orderCount 1 (some .int) ∈ GW := gw_of (i := 541) (by decide +kernel) rfl
theorem gw542 : Cond.methodLink RL 212 yX6_canTakeAway ∈ GW := gw_of (i := 542) (by decide +kernel) rfl
theorem gw543 : Cond.instanceMethod yX6_canTakeAway ∈ GW := gw_of (i := 543) (by decide +kernel) rfl
theorem gw544 : Cond.selects RX6 yX6_canTakeAway yX6_canTakeAway ∈ GW := gw_of (i := 544) (by decide +kernel) rfl
theorem gw545 : Cond.code yX6_canTakeAway cX6_canTakeAway 1 (some .boolean) ∈ GW := gw_of (i := 545) (by decide +kernel) rfl
theorem gw546 : Cond.methodLink RL 216 yX6_orders ∈ GW := gw_of (i := 546) (by decide +kernel) rfl
theorem gw547 : Cond.instanceMethod yX6_orders ∈ GW := gw_of (i := 547) (by decide +kernel) rfl
theorem gw548 : Cond.selects RX6 yX6_orders yX6_orders ∈ GW := gw_of (i := 548) (by decide +kernel) rfl
theorem gw549 : Cond.code yX6_orders cX6_orders 1 (some .int) ∈ GW := gw_of (i := 549) (by decide +kernel) rfl
theorem gw550 : Cond.methodLink RL 236 yX6_isSound ∈ GW := gw_of (i := 550) (by decide +kernel) rfl
theorem gw551 : Cond.instanceMethod yX6_isSound ∈ GW := gw_of (i := 551) (by decide +kernel) rfl
theorem gw552 : Cond.selects RX6 yX6_isSound yX6_isSound ∈ GW := gw_of (i := 552) (by decide +kernel) rfl
theorem gw553 : Cond.code yX6_isSound cX6_isSound 2 (some .boolean) ∈ GW := gw_of (i := 553) (by decide +kernel) rfl
theorem gw554 : Cond.methodLink RX6 138 yX1_holdsAt ∈ GW := gw_of (i := 554) (by decide +kernel) rfl
theorem gw555 : Cond.instanceMethod yX1_holdsAt ∈ GW := gw_of (i := 555) (by decide +kernel) rfl
theorem gw556 : Cond.selects RX1 yX1_holdsAt yX1_holdsAt ∈ GW := gw_of (i := 556) (by decide +kernel) rfl
theorem gw557 : Cond.code yX1_holdsAt cX1_holdsAt 3 (some .boolean) ∈ GW := gw_of (i := 557) (by decide +kernel) rfl
theorem gw558 : Cond.methodLink RX1 185 yX1_holdsAlong ∈ GW := gw_of (i := 558) (by decide +kernel) rfl
theorem gw560 : Cond.instanceMethod yX1_holdsAlong ∈ GW := gw_of (i := 560) (by decide +kernel) rfl
theorem gw561 : Cond.code yX1_holdsAlong cX1_holdsAlong 12 (some .boolean) ∈ GW := gw_of (i := 561) (by decide +kernel) rfl
theorem gw567 : Cond.methodLink RX6 273 yX6_canRaise ∈ GW := gw_of (i := 567) (by decide +kernel) rfl
theorem gw568 : Cond.methodLink RX6 277 yX6_canTakeAway ∈ GW := gw_of (i := 568) (by decide +kernel) rfl
theorem gw569 : Cond.methodLink RL 119 yL_node ∈ GW := gw_of (i := 569) (by decide +kernel) rfl
theorem gw570 : Cond.static yL_node ∈ GW := gw_of (i := 570) (by decide +kernel) rfl
theorem gw571 : Cond.codeWith yL_node cL_node 6 (some .int) [(0, 12, 15, 13), (0, 12, 19, 15)] ∈ GW := gw_of (i := 571) (by decide +kernel) rfl
theorem gw572 : Cond.classLink RL 13 "java/lang/IllegalArgumentException" ∈ GW := gw_of (i := 572) (by decide +kernel) rfl
theorem gw573 : Cond.classLink RL 15 "java/lang/IllegalStateException" ∈ GW := gw_of (i := 573) (by decide +kernel) rfl
theorem gw574 : Cond.methodLink RL 7 yX6_node ∈ GW := gw_of (i := 574) (by decide +kernel) rfl
theorem gw575 : Cond.instanceMethod yX6_node ∈ GW := gw_of (i := 575) (by decide +kernel) rfl
theorem gw576 : Cond.selects RX6 yX6_node yX6_node ∈ GW := gw_of (i := 576) (by decide +kernel) rfl
theorem gw577 : Cond.code yX6_node cX6_node 4 (some .int) ∈ GW := gw_of (i := 577) (by decide +kernel) rfl
theorem gw578 : Cond.methodLink RX6 44 yX6_isWithin ∈ GW := gw_of (i := 578) (by decide +kernel) rfl
theorem gw579 : Cond.static yX6_isWithin ∈ GW := gw_of (i := 579) (by decide +kernel) rfl
theorem gw580 : Cond.code yX6_isWithin cX6_isWithin 3 (some .boolean) ∈ GW := gw_of (i := 580) (by decide +kernel) rfl
theorem gw582 : Cond.methodLink RX6 50 yJ0_indexOf_0f7a4 ∈ GW := gw_of (i := 582) (by decide +kernel) rfl
theorem gw583 : Cond.instanceMethod yJ0_indexOf_0f7a4 ∈ GW := gw_of (i := 583) (by decide +kernel) rfl
theorem gw584 : Cond.selects RJ0 yJ0_indexOf_0f7a4 yJ0_indexOf_0f7a4 ∈ GW := gw_of (i := 584) (by decide +kernel) rfl
theorem gw585 : Cond.code yJ0_indexOf_0f7a4 cJ0_indexOf_0f7a4 2 (some .int) ∈ GW := gw_of (i := 585) (by decide +kernel) rfl
theorem gw586 : Cond.methodLink RJ0 633 yJ0_indexOf_7cf53 ∈ GW := gw_of (i := 586) (by decide +kernel) rfl
theorem gw587 : Cond.instanceMethod yJ0_indexOf_7cf53 ∈ GW := gw_of (i := 587) (by decide +kernel) rfl
theorem gw588 : Cond.selects RJ0 yJ0_indexOf_7cf53 yJ0_indexOf_7cf53 ∈ GW := gw_of (i := 588) (by decide +kernel) rfl
theorem gw589 : Cond.code yJ0_indexOf_7cf53 cJ0_indexOf_7cf53 3 (some .int) ∈ GW := gw_of (i := 589) (by decide +kernel) rfl
theorem gw590 : Cond.methodLink RJ0 492 yJ0_isLatin1_aae02 ∈ GW := gw_of (i := 590) (by decide +kernel) rfl
theorem gw591 : Cond.instanceMethod yJ0_isLatin1_aae02 ∈ GW := gw_of (i := 591) (by decide +kernel) rfl
theorem gw592 : Cond.selects RJ0 yJ0_isLatin1_aae02 yJ0_isLatin1_aae02 ∈ GW := gw_of (i := 592) (by decide +kernel) rfl
theorem gw593 : Cond.code yJ0_isLatin1_aae02 cJ0_isLatin1_aae02 1 (some .boolean) ∈ GW := gw_of (i := 593) (by decide +kernel) rfl
theorem gw594 : Cond.fieldLink RJ0 38 "java/lang/String" "COMPACT_STRINGS" "Z" ∈ GW := gw_of (i := 594) (by decide +kernel) rfl
theorem gw596 : Cond.methodLink RJ0 505 yJ0_length_8abf5 ∈ GW := gw_of (i := 596) (by decide +kernel) rfl
theorem gw597 : Cond.instanceMethod yJ0_length_8abf5 ∈ GW := gw_of (i := 597) (by decide +kernel) rfl
theorem gw598 : Cond.selects RJ0 yJ0_length_8abf5 yJ0_length_8abf5 ∈ GW := gw_of (i := 598) (by decide +kernel) rfl
theorem gw599 : Cond.code yJ0_length_8abf5 cJ0_length_8abf5 1 (some .int) ∈ GW := gw_of (i := 599) (by decide +kernel) rfl
theorem gw600 : Cond.methodLink RJ0 335 yJ0_coder_7d493 ∈ GW := gw_of (i := 600) (by decide +kernel) rfl
theorem gw601 : Cond.instanceMethod yJ0_coder_7d493 ∈ GW := gw_of (i := 601) (by decide +kernel) rfl
theorem gw602 : Cond.selects RJ0 yJ0_coder_7d493 yJ0_coder_7d493 ∈ GW := gw_of (i := 602) (by decide +kernel) rfl
theorem gw603 : Cond.code yJ0_coder_7d493 cJ0_coder_7d493 1 (some .byte) ∈ GW := gw_of (i := 603) (by decide +kernel) rfl
theorem gw604 : Cond.methodLink RJ0 637 yJ1_indexOf_4cfef ∈ GW := gw_of (i := 604) (by decide +kernel) rfl
theorem gw605 : Cond.static yJ1_indexOf_4cfef ∈ GW := gw_of (i := 605) (by decide +kernel) rfl
theorem gw606 : Cond.code yJ1_indexOf_4cfef cJ1_indexOf_4cfef 4 (some .int) ∈ GW := gw_of (i := 606) (by decide +kernel) rfl
theorem gw607 : Cond.methodLink RJ1 88 yJ1_canEncode_9a6ad ∈ GW := gw_of (i := 607) (by decide +kernel) rfl
theorem gw608 : Cond.static yJ1_canEncode_9a6ad ∈ GW := gw_of (i := 608) (by decide +kernel) rfl
theorem gw609 : Cond.code yJ1_canEncode_9a6ad cJ1_canEncode_9a6ad 1 (some .boolean) ∈ GW := gw_of (i := 609) (by decide +kernel) rfl
theorem gw610 : Cond.methodLink RJ1 92 Lib.Math.max.name ∈ GW := gw_of (i := 610) (by decide +kernel) rfl
theorem gw611 : Cond.static Lib.Math.max.name ∈ GW := gw_of (i := 611) (by decide +kernel) rfl
theorem gw612 : Cond.code Lib.Math.max.name Lib.Math.max.code 2 (some .int) ∈ GW := gw_of (i := 612) (by decide +kernel) rfl
theorem gw613 : Cond.methodLink RJ1 38 Lib.Math.min.name ∈ GW := gw_of (i := 613) (by decide +kernel) rfl
theorem gw614 : Cond.static Lib.Math.min.name ∈ GW := gw_of (i := 614) (by decide +kernel) rfl
theorem gw615 : Cond.code Lib.Math.min.name Lib.Math.min.code 2 (some .int) ∈ GW := gw_of (i := 615) (by decide +kernel) rfl
theorem gw616 : Cond.methodLink RJ1 95 yJ1_indexOfChar_4cfef ∈ GW := gw_of (i := 616) (by decide +kernel) rfl
theorem gw617 : Cond.static yJ1_indexOfChar_4cfef ∈ GW := gw_of (i := 617) (by decide +kernel) rfl
theorem gw618 : Cond.code yJ1_indexOfChar_4cfef cJ1_indexOfChar_4cfef 6 (some .int) ∈ GW := gw_of (i := 618) (by decide +kernel) rfl
theorem gw668 : Cond.classLink RX6 56 "java/lang/IllegalArgumentException" ∈ GW := gw_of (i := 668) (by decide +kernel) rfl
theorem gw670 : Cond.castable "java/lang/IllegalArgumentException" "java/lang/IllegalArgumentException" ∈ NW := nw_of (i := 670) (by decide +kernel) rfl
theorem gw756 : Cond.methodLink RX6 76 yX2_addNode ∈ GW := gw_of (i := 756) (by decide +kernel) rfl
theorem gw757 : Cond.instanceMethod yX2_addNode ∈ GW := gw_of (i := 757) (by decide +kernel) rfl
theorem gw758 : Cond.selects RX2 yX2_addNode yX2_addNode ∈ GW := gw_of (i := 758) (by decide +kernel) rfl
theorem gw759 : Cond.code yX2_addNode cX2_addNode 5 (some .int) ∈ GW := gw_of (i := 759) (by decide +kernel) rfl
theorem gw760 : Cond.methodLink RL 128 yL_member ∈ GW := gw_of (i := 760) (by decide +kernel) rfl
theorem gw761 : Cond.static yL_member ∈ GW := gw_of (i := 761) (by decide +kernel) rfl
theorem gw762 : Cond.codeWith yL_member cL_member 7 (some .int) [(0, 14, 17, 21), (0, 14, 21, 13), (0, 14, 25, 15)] ∈ GW := gw_of (i := 762) (by decide +kernel) rfl
theorem gw763 : Cond.classLink RL 21 "java/lang/IndexOutOfBoundsException" ∈ GW := gw_of (i := 763) (by decide +kernel) rfl
theorem gw787 : Cond.methodLink RL 17 yX6_member ∈ GW := gw_of (i := 787) (by decide +kernel) rfl
theorem gw788 : Cond.instanceMethod yX6_member ∈ GW := gw_of (i := 788) (by decide +kernel) rfl
theorem gw789 : Cond.selects RX6 yX6_member yX6_member ∈ GW := gw_of (i := 789) (by decide +kernel) rfl
theorem gw790 : Cond.code yX6_member cX6_member 5 (some .int) ∈ GW := gw_of (i := 790) (by decide +kernel) rfl
theorem gw791 : Cond.methodLink RX6 80 yX6_checkNode ∈ GW := gw_of (i := 791) (by decide +kernel) rfl
theorem gw793 : Cond.instanceMethod yX6_checkNode ∈ GW := gw_of (i := 793) (by decide +kernel) rfl
theorem gw794 : Cond.code yX6_checkNode cX6_checkNode 2 none ∈ GW := gw_of (i := 794) (by decide +kernel) rfl
theorem gw795 : Cond.classLink RX6 228 "java/lang/IndexOutOfBoundsException" ∈ GW := gw_of (i := 795) (by decide +kernel) rfl
theorem gw797 : Cond.castable "java/lang/IndexOutOfBoundsException" "java/lang/IndexOutOfBoundsException" ∈ NW := nw_of (i := 797) (by decide +kernel) rfl
theorem gw812 : Cond.methodLink RX6 88 yX6_isSection ∈ GW := gw_of (i := 812) (by decide +kernel) rfl
theorem gw813 : Cond.static yX6_isSection ∈ GW := gw_of (i := 813) (by decide +kernel) rfl
theorem gw814 : Cond.code yX6_isSection cX6_isSection 2 (some .boolean) ∈ GW := gw_of (i := 814) (by decide +kernel) rfl
theorem gw821 : Cond.methodLink RL 132 yL_load ∈ GW := gw_of (i := 821) (by decide +kernel) rfl
theorem gw822 : Cond.static yL_load ∈ GW := gw_of (i := 822) (by decide +kernel) rfl
theorem gw823 : Cond.codeWith yL_load cL_load 6 (some .int) [(0, 12, 15, 21), (0, 12, 19, 13)] ∈ GW := gw_of (i := 823) (by decide +kernel) rfl
theorem gw824 : Cond.methodLink RL 23 yX6_load ∈ GW := gw_of (i := 824) (by decide +kernel) rfl
theorem gw825 : Cond.instanceMethod yX6_load ∈ GW := gw_of (i := 825) (by decide +kernel) rfl
theorem gw826 : Cond.selects RX6 yX6_load yX6_load ∈ GW := gw_of (i := 826) (by decide +kernel) rfl
theorem gw827 : Cond.code yX6_load cX6_load 4 (some .int) ∈ GW := gw_of (i := 827) (by decide +kernel) rfl
theorem gw833 : Cond.methodLink RL 141 yL_force ∈ GW := gw_of (i := 833) (by decide +kernel) rfl
theorem gw834 : Cond.static yL_force ∈ GW := gw_of (i := 834) (by decide +kernel) rfl
theorem gw835 : Cond.codeWith yL_force cL_force 4 (some .int) [(0, 8, 11, 21), (0, 8, 14, 15)] ∈ GW := gw_of (i := 835) (by decide +kernel) rfl
theorem gw836 : Cond.methodLink RL 27 yX6_force ∈ GW := gw_of (i := 836) (by decide +kernel) rfl
theorem gw837 : Cond.instanceMethod yX6_force ∈ GW := gw_of (i := 837) (by decide +kernel) rfl
theorem gw838 : Cond.selects RX6 yX6_force yX6_force ∈ GW := gw_of (i := 838) (by decide +kernel) rfl
theorem gw839 : Cond.code yX6_force cX6_force 2 (some .long) ∈ GW := gw_of (i := 839) (by decide +kernel) rfl
theorem gw840 : Cond.methodLink RX6 118 yX6_checkMember ∈ GW := gw_of (i := 840) (by decide +kernel) rfl
theorem gw842 : Cond.instanceMethod yX6_checkMember ∈ GW := gw_of (i := 842) (by decide +kernel) rfl
theorem gw843 : Cond.code yX6_checkMember cX6_checkMember 2 none ∈ GW := gw_of (i := 843) (by decide +kernel) rfl
theorem gw845 : Cond.methodLink RX6 121 yX6_checkStanding ∈ GW := gw_of (i := 845) (by decide +kernel) rfl
theorem gw847 : Cond.instanceMethod yX6_checkStanding ∈ GW := gw_of (i := 847) (by decide +kernel) rfl
theorem gw848 : Cond.code yX6_checkStanding cX6_checkStanding 1 none ∈ GW := gw_of (i := 848) (by decide +kernel) rfl
theorem gw850 : Cond.methodLink RL 145 yL_pull ∈ GW := gw_of (i := 850) (by decide +kernel) rfl
theorem gw851 : Cond.static yL_pull ∈ GW := gw_of (i := 851) (by decide +kernel) rfl
theorem gw852 : Cond.codeWith yL_pull cL_pull 4 (some .int) [(0, 8, 11, 21), (0, 8, 14, 15)] ∈ GW := gw_of (i := 852) (by decide +kernel) rfl
theorem gw853 : Cond.methodLink RL 31 yX6_pull ∈ GW := gw_of (i := 853) (by decide +kernel) rfl
theorem gw854 : Cond.instanceMethod yX6_pull ∈ GW := gw_of (i := 854) (by decide +kernel) rfl
theorem gw855 : Cond.selects RX6 yX6_pull yX6_pull ∈ GW := gw_of (i := 855) (by decide +kernel) rfl
theorem gw856 : Cond.code yX6_pull cX6_pull 2 (some .long) ∈ GW := gw_of (i := 856) (by decide +kernel) rfl
theorem gw867 : Cond.methodLink RL 148 yL_bearing ∈ GW := gw_of (i := 867) (by decide +kernel) rfl
theorem gw868 : Cond.static yL_bearing ∈ GW := gw_of (i := 868) (by decide +kernel) rfl
theorem gw869 : Cond.codeWith yL_bearing cL_bearing 5 (some .int) [(0, 9, 12, 21), (0, 9, 16, 15)] ∈ GW := gw_of (i := 869) (by decide +kernel) rfl
theorem gw870 : Cond.methodLink RL 34 yX6_bearing ∈ GW := gw_of (i := 870) (by decide +kernel) rfl
theorem gw871 : Cond.instanceMethod yX6_bearing ∈ GW := gw_of (i := 871) (by decide +kernel) rfl
theorem gw872 : Cond.selects RX6 yX6_bearing yX6_bearing ∈ GW := gw_of (i := 872) (by decide +kernel) rfl
theorem gw873 : Cond.code yX6_bearing cX6_bearing 3 (some .long) ∈ GW := gw_of (i := 873) (by decide +kernel) rfl
theorem gw875 : Cond.methodLink RL 152 yL_isBalanced ∈ GW := gw_of (i := 875) (by decide +kernel) rfl
theorem gw876 : Cond.static yL_isBalanced ∈ GW := gw_of (i := 876) (by decide +kernel) rfl
theorem gw877 : Cond.codeWith yL_isBalanced cL_isBalanced 4 (some .int) [(0, 16, 19, 13), (0, 16, 22, 15)] ∈ GW := gw_of (i := 877) (by decide +kernel) rfl
theorem gw878 : Cond.methodLink RL 38 yX6_isBalanced ∈ GW := gw_of (i := 878) (by decide +kernel) rfl
theorem gw879 : Cond.instanceMethod yX6_isBalanced ∈ GW := gw_of (i := 879) (by decide +kernel) rfl
theorem gw880 : Cond.selects RX6 yX6_isBalanced yX6_isBalanced ∈ GW := gw_of (i := 880) (by decide +kernel) rfl
theorem gw881 : Cond.code yX6_isBalanced cX6_isBalanced 2 (some .boolean) ∈ GW := gw_of (i := 881) (by decide +kernel) rfl
theorem gw883 : Cond.methodLink RL 155 yL_weakest ∈ GW := gw_of (i := 883) (by decide +kernel) rfl
theorem gw884 : Cond.static yL_weakest ∈ GW := gw_of (i := 884) (by decide +kernel) rfl
theorem gw885 : Cond.codeWith yL_weakest cL_weakest 3 (some .int) [(0, 8, 11, 15), (0, 8, 14, 46)] ∈ GW := gw_of (i := 885) (by decide +kernel) rfl
theorem gw886 : Cond.classLink RL 46 "java/util/NoSuchElementException" ∈ GW := gw_of (i := 886) (by decide +kernel) rfl
theorem gw887 : Cond.methodLink RL 42 yX6_weakest ∈ GW := gw_of (i := 887) (by decide +kernel) rfl
theorem gw888 : Cond.instanceMethod yX6_weakest ∈ GW := gw_of (i := 888) (by decide +kernel) rfl
theorem gw889 : Cond.selects RX6 yX6_weakest yX6_weakest ∈ GW := gw_of (i := 889) (by decide +kernel) rfl
theorem gw890 : Cond.code yX6_weakest cX6_weakest 3 (some .int) ∈ GW := gw_of (i := 890) (by decide +kernel) rfl
theorem gw891 : Cond.classLink RX6 142 "java/util/NoSuchElementException" ∈ GW := gw_of (i := 891) (by decide +kernel) rfl
theorem gw893 : Cond.castable "java/util/NoSuchElementException" "java/util/NoSuchElementException" ∈ NW := nw_of (i := 893) (by decide +kernel) rfl
theorem gw908 : Cond.methodLink RL 159 yL_joint ∈ GW := gw_of (i := 908) (by decide +kernel) rfl
theorem gw909 : Cond.static yL_joint ∈ GW := gw_of (i := 909) (by decide +kernel) rfl
theorem gw910 : Cond.codeWith yL_joint cL_joint 8 (some .int) [(0, 16, 19, 21), (0, 16, 23, 13), (0, 16, 27, 52), (0, 16, 31, 15)] ∈ GW := gw_of (i := 910) (by decide +kernel) rfl
theorem gw912 : Cond.methodLink RL 48 yX6_joint ∈ GW := gw_of (i := 912) (by decide +kernel) rfl
theorem gw913 : Cond.instanceMethod yX6_joint ∈ GW := gw_of (i := 913) (by decide +kernel) rfl
theorem gw914 : Cond.selects RX6 yX6_joint yX6_joint ∈ GW := gw_of (i := 914) (by decide +kernel) rfl
theorem gw915 : Cond.code yX6_joint cX6_joint 6 (some .int) ∈ GW := gw_of (i := 915) (by decide +kernel) rfl
theorem gw953 : Cond.methodLink RL 163 yL_isRight ∈ GW := gw_of (i := 953) (by decide +kernel) rfl
theorem gw954 : Cond.static yL_isRight ∈ GW := gw_of (i := 954) (by decide +kernel) rfl
theorem gw955 : Cond.codeWith yL_isRight cL_isRight 4 (some .int) [(0, 16, 19, 21)] ∈ GW := gw_of (i := 955) (by decide +kernel) rfl
theorem gw956 : Cond.methodLink RL 54 yX6_isRight ∈ GW := gw_of (i := 956) (by decide +kernel) rfl
theorem gw957 : Cond.instanceMethod yX6_isRight ∈ GW := gw_of (i := 957) (by decide +kernel) rfl
theorem gw958 : Cond.selects RX6 yX6_isRight yX6_isRight ∈ GW := gw_of (i := 958) (by decide +kernel) rfl
theorem gw959 : Cond.code yX6_isRight cX6_isRight 2 (some .boolean) ∈ GW := gw_of (i := 959) (by decide +kernel) rfl
theorem gw960 : Cond.methodLink RX6 179 yX6_checkJoint ∈ GW := gw_of (i := 960) (by decide +kernel) rfl
theorem gw962 : Cond.instanceMethod yX6_checkJoint ∈ GW := gw_of (i := 962) (by decide +kernel) rfl
theorem gw963 : Cond.code yX6_checkJoint cX6_checkJoint 2 none ∈ GW := gw_of (i := 963) (by decide +kernel) rfl
theorem gw970 : Cond.methodLink RL 166 yL_misread ∈ GW := gw_of (i := 970) (by decide +kernel) rfl
theorem gw971 : Cond.static yL_misread ∈ GW := gw_of (i := 971) (by decide +kernel) rfl
theorem gw972 : Cond.codeWith yL_misread cL_misread 4 (some .int) [(0, 9, 12, 21)] ∈ GW := gw_of (i := 972) (by decide +kernel) rfl
theorem gw973 : Cond.methodLink RL 57 yX6_misread ∈ GW := gw_of (i := 973) (by decide +kernel) rfl
theorem gw974 : Cond.instanceMethod yX6_misread ∈ GW := gw_of (i := 974) (by decide +kernel) rfl
theorem gw975 : Cond.selects RX6 yX6_misread yX6_misread ∈ GW := gw_of (i := 975) (by decide +kernel) rfl
theorem gw976 : Cond.code yX6_misread cX6_misread 2 (some .int) ∈ GW := gw_of (i := 976) (by decide +kernel) rfl
theorem gw978 : Cond.methodLink RL 173 yL_cutAt ∈ GW := gw_of (i := 978) (by decide +kernel) rfl
theorem gw979 : Cond.static yL_cutAt ∈ GW := gw_of (i := 979) (by decide +kernel) rfl
theorem gw980 : Cond.codeWith yL_cutAt cL_cutAt 5 (some .int) [(0, 10, 13, 21), (0, 10, 17, 13)] ∈ GW := gw_of (i := 980) (by decide +kernel) rfl
theorem gw981 : Cond.methodLink RL 61 yX6_cutAt ∈ GW := gw_of (i := 981) (by decide +kernel) rfl
theorem gw982 : Cond.instanceMethod yX6_cutAt ∈ GW := gw_of (i := 982) (by decide +kernel) rfl
theorem gw983 : Cond.selects RX6 yX6_cutAt yX6_cutAt ∈ GW := gw_of (i := 983) (by decide +kernel) rfl
theorem gw984 : Cond.code yX6_cutAt cX6_cutAt 4 (some .int) ∈ GW := gw_of (i := 984) (by decide +kernel) rfl
theorem gw990 : Cond.methodLink RL 177 yL_dry ∈ GW := gw_of (i := 990) (by decide +kernel) rfl
theorem gw991 : Cond.static yL_dry ∈ GW := gw_of (i := 991) (by decide +kernel) rfl
theorem gw992 : Cond.codeWith yL_dry cL_dry 5 (some .int) [(0, 10, 13, 21), (0, 10, 17, 13)] ∈ GW := gw_of (i := 992) (by decide +kernel) rfl
theorem gw993 : Cond.methodLink RL 65 yX6_dry ∈ GW := gw_of (i := 993) (by decide +kernel) rfl
theorem gw994 : Cond.instanceMethod yX6_dry ∈ GW := gw_of (i := 994) (by decide +kernel) rfl
theorem gw995 : Cond.selects RX6 yX6_dry yX6_dry ∈ GW := gw_of (i := 995) (by decide +kernel) rfl
theorem gw996 : Cond.code yX6_dry cX6_dry 4 (some .int) ∈ GW := gw_of (i := 996) (by decide +kernel) rfl
theorem gw997 : Cond.methodLink RL 180 yL_gap ∈ GW := gw_of (i := 997) (by decide +kernel) rfl
theorem gw998 : Cond.static yL_gap ∈ GW := gw_of (i := 998) (by decide +kernel) rfl
theorem gw999 : Cond.codeWith yL_gap cL_gap 4 (some .int) [(0, 9, 12, 21)] ∈ GW := gw_of (i := 999) (by decide +kernel) rfl
theorem gw1000 : Cond.methodLink RL 68 yX6_gap ∈ GW := gw_of (i := 1000) (by decide +kernel) rfl
theorem gw1001 : Cond.instanceMethod yX6_gap ∈ GW := gw_of (i := 1001) (by decide +kernel) rfl
theorem gw1002 : Cond.selects RX6 yX6_gap yX6_gap ∈ GW := gw_of (i := 1002) (by decide +kernel) rfl
theorem gw1003 : Cond.code yX6_gap cX6_gap 2 (some .int) ∈ GW := gw_of (i := 1003) (by decide +kernel) rfl
theorem gw1008 : Cond.methodLink RL 183 yL_widest ∈ GW := gw_of (i := 1008) (by decide +kernel) rfl
theorem gw1009 : Cond.static yL_widest ∈ GW := gw_of (i := 1009) (by decide +kernel) rfl
theorem gw1010 : Cond.codeWith yL_widest cL_widest 3 (some .int) [(0, 8, 11, 46)] ∈ GW := gw_of (i := 1010) (by decide +kernel) rfl
theorem gw1011 : Cond.methodLink RL 71 yX6_widest ∈ GW := gw_of (i := 1011) (by decide +kernel) rfl
theorem gw1012 : Cond.instanceMethod yX6_widest ∈ GW := gw_of (i := 1012) (by decide +kernel) rfl
theorem gw1013 : Cond.selects RX6 yX6_widest yX6_widest ∈ GW := gw_of (i := 1013) (by decide +kernel) rfl
theorem gw1014 : Cond.code yX6_widest cX6_widest 3 (some .int) ∈ GW := gw_of (i := 1014) (by decide +kernel) rfl
theorem gw1016 : Cond.methodLink RL 186 yL_stick ∈ GW := gw_of (i := 1016) (by decide +kernel) rfl
theorem gw1017 : Cond.static yL_stick ∈ GW := gw_of (i := 1017) (by decide +kernel) rfl
theorem gw1018 : Cond.codeWith yL_stick cL_stick 6 (some .int) [(0, 12, 15, 13), (0, 12, 19, 15)] ∈ GW := gw_of (i := 1018) (by decide +kernel) rfl
theorem gw1019 : Cond.methodLink RL 74 yX6_stick ∈ GW := gw_of (i := 1019) (by decide +kernel) rfl
theorem gw1020 : Cond.instanceMethod yX6_stick ∈ GW := gw_of (i := 1020) (by decide +kernel) rfl
theorem gw1021 : Cond.selects RX6 yX6_stick yX6_stick ∈ GW := gw_of (i := 1021) (by decide +kernel) rfl
theorem gw1022 : Cond.code yX6_stick cX6_stick 4 (some .int) ∈ GW := gw_of (i := 1022) (by decide +kernel) rfl
theorem gw1025 : Cond.methodLink RX6 213 yX0_add ∈ GW := gw_of (i := 1025) (by decide +kernel) rfl
theorem gw1026 : Cond.instanceMethod yX0_add ∈ GW := gw_of (i := 1026) (by decide +kernel) rfl
theorem gw1027 : Cond.selects RX0 yX0_add yX0_add ∈ GW := gw_of (i := 1027) (by decide +kernel) rfl
theorem gw1028 : Cond.code yX0_add cX0_add 5 (some .int) ∈ GW := gw_of (i := 1028) (by decide +kernel) rfl
theorem gw1029 : Cond.methodLink RL 189 yL_piece ∈ GW := gw_of (i := 1029) (by decide +kernel) rfl
theorem gw1030 : Cond.static yL_piece ∈ GW := gw_of (i := 1030) (by decide +kernel) rfl
theorem gw1031 : Cond.codeWith yL_piece cL_piece 4 (some .int) [(0, 9, 12, 21)] ∈ GW := gw_of (i := 1031) (by decide +kernel) rfl
theorem gw1032 : Cond.methodLink RL 77 yX6_piece ∈ GW := gw_of (i := 1032) (by decide +kernel) rfl
theorem gw1033 : Cond.instanceMethod yX6_piece ∈ GW := gw_of (i := 1033) (by decide +kernel) rfl
theorem gw1034 : Cond.selects RX6 yX6_piece yX6_piece ∈ GW := gw_of (i := 1034) (by decide +kernel) rfl
theorem gw1035 : Cond.code yX6_piece cX6_piece 2 (some .int) ∈ GW := gw_of (i := 1035) (by decide +kernel) rfl
theorem gw1045 : Cond.methodLink RL 192 yL_stickOf ∈ GW := gw_of (i := 1045) (by decide +kernel) rfl
theorem gw1046 : Cond.static yL_stickOf ∈ GW := gw_of (i := 1046) (by decide +kernel) rfl
theorem gw1047 : Cond.codeWith yL_stickOf cL_stickOf 4 (some .int) [(0, 9, 12, 21), (0, 9, 15, 46)] ∈ GW := gw_of (i := 1047) (by decide +kernel) rfl
theorem gw1048 : Cond.methodLink RL 80 yX6_stickOf ∈ GW := gw_of (i := 1048) (by decide +kernel) rfl
theorem gw1049 : Cond.instanceMethod yX6_stickOf ∈ GW := gw_of (i := 1049) (by decide +kernel) rfl
theorem gw1050 : Cond.selects RX6 yX6_stickOf yX6_stickOf ∈ GW := gw_of (i := 1050) (by decide +kernel) rfl
theorem gw1051 : Cond.code yX6_stickOf cX6_stickOf 2 (some .int) ∈ GW := gw_of (i := 1051) (by decide +kernel) rfl
theorem gw1052 : Cond.methodLink RX6 219 yX6_checkCut ∈ GW := gw_of (i := 1052) (by decide +kernel) rfl
theorem gw1054 : Cond.instanceMethod yX6_checkCut ∈ GW := gw_of (i := 1054) (by decide +kernel) rfl
theorem gw1055 : Cond.code yX6_checkCut cX6_checkCut 1 none ∈ GW := gw_of (i := 1055) (by decide +kernel) rfl
theorem gw1056 : Cond.methodLink RX6 290 yX0_find ∈ GW := gw_of (i := 1056) (by decide +kernel) rfl
theorem gw1057 : Cond.instanceMethod yX0_find ∈ GW := gw_of (i := 1057) (by decide +kernel) rfl
theorem gw1058 : Cond.selects RX0 yX0_find yX0_find ∈ GW := gw_of (i := 1058) (by decide +kernel) rfl
theorem gw1059 : Cond.code yX0_find cX0_find 5 none ∈ GW := gw_of (i := 1059) (by decide +kernel) rfl
theorem gw1060 : Cond.methodLink RX0 56 yX0_measure ∈ GW := gw_of (i := 1060) (by decide +kernel) rfl
theorem gw1062 : Cond.instanceMethod yX0_measure ∈ GW := gw_of (i := 1062) (by decide +kernel) rfl
theorem gw1063 : Cond.code yX0_measure cX0_measure 8 none ∈ GW := gw_of (i := 1063) (by decide +kernel) rfl
theorem gw1064 : Cond.constant RX0 74 (390625) ∈ GW := gw_of (i := 1064) (by decide +kernel) rfl
theorem gw1066 : Cond.constantLong RX0 60 (4611686018427387904) ∈ GW := gw_of (i := 1066) (by decide +kernel) rfl
theorem gw1075 : Cond.constantLong RX0 81 (1953125) ∈ GW := gw_of (i := 1075) (by decide +kernel) rfl
theorem gw1079 : Cond.methodLink RX0 70 yX0_choose ∈ GW := gw_of (i := 1079) (by decide +kernel) rfl
theorem gw1081 : Cond.instanceMethod yX0_choose ∈ GW := gw_of (i := 1081) (by decide +kernel) rfl
theorem gw1082 : Cond.code yX0_choose cX0_choose 5 none ∈ GW := gw_of (i := 1082) (by decide +kernel) rfl
theorem gw1084 : Cond.methodLink RL 195 yL_wood ∈ GW := gw_of (i := 1084) (by decide +kernel) rfl
theorem gw1085 : Cond.static yL_wood ∈ GW := gw_of (i := 1085) (by decide +kernel) rfl
theorem gw1086 : Cond.codeWith yL_wood cL_wood 3 (some .int) [(0, 8, 11, 46)] ∈ GW := gw_of (i := 1086) (by decide +kernel) rfl
theorem gw1087 : Cond.methodLink RL 83 yX6_wood ∈ GW := gw_of (i := 1087) (by decide +kernel) rfl
theorem gw1088 : Cond.instanceMethod yX6_wood ∈ GW := gw_of (i := 1088) (by decide +kernel) rfl
theorem gw1089 : Cond.selects RX6 yX6_wood yX6_wood ∈ GW := gw_of (i := 1089) (by decide +kernel) rfl
theorem gw1090 : Cond.code yX6_wood cX6_wood 1 (some .int) ∈ GW := gw_of (i := 1090) (by decide +kernel) rfl
theorem gw1091 : Cond.methodLink RL 198 yL_waste ∈ GW := gw_of (i := 1091) (by decide +kernel) rfl
theorem gw1092 : Cond.static yL_waste ∈ GW := gw_of (i := 1092) (by decide +kernel) rfl
theorem gw1093 : Cond.codeWith yL_waste cL_waste 4 (some .int) [(0, 9, 12, 21), (0, 9, 15, 46)] ∈ GW := gw_of (i := 1093) (by decide +kernel) rfl
theorem gw1094 : Cond.methodLink RL 86 yX6_waste ∈ GW := gw_of (i := 1094) (by decide +kernel) rfl
theorem gw1095 : Cond.instanceMethod yX6_waste ∈ GW := gw_of (i := 1095) (by decide +kernel) rfl
theorem gw1096 : Cond.selects RX6 yX6_waste yX6_waste ∈ GW := gw_of (i := 1096) (by decide +kernel) rfl
theorem gw1097 : Cond.code yX6_waste cX6_waste 2 (some .int) ∈ GW := gw_of (i := 1097) (by decide +kernel) rfl
theorem gw1103 : Cond.methodLink RL 201 yL_setProps ∈ GW := gw_of (i := 1103) (by decide +kernel) rfl
theorem gw1104 : Cond.static yL_setProps ∈ GW := gw_of (i := 1104) (by decide +kernel) rfl
theorem gw1105 : Cond.codeWith yL_setProps cL_setProps 4 (some .int) [(0, 9, 12, 13)] ∈ GW := gw_of (i := 1105) (by decide +kernel) rfl
theorem gw1106 : Cond.methodLink RL 89 yX6_setProps ∈ GW := gw_of (i := 1106) (by decide +kernel) rfl
theorem gw1107 : Cond.instanceMethod yX6_setProps ∈ GW := gw_of (i := 1107) (by decide +kernel) rfl
theorem gw1108 : Cond.selects RX6 yX6_setProps yX6_setProps ∈ GW := gw_of (i := 1108) (by decide +kernel) rfl
theorem gw1109 : Cond.code yX6_setProps cX6_setProps 3 (some .int) ∈ GW := gw_of (i := 1109) (by decide +kernel) rfl
theorem gw1111 : Cond.methodLink RL 204 yL_raised ∈ GW := gw_of (i := 1111) (by decide +kernel) rfl
theorem gw1112 : Cond.static yL_raised ∈ GW := gw_of (i := 1112) (by decide +kernel) rfl
theorem gw1113 : Cond.codeWith yL_raised cL_raised 4 (some .int) [(0, 9, 12, 46), (0, 9, 15, 21)] ∈ GW := gw_of (i := 1113) (by decide +kernel) rfl
theorem gw1114 : Cond.methodLink RL 92 yX6_raised ∈ GW := gw_of (i := 1114) (by decide +kernel) rfl
theorem gw1115 : Cond.instanceMethod yX6_raised ∈ GW := gw_of (i := 1115) (by decide +kernel) rfl
theorem gw1116 : Cond.selects RX6 yX6_raised yX6_raised ∈ GW := gw_of (i := 1116) (by decide +kernel) rfl
theorem gw1117 : Cond.code yX6_raised cX6_raised 2 (some .int) ∈ GW := gw_of (i := 1117) (by decide +kernel) rfl
theorem gw1118 : Cond.methodLink RX6 241 yX6_checkPlaceInOrder ∈ GW := gw_of (i := 1118) (by decide +kernel) rfl
theorem gw1120 : Cond.instanceMethod yX6_checkPlaceInOrder ∈ GW := gw_of (i := 1120) (by decide +kernel) rfl
theorem gw1121 : Cond.code yX6_checkPlaceInOrder cX6_checkPlaceInOrder 2 none ∈ GW := gw_of (i := 1121) (by decide +kernel) rfl
theorem gw1124 : Cond.methodLink RL 220 yL_props ∈ GW := gw_of (i := 1124) (by decide +kernel) rfl
theorem gw1125 : Cond.static yL_props ∈ GW := gw_of (i := 1125) (by decide +kernel) rfl
theorem gw1126 : Cond.codeWith yL_props cL_props 4 (some .int) [(0, 9, 12, 46), (0, 9, 15, 21)] ∈ GW := gw_of (i := 1126) (by decide +kernel) rfl
theorem gw1127 : Cond.methodLink RL 95 yX6_props ∈ GW := gw_of (i := 1127) (by decide +kernel) rfl
theorem gw1128 : Cond.instanceMethod yX6_props ∈ GW := gw_of (i := 1128) (by decide +kernel) rfl
theorem gw1129 : Cond.selects RX6 yX6_props yX6_props ∈ GW := gw_of (i := 1129) (by decide +kernel) rfl
theorem gw1130 : Cond.code yX6_props cX6_props 4 (some .int) ∈ GW := gw_of (i := 1130) (by decide +kernel) rfl
theorem gw1132 : Cond.methodLink RL 223 yL_stuck ∈ GW := gw_of (i := 1132) (by decide +kernel) rfl
theorem gw1133 : Cond.static yL_stuck ∈ GW := gw_of (i := 1133) (by decide +kernel) rfl
theorem gw1134 : Cond.codeWith yL_stuck cL_stuck 3 (some .int) [(0, 8, 11, 46)] ∈ GW := gw_of (i := 1134) (by decide +kernel) rfl
theorem gw1135 : Cond.methodLink RL 98 yX6_stuck ∈ GW := gw_of (i := 1135) (by decide +kernel) rfl
theorem gw1136 : Cond.instanceMethod yX6_stuck ∈ GW := gw_of (i := 1136) (by decide +kernel) rfl
theorem gw1137 : Cond.selects RX6 yX6_stuck yX6_stuck ∈ GW := gw_of (i := 1137) (by decide +kernel) rfl
theorem gw1138 : Cond.code yX6_stuck cX6_stuck 2 (some .int) ∈ GW := gw_of (i := 1138) (by decide +kernel) rfl
theorem gw1139 : Cond.methodLink RX6 261 yX4_lowestStuck ∈ GW := gw_of (i := 1139) (by decide +kernel) rfl
theorem gw1140 : Cond.instanceMethod yX4_lowestStuck ∈ GW := gw_of (i := 1140) (by decide +kernel) rfl
theorem gw1141 : Cond.selects RX4 yX4_lowestStuck yX4_lowestStuck ∈ GW := gw_of (i := 1141) (by decide +kernel) rfl
theorem gw1142 : Cond.code yX4_lowestStuck cX4_lowestStuck 3 (some .int) ∈ GW := gw_of (i := 1142) (by decide +kernel) rfl
theorem gw1144 : Cond.methodLink RL 226 yL_allForce ∈ GW := gw_of (i := 1144) (by decide +kernel) rfl
theorem gw1145 : Cond.static yL_allForce ∈ GW := gw_of (i := 1145) (by decide +kernel) rfl
theorem gw1146 : Cond.codeWith yL_allForce cL_allForce 3 (some .int) [(0, 7, 10, 15)] ∈ GW := gw_of (i := 1146) (by decide +kernel) rfl
theorem gw1147 : Cond.methodLink RL 101 yX6_allForce ∈ GW := gw_of (i := 1147) (by decide +kernel) rfl
theorem gw1148 : Cond.instanceMethod yX6_allForce ∈ GW := gw_of (i := 1148) (by decide +kernel) rfl
theorem gw1149 : Cond.selects RX6 yX6_allForce yX6_allForce ∈ GW := gw_of (i := 1149) (by decide +kernel) rfl
theorem gw1150 : Cond.code yX6_allForce cX6_allForce 4 (some .long) ∈ GW := gw_of (i := 1150) (by decide +kernel) rfl
theorem gw1151 : Cond.methodLink RL 229 yL_rightShare ∈ GW := gw_of (i := 1151) (by decide +kernel) rfl
theorem gw1152 : Cond.static yL_rightShare ∈ GW := gw_of (i := 1152) (by decide +kernel) rfl
theorem gw1153 : Cond.codeWith yL_rightShare cL_rightShare 3 (some .int) [(0, 8, 11, 109)] ∈ GW := gw_of (i := 1153) (by decide +kernel) rfl
theorem gw1154 : Cond.classLink RL 109 "java/lang/ArithmeticException" ∈ GW := gw_of (i := 1154) (by decide +kernel) rfl
theorem gw1166 : Cond.castable "java/lang/ArithmeticException" "java/lang/ArithmeticException" ∈ NW := nw_of (i := 1166) (by decide +kernel) rfl
theorem gw1168 : Cond.methodLink RL 105 yX6_rightShare ∈ GW := gw_of (i := 1168) (by decide +kernel) rfl
theorem gw1169 : Cond.instanceMethod yX6_rightShare ∈ GW := gw_of (i := 1169) (by decide +kernel) rfl
theorem gw1170 : Cond.selects RX6 yX6_rightShare yX6_rightShare ∈ GW := gw_of (i := 1170) (by decide +kernel) rfl
theorem gw1171 : Cond.code yX6_rightShare cX6_rightShare 3 (some .float) ∈ GW := gw_of (i := 1171) (by decide +kernel) rfl
theorem gw1172 : Cond.classLink RX6 266 "java/lang/ArithmeticException" ∈ GW := gw_of (i := 1172) (by decide +kernel) rfl
theorem gw1174 : Cond.methodLink RL 233 yL_meanPull ∈ GW := gw_of (i := 1174) (by decide +kernel) rfl
theorem gw1175 : Cond.static yL_meanPull ∈ GW := gw_of (i := 1175) (by decide +kernel) rfl
theorem gw1176 : Cond.codeWith yL_meanPull cL_meanPull 3 (some .int) [(0, 7, 10, 15), (0, 7, 13, 109)] ∈ GW := gw_of (i := 1176) (by decide +kernel) rfl
theorem gw1177 : Cond.methodLink RL 111 yX6_meanPull ∈ GW := gw_of (i := 1177) (by decide +kernel) rfl
theorem gw1178 : Cond.instanceMethod yX6_meanPull ∈ GW := gw_of (i := 1178) (by decide +kernel) rfl
theorem gw1179 : Cond.selects RX6 yX6_meanPull yX6_meanPull ∈ GW := gw_of (i := 1179) (by decide +kernel) rfl
theorem gw1180 : Cond.code yX6_meanPull cX6_meanPull 1 (some .double) ∈ GW := gw_of (i := 1180) (by decide +kernel) rfl
theorem gw1187 : Cond.classLink RL 116 RX12 ∈ GW := gw_of (i := 1187) (by decide +kernel) rfl
theorem gw1188 : Cond.instantiable RX12 27 ∈ GW := gw_of (i := 1188) (by decide +kernel) rfl
theorem gw1189 : Cond.methodLink RL 118 yX12_init ∈ GW := gw_of (i := 1189) (by decide +kernel) rfl
theorem gw1190 : Cond.instanceMethod yX12_init ∈ GW := gw_of (i := 1190) (by decide +kernel) rfl
theorem gw1191 : Cond.code yX12_init cX12_init 1 none ∈ GW := gw_of (i := 1191) (by decide +kernel) rfl
theorem gw1192 : Cond.methodLink RX12 1 objectInit ∈ GW := gw_of (i := 1192) (by decide +kernel) rfl
theorem gw1193 : Cond.classLink RX12 7 RJx4a65c ∈ GW := gw_of (i := 1193) (by decide +kernel) rfl
theorem gw1194 : Cond.instantiable RJx4a65c 3 ∈ GW := gw_of (i := 1194) (by decide +kernel) rfl
theorem gw1195 : Cond.methodLink RX12 9 yJx4a65c_init_da8c8 ∈ GW := gw_of (i := 1195) (by decide +kernel) rfl
theorem gw1196 : Cond.instanceMethod yJx4a65c_init_da8c8 ∈ GW := gw_of (i := 1196) (by decide +kernel) rfl
theorem gw1197 : Cond.code yJx4a65c_init_da8c8 cJx4a65c_init_da8c8 1 none ∈ GW := gw_of (i := 1197) (by decide +kernel) rfl
theorem gw1198 : Cond.methodLink RJx4a65c 1 yJxc12de_init_da8c8 ∈ GW := gw_of (i := 1198) (by decide +kernel) rfl
theorem gw1199 : Cond.instanceMethod yJxc12de_init_da8c8 ∈ GW := gw_of (i := 1199) (by decide +kernel) rfl
theorem gw1200 : Cond.code yJxc12de_init_da8c8 cJxc12de_init_da8c8 1 none ∈ GW := gw_of (i := 1200) (by decide +kernel) rfl
theorem gw1201 : Cond.methodLink RJxc12de 1 yJxa1e45_init_da8c8 ∈ GW := gw_of (i := 1201) (by decide +kernel) rfl
theorem gw1202 : Cond.instanceMethod yJxa1e45_init_da8c8 ∈ GW := gw_of (i := 1202) (by decide +kernel) rfl
theorem gw1203 : Cond.code yJxa1e45_init_da8c8 cJxa1e45_init_da8c8 1 none ∈ GW := gw_of (i := 1203) (by decide +kernel) rfl
theorem gw1204 : Cond.methodLink RJxa1e45 1 objectInit ∈ GW := gw_of (i := 1204) (by decide +kernel) rfl
theorem gw1205 : Cond.fieldLink RJx4a65c 39 "java/util/ArrayList" "DEFAULTCAPACITY_EMPTY_ELEMENTDATA" "[Ljava/lang/Object;" ∈ GW := gw_of (i := 1205) (by decide +kernel) rfl
theorem gw1207 : Cond.fieldLink RJx4a65c 9 "java/util/ArrayList" "elementData" "[Ljava/lang/Object;" ∈ GW := gw_of (i := 1207) (by decide +kernel) rfl
theorem gw1208 : Cond.fieldLink RJx4a65c 48 "java/util/ArrayList" "size" "I" ∈ GW := gw_of (i := 1208) (by decide +kernel) rfl
theorem gw1209 : Cond.fieldLink RJxc12de 7 "java/util/AbstractList" "modCount" "I" ∈ GW := gw_of (i := 1209) (by decide +kernel) rfl
theorem gw1210 : Cond.fieldLink RJx4a65c 63 "java/util/ArrayList" "modCount" "I" ∈ GW := gw_of (i := 1210) (by decide +kernel) rfl
theorem gw1211 : Cond.sameField "java/util/ArrayList" "java/util/AbstractList" "modCount" "I" ∈ GW := gw_of (i := 1211) (by decide +kernel) rfl
theorem gw1219 : Cond.fieldLink RX12 10 "TenonyardModel" "nodes" "Ljava/util/ArrayList;" ∈ GW := gw_of (i := 1219) (by decide +kernel) rfl
theorem gw1220 : Cond.fieldLink RX12 16 "TenonyardModel" "members" "Ljava/util/ArrayList;" ∈ GW := gw_of (i := 1220) (by decide +kernel) rfl
theorem gw1221 : Cond.fieldLink RX12 19 "TenonyardModel" "joints" "Ljava/util/ArrayList;" ∈ GW := gw_of (i := 1221) (by decide +kernel) rfl
theorem gw1222 : Cond.fieldLink RX12 22 "TenonyardModel" "sticks" "Ljava/util/ArrayList;" ∈ GW := gw_of (i := 1222) (by decide +kernel) rfl
theorem gw1223 : Cond.fieldLink RX12 25 "TenonyardModel" "minors" "[J" ∈ GW := gw_of (i := 1223) (by decide +kernel) rfl
theorem gw1224 : Cond.fieldLink RX12 29 "TenonyardModel" "pulls" "[J" ∈ GW := gw_of (i := 1224) (by decide +kernel) rfl
theorem gw1225 : Cond.fieldLink RX12 32 "TenonyardModel" "forces" "[J" ∈ GW := gw_of (i := 1225) (by decide +kernel) rfl
theorem gw1226 : Cond.fieldLink RX12 35 "TenonyardModel" "isEnd" "[Z" ∈ GW := gw_of (i := 1226) (by decide +kernel) rfl
theorem gw1227 : Cond.fieldLink RX12 39 "TenonyardModel" "canCut" "[Z" ∈ GW := gw_of (i := 1227) (by decide +kernel) rfl
theorem gw1228 : Cond.fieldLink RX12 42 "TenonyardModel" "ways" "[I" ∈ GW := gw_of (i := 1228) (by decide +kernel) rfl
theorem gw1229 : Cond.fieldLink RX12 46 "TenonyardModel" "order" "[I" ∈ GW := gw_of (i := 1229) (by decide +kernel) rfl
theorem gw1230 : Cond.fieldLink RX12 49 "TenonyardModel" "best" "[I" ∈ GW := gw_of (i := 1230) (by decide +kernel) rfl
theorem gw1231 : Cond.fieldLink RX12 52 "TenonyardModel" "tried" "[I" ∈ GW := gw_of (i := 1231) (by decide +kernel) rfl
theorem gw1232 : Cond.fieldLink RX12 55 "TenonyardModel" "left" "[I" ∈ GW := gw_of (i := 1232) (by decide +kernel) rfl
theorem gw1233 : Cond.fieldLink RX12 58 "TenonyardModel" "needs" "[I" ∈ GW := gw_of (i := 1233) (by decide +kernel) rfl
theorem gw1234 : Cond.fieldLink RX12 61 "TenonyardModel" "lengths" "[I" ∈ GW := gw_of (i := 1234) (by decide +kernel) rfl
theorem gw1235 : Cond.fieldLink RX12 64 "TenonyardModel" "breadths" "[I" ∈ GW := gw_of (i := 1235) (by decide +kernel) rfl
theorem gw1236 : Cond.fieldLink RX12 67 "TenonyardModel" "grades" "[I" ∈ GW := gw_of (i := 1236) (by decide +kernel) rfl
theorem gw1237 : Cond.fieldLink RX12 163 "TenonyardModel" "base" "J" ∈ GW := gw_of (i := 1237) (by decide +kernel) rfl
theorem gw1238 : Cond.fieldLink RX12 74 "TenonyardModel" "thrown" "I" ∈ GW := gw_of (i := 1238) (by decide +kernel) rfl
theorem gw1239 : Cond.fieldLink RX12 70 "TenonyardModel" "props" "I" ∈ GW := gw_of (i := 1239) (by decide +kernel) rfl
theorem gw1240 : Cond.fieldLink RX12 268 "TenonyardModel" "wood" "I" ∈ GW := gw_of (i := 1240) (by decide +kernel) rfl
theorem gw1241 : Cond.fieldLink RX12 77 "TenonyardModel" "isReckoned" "Z" ∈ GW := gw_of (i := 1241) (by decide +kernel) rfl
theorem gw1242 : Cond.fieldLink RX12 151 "TenonyardModel" "isForced" "Z" ∈ GW := gw_of (i := 1242) (by decide +kernel) rfl
theorem gw1243 : Cond.fieldLink RX12 81 "TenonyardModel" "isRaised" "Z" ∈ GW := gw_of (i := 1243) (by decide +kernel) rfl
theorem gw1244 : Cond.fieldLink RX12 84 "TenonyardModel" "isCut" "Z" ∈ GW := gw_of (i := 1244) (by decide +kernel) rfl
theorem gw1245 : Cond.fieldLink RX12 157 "TenonyardModel" "state" "C" ∈ GW := gw_of (i := 1245) (by decide +kernel) rfl
theorem gw1301 : Cond.methodLink RL 125 yX12_thrown ∈ GW := gw_of (i := 1301) (by decide +kernel) rfl
theorem gw1302 : Cond.instanceMethod yX12_thrown ∈ GW := gw_of (i := 1302) (by decide +kernel) rfl
theorem gw1303 : Cond.selects RX12 yX12_thrown yX12_thrown ∈ GW := gw_of (i := 1303) (by decide +kernel) rfl
theorem gw1304 : Cond.code yX12_thrown cX12_thrown 1 (some .int) ∈ GW := gw_of (i := 1304) (by decide +kernel) rfl
theorem gw1305 : Cond.methodLink RL 124 yX12_node ∈ GW := gw_of (i := 1305) (by decide +kernel) rfl
theorem gw1306 : Cond.instanceMethod yX12_node ∈ GW := gw_of (i := 1306) (by decide +kernel) rfl
theorem gw1307 : Cond.selects RX12 yX12_node yX12_node ∈ GW := gw_of (i := 1307) (by decide +kernel) rfl
theorem gw1308 : Cond.code yX12_node cX12_node 4 (some .int) ∈ GW := gw_of (i := 1308) (by decide +kernel) rfl
theorem gw1309 : Cond.methodLink RX12 285 yX12_in ∈ GW := gw_of (i := 1309) (by decide +kernel) rfl
theorem gw1310 : Cond.static yX12_in ∈ GW := gw_of (i := 1310) (by decide +kernel) rfl
theorem gw1311 : Cond.code yX12_in cX12_in 4 (some .boolean) ∈ GW := gw_of (i := 1311) (by decide +kernel) rfl
theorem gw1312 : Cond.methodLink RX12 289 yX12_fails ∈ GW := gw_of (i := 1312) (by decide +kernel) rfl
theorem gw1314 : Cond.instanceMethod yX12_fails ∈ GW := gw_of (i := 1314) (by decide +kernel) rfl
theorem gw1315 : Cond.code yX12_fails cX12_fails 2 (some .int) ∈ GW := gw_of (i := 1315) (by decide +kernel) rfl
theorem gw1316 : Cond.methodLink RX12 125 yJx4a65c_size_8abf5 ∈ GW := gw_of (i := 1316) (by decide +kernel) rfl
theorem gw1317 : Cond.instanceMethod yJx4a65c_size_8abf5 ∈ GW := gw_of (i := 1317) (by decide +kernel) rfl
theorem gw1318 : Cond.selects RJx4a65c yJx4a65c_size_8abf5 yJx4a65c_size_8abf5 ∈ GW := gw_of (i := 1318) (by decide +kernel) rfl
theorem gw1319 : Cond.code yJx4a65c_size_8abf5 cJx4a65c_size_8abf5 1 (some .int) ∈ GW := gw_of (i := 1319) (by decide +kernel) rfl
theorem gw1320 : Cond.classLink RX12 99 RX9 ∈ GW := gw_of (i := 1320) (by decide +kernel) rfl
theorem gw1321 : Cond.instantiable RX9 6 ∈ GW := gw_of (i := 1321) (by decide +kernel) rfl
theorem gw1322 : Cond.methodLink RX12 292 yX9_init ∈ GW := gw_of (i := 1322) (by decide +kernel) rfl
theorem gw1323 : Cond.instanceMethod yX9_init ∈ GW := gw_of (i := 1323) (by decide +kernel) rfl
theorem gw1324 : Cond.code yX9_init cX9_init 4 none ∈ GW := gw_of (i := 1324) (by decide +kernel) rfl
theorem gw1325 : Cond.methodLink RX9 1 objectInit ∈ GW := gw_of (i := 1325) (by decide +kernel) rfl
theorem gw1326 : Cond.fieldLink RX9 7 "TenonyardModel$Node" "x" "I" ∈ GW := gw_of (i := 1326) (by decide +kernel) rfl
theorem gw1328 : Cond.fieldLink RX9 13 "TenonyardModel$Node" "y" "I" ∈ GW := gw_of (i := 1328) (by decide +kernel) rfl
theorem gw1330 : Cond.fieldLink RX9 16 "TenonyardModel$Node" "kind" "C" ∈ GW := gw_of (i := 1330) (by decide +kernel) rfl
theorem gw1348 : Cond.methodLink RX12 295 yJx4a65c_add_9ea2d ∈ GW := gw_of (i := 1348) (by decide +kernel) rfl
theorem gw1349 : Cond.instanceMethod yJx4a65c_add_9ea2d ∈ GW := gw_of (i := 1349) (by decide +kernel) rfl
theorem gw1350 : Cond.selects RJx4a65c yJx4a65c_add_9ea2d yJx4a65c_add_9ea2d ∈ GW := gw_of (i := 1350) (by decide +kernel) rfl
theorem gw1351 : Cond.code yJx4a65c_add_9ea2d cJx4a65c_add_9ea2d 2 (some .boolean) ∈ GW := gw_of (i := 1351) (by decide +kernel) rfl
theorem gw1352 : Cond.methodLink RJx4a65c 131 yJx4a65c_add_72be8 ∈ GW := gw_of (i := 1352) (by decide +kernel) rfl
theorem gw1354 : Cond.instanceMethod yJx4a65c_add_72be8 ∈ GW := gw_of (i := 1354) (by decide +kernel) rfl
theorem gw1355 : Cond.code yJx4a65c_add_72be8 cJx4a65c_add_72be8 4 none ∈ GW := gw_of (i := 1355) (by decide +kernel) rfl
theorem gw1356 : Cond.methodLink RJx4a65c 129 yJx4a65c_grow_d5877 ∈ GW := gw_of (i := 1356) (by decide +kernel) rfl
theorem gw1358 : Cond.instanceMethod yJx4a65c_grow_d5877 ∈ GW := gw_of (i := 1358) (by decide +kernel) rfl
theorem gw1359 : Cond.code yJx4a65c_grow_d5877 cJx4a65c_grow_d5877 1 (some (.array (.object "java/lang/Object"))) ∈ GW := gw_of (i := 1359) (by decide +kernel) rfl
theorem gw1360 : Cond.methodLink RJx4a65c 69 yJx4a65c_grow_92f84 ∈ GW := gw_of (i := 1360) (by decide +kernel) rfl
theorem gw1362 : Cond.instanceMethod yJx4a65c_grow_92f84 ∈ GW := gw_of (i := 1362) (by decide +kernel) rfl
theorem gw1363 : Cond.code yJx4a65c_grow_92f84 cJx4a65c_grow_92f84 4 (some (.array (.object "java/lang/Object"))) ∈ GW := gw_of (i := 1363) (by decide +kernel) rfl
theorem gw1410 : Cond.methodLink RJx4a65c 79 Lib.Math.max.name ∈ GW := gw_of (i := 1410) (by decide +kernel) rfl
theorem gw1411 : Cond.classLink RJx4a65c 7 "java/lang/Object" ∈ GW := gw_of (i := 1411) (by decide +kernel) rfl
theorem gw1412 : Cond.methodLink RX12 299 yX12_changes ∈ GW := gw_of (i := 1412) (by decide +kernel) rfl
theorem gw1414 : Cond.instanceMethod yX12_changes ∈ GW := gw_of (i := 1414) (by decide +kernel) rfl
theorem gw1415 : Cond.code yX12_changes cX12_changes 1 none ∈ GW := gw_of (i := 1415) (by decide +kernel) rfl
theorem gw1416 : Cond.methodLink RX12 302 yX12_tell ∈ GW := gw_of (i := 1416) (by decide +kernel) rfl
theorem gw1418 : Cond.instanceMethod yX12_tell ∈ GW := gw_of (i := 1418) (by decide +kernel) rfl
theorem gw1419 : Cond.code yX12_tell cX12_tell 2 (some .int) ∈ GW := gw_of (i := 1419) (by decide +kernel) rfl
theorem gw1420 : Cond.methodLink RL 131 yX12_member ∈ GW := gw_of (i := 1420) (by decide +kernel) rfl
theorem gw1421 : Cond.instanceMethod yX12_member ∈ GW := gw_of (i := 1421) (by decide +kernel) rfl
theorem gw1422 : Cond.selects RX12 yX12_member yX12_member ∈ GW := gw_of (i := 1422) (by decide +kernel) rfl
theorem gw1423 : Cond.code yX12_member cX12_member 6 (some .int) ∈ GW := gw_of (i := 1423) (by decide +kernel) rfl
theorem gw1424 : Cond.methodLink RX12 305 yX12_isNode ∈ GW := gw_of (i := 1424) (by decide +kernel) rfl
theorem gw1426 : Cond.instanceMethod yX12_isNode ∈ GW := gw_of (i := 1426) (by decide +kernel) rfl
theorem gw1427 : Cond.code yX12_isNode cX12_isNode 2 (some .boolean) ∈ GW := gw_of (i := 1427) (by decide +kernel) rfl
theorem gw1473 : Cond.methodLink RL 135 yX12_load ∈ GW := gw_of (i := 1473) (by decide +kernel) rfl
theorem gw1474 : Cond.instanceMethod yX12_load ∈ GW := gw_of (i := 1474) (by decide +kernel) rfl
theorem gw1475 : Cond.selects RX12 yX12_load yX12_load ∈ GW := gw_of (i := 1475) (by decide +kernel) rfl
theorem gw1476 : Cond.code yX12_load cX12_load 4 (some .int) ∈ GW := gw_of (i := 1476) (by decide +kernel) rfl
theorem gw1477 : Cond.methodLink RL 140 yX12_state ∈ GW := gw_of (i := 1477) (by decide +kernel) rfl
theorem gw1478 : Cond.instanceMethod yX12_state ∈ GW := gw_of (i := 1478) (by decide +kernel) rfl
theorem gw1479 : Cond.selects RX12 yX12_state yX12_state ∈ GW := gw_of (i := 1479) (by decide +kernel) rfl
theorem gw1480 : Cond.code yX12_state cX12_state 1 (some .char) ∈ GW := gw_of (i := 1480) (by decide +kernel) rfl
theorem gw1481 : Cond.methodLink RX12 166 yX12_reckons ∈ GW := gw_of (i := 1481) (by decide +kernel) rfl
theorem gw1483 : Cond.instanceMethod yX12_reckons ∈ GW := gw_of (i := 1483) (by decide +kernel) rfl
theorem gw1484 : Cond.code yX12_reckons cX12_reckons 3 none ∈ GW := gw_of (i := 1484) (by decide +kernel) rfl
theorem gw1485 : Cond.methodLink RX12 154 yX12_unknowns ∈ GW := gw_of (i := 1485) (by decide +kernel) rfl
theorem gw1487 : Cond.instanceMethod yX12_unknowns ∈ GW := gw_of (i := 1487) (by decide +kernel) rfl
theorem gw1488 : Cond.code yX12_unknowns cX12_unknowns 3 (some .int) ∈ GW := gw_of (i := 1488) (by decide +kernel) rfl
theorem gw1489 : Cond.methodLink RX12 160 yX12_determinant ∈ GW := gw_of (i := 1489) (by decide +kernel) rfl
theorem gw1491 : Cond.instanceMethod yX12_determinant ∈ GW := gw_of (i := 1491) (by decide +kernel) rfl
theorem gw1492 : Cond.code yX12_determinant cX12_determinant 6 (some .long) ∈ GW := gw_of (i := 1492) (by decide +kernel) rfl
theorem gw1518 : Cond.methodLink RL 144 yX12_force ∈ GW := gw_of (i := 1518) (by decide +kernel) rfl
theorem gw1519 : Cond.instanceMethod yX12_force ∈ GW := gw_of (i := 1519) (by decide +kernel) rfl
theorem gw1520 : Cond.selects RX12 yX12_force yX12_force ∈ GW := gw_of (i := 1520) (by decide +kernel) rfl
theorem gw1521 : Cond.code yX12_force cX12_force 2 (some .long) ∈ GW := gw_of (i := 1521) (by decide +kernel) rfl
theorem gw1522 : Cond.methodLink RX12 314 yX12_isMember ∈ GW := gw_of (i := 1522) (by decide +kernel) rfl
theorem gw1524 : Cond.instanceMethod yX12_isMember ∈ GW := gw_of (i := 1524) (by decide +kernel) rfl
theorem gw1525 : Cond.code yX12_isMember cX12_isMember 2 (some .boolean) ∈ GW := gw_of (i := 1525) (by decide +kernel) rfl
theorem gw1526 : Cond.methodLink RX12 317 yX12_failsLong ∈ GW := gw_of (i := 1526) (by decide +kernel) rfl
theorem gw1528 : Cond.instanceMethod yX12_failsLong ∈ GW := gw_of (i := 1528) (by decide +kernel) rfl
theorem gw1529 : Cond.code yX12_failsLong cX12_failsLong 2 (some .long) ∈ GW := gw_of (i := 1529) (by decide +kernel) rfl
theorem gw1530 : Cond.methodLink RX12 320 yX12_stands ∈ GW := gw_of (i := 1530) (by decide +kernel) rfl
theorem gw1532 : Cond.instanceMethod yX12_stands ∈ GW := gw_of (i := 1532) (by decide +kernel) rfl
theorem gw1533 : Cond.code yX12_stands cX12_stands 1 (some .boolean) ∈ GW := gw_of (i := 1533) (by decide +kernel) rfl
theorem gw1576 : Cond.methodLink RX12 326 yX12_tellLong ∈ GW := gw_of (i := 1576) (by decide +kernel) rfl
theorem gw1578 : Cond.instanceMethod yX12_tellLong ∈ GW := gw_of (i := 1578) (by decide +kernel) rfl
theorem gw1579 : Cond.code yX12_tellLong cX12_tellLong 3 (some .long) ∈ GW := gw_of (i := 1579) (by decide +kernel) rfl
theorem gw1580 : Cond.methodLink RL 147 yX12_pull ∈ GW := gw_of (i := 1580) (by decide +kernel) rfl
theorem gw1581 : Cond.instanceMethod yX12_pull ∈ GW := gw_of (i := 1581) (by decide +kernel) rfl
theorem gw1582 : Cond.selects RX12 yX12_pull yX12_pull ∈ GW := gw_of (i := 1582) (by decide +kernel) rfl
theorem gw1583 : Cond.code yX12_pull cX12_pull 2 (some .long) ∈ GW := gw_of (i := 1583) (by decide +kernel) rfl
theorem gw1591 : Cond.methodLink RL 151 yX12_bearing ∈ GW := gw_of (i := 1591) (by decide +kernel) rfl
theorem gw1592 : Cond.instanceMethod yX12_bearing ∈ GW := gw_of (i := 1592) (by decide +kernel) rfl
theorem gw1593 : Cond.selects RX12 yX12_bearing yX12_bearing ∈ GW := gw_of (i := 1593) (by decide +kernel) rfl
theorem gw1594 : Cond.code yX12_bearing cX12_bearing 3 (some .long) ∈ GW := gw_of (i := 1594) (by decide +kernel) rfl
theorem gw1599 : Cond.methodLink RL 154 yX12_isBalanced ∈ GW := gw_of (i := 1599) (by decide +kernel) rfl
theorem gw1600 : Cond.instanceMethod yX12_isBalanced ∈ GW := gw_of (i := 1600) (by decide +kernel) rfl
theorem gw1601 : Cond.selects RX12 yX12_isBalanced yX12_isBalanced ∈ GW := gw_of (i := 1601) (by decide +kernel) rfl
theorem gw1602 : Cond.code yX12_isBalanced cX12_isBalanced 2 (some .boolean) ∈ GW := gw_of (i := 1602) (by decide +kernel) rfl
theorem gw1603 : Cond.methodLink RX12 336 yX12_refuses ∈ GW := gw_of (i := 1603) (by decide +kernel) rfl
theorem gw1605 : Cond.instanceMethod yX12_refuses ∈ GW := gw_of (i := 1605) (by decide +kernel) rfl
theorem gw1606 : Cond.code yX12_refuses cX12_refuses 2 (some .boolean) ∈ GW := gw_of (i := 1606) (by decide +kernel) rfl
theorem gw1607 : Cond.methodLink RX12 339 yX12_restOf ∈ GW := gw_of (i := 1607) (by decide +kernel) rfl
theorem gw1609 : Cond.instanceMethod yX12_restOf ∈ GW := gw_of (i := 1609) (by decide +kernel) rfl
theorem gw1610 : Cond.code yX12_restOf cX12_restOf 10 (some .long) ∈ GW := gw_of (i := 1610) (by decide +kernel) rfl
theorem gw1611 : Cond.methodLink RX12 343 yX12_tells ∈ GW := gw_of (i := 1611) (by decide +kernel) rfl
theorem gw1613 : Cond.instanceMethod yX12_tells ∈ GW := gw_of (i := 1613) (by decide +kernel) rfl
theorem gw1614 : Cond.code yX12_tells cX12_tells 2 (some .boolean) ∈ GW := gw_of (i := 1614) (by decide +kernel) rfl
theorem gw1615 : Cond.methodLink RL 158 yX12_weakest ∈ GW := gw_of (i := 1615) (by decide +kernel) rfl
theorem gw1616 : Cond.instanceMethod yX12_weakest ∈ GW := gw_of (i := 1616) (by decide +kernel) rfl
theorem gw1617 : Cond.selects RX12 yX12_weakest yX12_weakest ∈ GW := gw_of (i := 1617) (by decide +kernel) rfl
theorem gw1618 : Cond.code yX12_weakest cX12_weakest 3 (some .int) ∈ GW := gw_of (i := 1618) (by decide +kernel) rfl
theorem gw1619 : Cond.methodLink RL 162 yX12_joint ∈ GW := gw_of (i := 1619) (by decide +kernel) rfl
theorem gw1620 : Cond.instanceMethod yX12_joint ∈ GW := gw_of (i := 1620) (by decide +kernel) rfl
theorem gw1621 : Cond.selects RX12 yX12_joint yX12_joint ∈ GW := gw_of (i := 1621) (by decide +kernel) rfl
theorem gw1622 : Cond.code yX12_joint cX12_joint 9 (some .int) ∈ GW := gw_of (i := 1622) (by decide +kernel) rfl
theorem gw1657 : Cond.methodLink RL 165 yX12_isRight ∈ GW := gw_of (i := 1657) (by decide +kernel) rfl
theorem gw1658 : Cond.instanceMethod yX12_isRight ∈ GW := gw_of (i := 1658) (by decide +kernel) rfl
theorem gw1659 : Cond.selects RX12 yX12_isRight yX12_isRight ∈ GW := gw_of (i := 1659) (by decide +kernel) rfl
theorem gw1660 : Cond.code yX12_isRight cX12_isRight 2 (some .boolean) ∈ GW := gw_of (i := 1660) (by decide +kernel) rfl
theorem gw1661 : Cond.methodLink RX12 363 yX12_isJoint ∈ GW := gw_of (i := 1661) (by decide +kernel) rfl
theorem gw1663 : Cond.instanceMethod yX12_isJoint ∈ GW := gw_of (i := 1663) (by decide +kernel) rfl
theorem gw1664 : Cond.code yX12_isJoint cX12_isJoint 2 (some .boolean) ∈ GW := gw_of (i := 1664) (by decide +kernel) rfl
theorem gw1670 : Cond.methodLink RL 168 yX12_misread ∈ GW := gw_of (i := 1670) (by decide +kernel) rfl
theorem gw1671 : Cond.instanceMethod yX12_misread ∈ GW := gw_of (i := 1671) (by decide +kernel) rfl
theorem gw1672 : Cond.selects RX12 yX12_misread yX12_misread ∈ GW := gw_of (i := 1672) (by decide +kernel) rfl
theorem gw1673 : Cond.code yX12_misread cX12_misread 2 (some .int) ∈ GW := gw_of (i := 1673) (by decide +kernel) rfl
theorem gw1678 : Cond.methodLink RL 172 yX12_clashes ∈ GW := gw_of (i := 1678) (by decide +kernel) rfl
theorem gw1679 : Cond.instanceMethod yX12_clashes ∈ GW := gw_of (i := 1679) (by decide +kernel) rfl
theorem gw1680 : Cond.selects RX12 yX12_clashes yX12_clashes ∈ GW := gw_of (i := 1680) (by decide +kernel) rfl
theorem gw1681 : Cond.code yX12_clashes cX12_clashes 4 (some .int) ∈ GW := gw_of (i := 1681) (by decide +kernel) rfl
theorem gw1682 : Cond.methodLink RL 176 yX12_cutAt ∈ GW := gw_of (i := 1682) (by decide +kernel) rfl
theorem gw1683 : Cond.instanceMethod yX12_cutAt ∈ GW := gw_of (i := 1683) (by decide +kernel) rfl
theorem gw1684 : Cond.selects RX12 yX12_cutAt yX12_cutAt ∈ GW := gw_of (i := 1684) (by decide +kernel) rfl
theorem gw1685 : Cond.code yX12_cutAt cX12_cutAt 4 (some .int) ∈ GW := gw_of (i := 1685) (by decide +kernel) rfl
theorem gw1686 : Cond.methodLink RL 179 yX12_dry ∈ GW := gw_of (i := 1686) (by decide +kernel) rfl
theorem gw1687 : Cond.instanceMethod yX12_dry ∈ GW := gw_of (i := 1687) (by decide +kernel) rfl
theorem gw1688 : Cond.selects RX12 yX12_dry yX12_dry ∈ GW := gw_of (i := 1688) (by decide +kernel) rfl
theorem gw1689 : Cond.code yX12_dry cX12_dry 4 (some .int) ∈ GW := gw_of (i := 1689) (by decide +kernel) rfl
theorem gw1690 : Cond.methodLink RL 182 yX12_gap ∈ GW := gw_of (i := 1690) (by decide +kernel) rfl
theorem gw1691 : Cond.instanceMethod yX12_gap ∈ GW := gw_of (i := 1691) (by decide +kernel) rfl
theorem gw1692 : Cond.selects RX12 yX12_gap yX12_gap ∈ GW := gw_of (i := 1692) (by decide +kernel) rfl
theorem gw1693 : Cond.code yX12_gap cX12_gap 2 (some .int) ∈ GW := gw_of (i := 1693) (by decide +kernel) rfl
theorem gw1698 : Cond.methodLink RL 185 yX12_widest ∈ GW := gw_of (i := 1698) (by decide +kernel) rfl
theorem gw1699 : Cond.instanceMethod yX12_widest ∈ GW := gw_of (i := 1699) (by decide +kernel) rfl
theorem gw1700 : Cond.selects RX12 yX12_widest yX12_widest ∈ GW := gw_of (i := 1700) (by decide +kernel) rfl
theorem gw1701 : Cond.code yX12_widest cX12_widest 3 (some .int) ∈ GW := gw_of (i := 1701) (by decide +kernel) rfl
theorem gw1702 : Cond.methodLink RL 188 yX12_stick ∈ GW := gw_of (i := 1702) (by decide +kernel) rfl
theorem gw1703 : Cond.instanceMethod yX12_stick ∈ GW := gw_of (i := 1703) (by decide +kernel) rfl
theorem gw1704 : Cond.selects RX12 yX12_stick yX12_stick ∈ GW := gw_of (i := 1704) (by decide +kernel) rfl
theorem gw1705 : Cond.code yX12_stick cX12_stick 4 (some .int) ∈ GW := gw_of (i := 1705) (by decide +kernel) rfl
theorem gw1706 : Cond.classLink RX12 239 RX10 ∈ GW := gw_of (i := 1706) (by decide +kernel) rfl
theorem gw1707 : Cond.instantiable RX10 3 ∈ GW := gw_of (i := 1707) (by decide +kernel) rfl
theorem gw1708 : Cond.methodLink RX12 386 yX10_init ∈ GW := gw_of (i := 1708) (by decide +kernel) rfl
theorem gw1709 : Cond.instanceMethod yX10_init ∈ GW := gw_of (i := 1709) (by decide +kernel) rfl
theorem gw1710 : Cond.code yX10_init cX10_init 4 none ∈ GW := gw_of (i := 1710) (by decide +kernel) rfl
theorem gw1711 : Cond.methodLink RX10 1 objectInit ∈ GW := gw_of (i := 1711) (by decide +kernel) rfl
theorem gw1712 : Cond.fieldLink RX10 7 "TenonyardModel$Stick" "length" "I" ∈ GW := gw_of (i := 1712) (by decide +kernel) rfl
theorem gw1714 : Cond.fieldLink RX10 13 "TenonyardModel$Stick" "breadth" "I" ∈ GW := gw_of (i := 1714) (by decide +kernel) rfl
theorem gw1716 : Cond.fieldLink RX10 16 "TenonyardModel$Stick" "grade" "I" ∈ GW := gw_of (i := 1716) (by decide +kernel) rfl
theorem gw1725 : Cond.methodLink RL 191 yX12_piece ∈ GW := gw_of (i := 1725) (by decide +kernel) rfl
theorem gw1726 : Cond.instanceMethod yX12_piece ∈ GW := gw_of (i := 1726) (by decide +kernel) rfl
theorem gw1727 : Cond.selects RX12 yX12_piece yX12_piece ∈ GW := gw_of (i := 1727) (by decide +kernel) rfl
theorem gw1728 : Cond.code yX12_piece cX12_piece 2 (some .int) ∈ GW := gw_of (i := 1728) (by decide +kernel) rfl
theorem gw1733 : Cond.methodLink RL 194 yX12_stickOf ∈ GW := gw_of (i := 1733) (by decide +kernel) rfl
theorem gw1734 : Cond.instanceMethod yX12_stickOf ∈ GW := gw_of (i := 1734) (by decide +kernel) rfl
theorem gw1735 : Cond.selects RX12 yX12_stickOf yX12_stickOf ∈ GW := gw_of (i := 1735) (by decide +kernel) rfl
theorem gw1736 : Cond.code yX12_stickOf cX12_stickOf 2 (some .int) ∈ GW := gw_of (i := 1736) (by decide +kernel) rfl
theorem gw1737 : Cond.methodLink RX12 389 yX12_areCut ∈ GW := gw_of (i := 1737) (by decide +kernel) rfl
theorem gw1739 : Cond.instanceMethod yX12_areCut ∈ GW := gw_of (i := 1739) (by decide +kernel) rfl
theorem gw1740 : Cond.code yX12_areCut cX12_areCut 1 (some .boolean) ∈ GW := gw_of (i := 1740) (by decide +kernel) rfl
theorem gw1741 : Cond.methodLink RX12 282 yX12_saws ∈ GW := gw_of (i := 1741) (by decide +kernel) rfl
theorem gw1743 : Cond.instanceMethod yX12_saws ∈ GW := gw_of (i := 1743) (by decide +kernel) rfl
theorem gw1744 : Cond.code yX12_saws cX12_saws 4 none ∈ GW := gw_of (i := 1744) (by decide +kernel) rfl
theorem gw1745 : Cond.methodLink RX12 271 yX12_sums ∈ GW := gw_of (i := 1745) (by decide +kernel) rfl
theorem gw1747 : Cond.instanceMethod yX12_sums ∈ GW := gw_of (i := 1747) (by decide +kernel) rfl
theorem gw1748 : Cond.code yX12_sums cX12_sums 4 none ∈ GW := gw_of (i := 1748) (by decide +kernel) rfl
theorem gw1754 : Cond.methodLink RX12 274 yX12_areEnough ∈ GW := gw_of (i := 1754) (by decide +kernel) rfl
theorem gw1756 : Cond.instanceMethod yX12_areEnough ∈ GW := gw_of (i := 1756) (by decide +kernel) rfl
theorem gw1757 : Cond.code yX12_areEnough cX12_areEnough 5 (some .boolean) ∈ GW := gw_of (i := 1757) (by decide +kernel) rfl
theorem gw1762 : Cond.methodLink RX12 249 yX12_cuts ∈ GW := gw_of (i := 1762) (by decide +kernel) rfl
theorem gw1764 : Cond.instanceMethod yX12_cuts ∈ GW := gw_of (i := 1764) (by decide +kernel) rfl
theorem gw1765 : Cond.code yX12_cuts cX12_cuts 8 (some .boolean) ∈ GW := gw_of (i := 1765) (by decide +kernel) rfl
theorem gw1770 : Cond.methodLink RL 197 yX12_wood ∈ GW := gw_of (i := 1770) (by decide +kernel) rfl
theorem gw1771 : Cond.instanceMethod yX12_wood ∈ GW := gw_of (i := 1771) (by decide +kernel) rfl
theorem gw1772 : Cond.selects RX12 yX12_wood yX12_wood ∈ GW := gw_of (i := 1772) (by decide +kernel) rfl
theorem gw1773 : Cond.code yX12_wood cX12_wood 1 (some .int) ∈ GW := gw_of (i := 1773) (by decide +kernel) rfl
theorem gw1774 : Cond.methodLink RL 200 yX12_waste ∈ GW := gw_of (i := 1774) (by decide +kernel) rfl
theorem gw1775 : Cond.instanceMethod yX12_waste ∈ GW := gw_of (i := 1775) (by decide +kernel) rfl
theorem gw1776 : Cond.selects RX12 yX12_waste yX12_waste ∈ GW := gw_of (i := 1776) (by decide +kernel) rfl
theorem gw1777 : Cond.code yX12_waste cX12_waste 4 (some .int) ∈ GW := gw_of (i := 1777) (by decide +kernel) rfl
theorem gw1778 : Cond.methodLink RL 203 yX12_setProps ∈ GW := gw_of (i := 1778) (by decide +kernel) rfl
theorem gw1779 : Cond.instanceMethod yX12_setProps ∈ GW := gw_of (i := 1779) (by decide +kernel) rfl
theorem gw1780 : Cond.selects RX12 yX12_setProps yX12_setProps ∈ GW := gw_of (i := 1780) (by decide +kernel) rfl
theorem gw1781 : Cond.code yX12_setProps cX12_setProps 3 (some .int) ∈ GW := gw_of (i := 1781) (by decide +kernel) rfl
theorem gw1782 : Cond.methodLink RL 206 yX12_raised ∈ GW := gw_of (i := 1782) (by decide +kernel) rfl
theorem gw1783 : Cond.instanceMethod yX12_raised ∈ GW := gw_of (i := 1783) (by decide +kernel) rfl
theorem gw1784 : Cond.selects RX12 yX12_raised yX12_raised ∈ GW := gw_of (i := 1784) (by decide +kernel) rfl
theorem gw1785 : Cond.code yX12_raised cX12_raised 2 (some .int) ∈ GW := gw_of (i := 1785) (by decide +kernel) rfl
theorem gw1786 : Cond.methodLink RX12 395 yX12_hasOrder ∈ GW := gw_of (i := 1786) (by decide +kernel) rfl
theorem gw1788 : Cond.instanceMethod yX12_hasOrder ∈ GW := gw_of (i := 1788) (by decide +kernel) rfl
theorem gw1789 : Cond.code yX12_hasOrder cX12_hasOrder 1 (some .boolean) ∈ GW := gw_of (i := 1789) (by decide +kernel) rfl
theorem gw1790 : Cond.methodLink RX12 392 yX12_raises ∈ GW := gw_of (i := 1790) (by decide +kernel) rfl
theorem gw1792 : Cond.instanceMethod yX12_raises ∈ GW := gw_of (i := 1792) (by decide +kernel) rfl
theorem gw1793 : Cond.code yX12_raises cX12_raises 5 none ∈ GW := gw_of (i := 1793) (by decide +kernel) rfl
theorem gw1810 : Cond.methodLink RL 211 yX12_canRaise ∈ GW := gw_of (i := 1810) (by decide +kernel) rfl
theorem gw1811 : Cond.instanceMethod yX12_canRaise ∈ GW := gw_of (i := 1811) (by decide +kernel) rfl
theorem gw1812 : Cond.selects RX12 yX12_canRaise yX12_canRaise ∈ GW := gw_of (i := 1812) (by decide +kernel) rfl
theorem gw1813 : Cond.code yX12_canRaise cX12_canRaise 1 (some .boolean) ∈ GW := gw_of (i := 1813) (by decide +kernel) rfl
theorem gw1814 : Cond.methodLink RL 215 yX12_canTakeAway ∈ GW := gw_of (i := 1814) (by decide +kernel) rfl
theorem gw1815 : Cond.instanceMethod yX12_canTakeAway ∈ GW := gw_of (i := 1815) (by decide +kernel) rfl
theorem gw1816 : Cond.selects RX12 yX12_canTakeAway yX12_canTakeAway ∈ GW := gw_of (i := 1816) (by decide +kernel) rfl
theorem gw1817 : Cond.code yX12_canTakeAway cX12_canTakeAway 1 (some .boolean) ∈ GW := gw_of (i := 1817) (by decide +kernel) rfl
theorem gw1818 : Cond.methodLink RX12 398 yX12_isTakenAway ∈ GW := gw_of (i := 1818) (by decide +kernel) rfl
theorem gw1820 : Cond.instanceMethod yX12_isTakenAway ∈ GW := gw_of (i := 1820) (by decide +kernel) rfl
theorem gw1821 : Cond.code yX12_isTakenAway cX12_isTakenAway 5 (some .boolean) ∈ GW := gw_of (i := 1821) (by decide +kernel) rfl
theorem gw1822 : Cond.methodLink RL 219 yX12_orders ∈ GW := gw_of (i := 1822) (by decide +kernel) rfl
theorem gw1823 : Cond.instanceMethod yX12_orders ∈ GW := gw_of (i := 1823) (by decide +kernel) rfl
theorem gw1824 : Cond.selects RX12 yX12_orders yX12_orders ∈ GW := gw_of (i := 1824) (by decide +kernel) rfl
theorem gw1825 : Cond.code yX12_orders cX12_orders 1 (some .int) ∈ GW := gw_of (i := 1825) (by decide +kernel) rfl
theorem gw1826 : Cond.methodLink RL 222 yX12_props ∈ GW := gw_of (i := 1826) (by decide +kernel) rfl
theorem gw1827 : Cond.instanceMethod yX12_props ∈ GW := gw_of (i := 1827) (by decide +kernel) rfl
theorem gw1828 : Cond.selects RX12 yX12_props yX12_props ∈ GW := gw_of (i := 1828) (by decide +kernel) rfl
theorem gw1829 : Cond.code yX12_props cX12_props 4 (some .int) ∈ GW := gw_of (i := 1829) (by decide +kernel) rfl
theorem gw1830 : Cond.methodLink RL 225 yX12_stuck ∈ GW := gw_of (i := 1830) (by decide +kernel) rfl
theorem gw1831 : Cond.instanceMethod yX12_stuck ∈ GW := gw_of (i := 1831) (by decide +kernel) rfl
theorem gw1832 : Cond.selects RX12 yX12_stuck yX12_stuck ∈ GW := gw_of (i := 1832) (by decide +kernel) rfl
theorem gw1833 : Cond.code yX12_stuck cX12_stuck 3 (some .int) ∈ GW := gw_of (i := 1833) (by decide +kernel) rfl
theorem gw1834 : Cond.methodLink RL 228 yX12_allForce ∈ GW := gw_of (i := 1834) (by decide +kernel) rfl
theorem gw1835 : Cond.instanceMethod yX12_allForce ∈ GW := gw_of (i := 1835) (by decide +kernel) rfl
theorem gw1836 : Cond.selects RX12 yX12_allForce yX12_allForce ∈ GW := gw_of (i := 1836) (by decide +kernel) rfl
theorem gw1837 : Cond.code yX12_allForce cX12_allForce 4 (some .long) ∈ GW := gw_of (i := 1837) (by decide +kernel) rfl
theorem gw1838 : Cond.methodLink RL 232 yX12_rightShare ∈ GW := gw_of (i := 1838) (by decide +kernel) rfl
theorem gw1839 : Cond.instanceMethod yX12_rightShare ∈ GW := gw_of (i := 1839) (by decide +kernel) rfl
theorem gw1840 : Cond.selects RX12 yX12_rightShare yX12_rightShare ∈ GW := gw_of (i := 1840) (by decide +kernel) rfl
theorem gw1841 : Cond.code yX12_rightShare cX12_rightShare 3 (some .float) ∈ GW := gw_of (i := 1841) (by decide +kernel) rfl
theorem gw1842 : Cond.methodLink RX12 401 yJx4a65c_isEmpty_aae02 ∈ GW := gw_of (i := 1842) (by decide +kernel) rfl
theorem gw1843 : Cond.instanceMethod yJx4a65c_isEmpty_aae02 ∈ GW := gw_of (i := 1843) (by decide +kernel) rfl
theorem gw1844 : Cond.selects RJx4a65c yJx4a65c_isEmpty_aae02 yJx4a65c_isEmpty_aae02 ∈ GW := gw_of (i := 1844) (by decide +kernel) rfl
theorem gw1845 : Cond.code yJx4a65c_isEmpty_aae02 cJx4a65c_isEmpty_aae02 1 (some .boolean) ∈ GW := gw_of (i := 1845) (by decide +kernel) rfl
theorem gw1846 : Cond.methodLink RL 235 yX12_meanPull ∈ GW := gw_of (i := 1846) (by decide +kernel) rfl
theorem gw1847 : Cond.instanceMethod yX12_meanPull ∈ GW := gw_of (i := 1847) (by decide +kernel) rfl
theorem gw1848 : Cond.selects RX12 yX12_meanPull yX12_meanPull ∈ GW := gw_of (i := 1848) (by decide +kernel) rfl
theorem gw1849 : Cond.code yX12_meanPull cX12_meanPull 4 (some .double) ∈ GW := gw_of (i := 1849) (by decide +kernel) rfl
theorem gw1850 : Cond.methodLink RL 239 yX12_isSound ∈ GW := gw_of (i := 1850) (by decide +kernel) rfl
theorem gw1851 : Cond.instanceMethod yX12_isSound ∈ GW := gw_of (i := 1851) (by decide +kernel) rfl
theorem gw1852 : Cond.selects RX12 yX12_isSound yX12_isSound ∈ GW := gw_of (i := 1852) (by decide +kernel) rfl
theorem gw1853 : Cond.code yX12_isSound cX12_isSound 1 (some .boolean) ∈ GW := gw_of (i := 1853) (by decide +kernel) rfl
theorem gw1854 : Cond.arrayClass .double ∈ GW := gw_of (i := 1854) (by decide +kernel) rfl
theorem gw1868 : Cond.castable RX9 "java/lang/Object" ∈ NW := nw_of (i := 1868) (by decide +kernel) rfl
theorem gw1876 : Cond.castable RX10 "java/lang/Object" ∈ NW := nw_of (i := 1876) (by decide +kernel) rfl
theorem gw1890 : Cond.fieldLink RJ0 15 "java/lang/String" "coder" "B" ∈ GW := gw_of (i := 1890) (by decide +kernel) rfl
theorem gw1891 : Cond.fieldLink RJ0 9 "java/lang/String" "value" "[B" ∈ GW := gw_of (i := 1891) (by decide +kernel) rfl
end
section
abbrev STR : List (String × Nat × String) := [("Tenonyard", 48, "-pr"), ("Tenonyard", 58, "no such place or kind"), ("Tenonyard", 69, "no more nodes"), ("Tenonyard", 280, "no such node"), ("Tenonyard", 91, "one place, or no such breadth or grade"), ("Tenonyard", 96, "no more members"), ("Tenonyard", 104, "no such load"), ("Tenonyard", 282, "no such member"), ("Tenonyard", 288, "the frame does not stand"), ("Tenonyard", 136, "no such section"), ("Tenonyard", 144, "no members"), ("Tenonyard$Joinery", 27, "udlrf"), ("Tenonyard", 157, "one member, or no such way, thickness or mark"), ("Tenonyard", 167, "no node in common, or joined already"), ("Tenonyard", 173, "no more joints"), ("Tenonyard", 284, "no such joint"), ("Tenonyard", 286, "no such moisture"), ("Tenonyard", 206, "no joints"), ("Tenonyard", 208, "no such length, breadth or grade"), ("Tenonyard", 211, "no more sticks"), ("Tenonyard", 294, "no way to cut all members"), ("Tenonyard", 230, "no such stick"), ("Tenonyard", 236, "no such number of props"), ("Tenonyard", 296, "no order"), ("Tenonyard", 298, "no such index"), ("Tenonyard", 264, "each can be the last one")]
abbrev NCL : List (String × String) := [("java/lang/IllegalStateException", "java/lang/IllegalArgumentException"), ("java/lang/IndexOutOfBoundsException", "java/lang/IllegalArgumentException"), ("java/util/NoSuchElementException", "java/lang/IllegalArgumentException"), ("java/lang/UnsupportedOperationException", "java/lang/IllegalArgumentException"), ("java/lang/ArithmeticException", "java/lang/IllegalArgumentException"), ("java/lang/IllegalArgumentException", "java/lang/IllegalStateException"), ("java/lang/IndexOutOfBoundsException", "java/lang/IllegalStateException"), ("java/util/NoSuchElementException", "java/lang/IllegalStateException"), ("java/lang/UnsupportedOperationException", "java/lang/IllegalStateException"), ("java/lang/ArithmeticException", "java/lang/IllegalStateException"), ("java/lang/IllegalArgumentException", "java/lang/IndexOutOfBoundsException"), ("java/lang/IllegalStateException", "java/lang/IndexOutOfBoundsException"), ("java/util/NoSuchElementException", "java/lang/IndexOutOfBoundsException"), ("java/lang/UnsupportedOperationException", "java/lang/IndexOutOfBoundsException"), ("java/lang/ArithmeticException", "java/lang/IndexOutOfBoundsException"), ("java/lang/IllegalArgumentException", "java/util/NoSuchElementException"), ("java/lang/IllegalStateException", "java/util/NoSuchElementException"), ("java/lang/IndexOutOfBoundsException", "java/util/NoSuchElementException"), ("java/lang/UnsupportedOperationException", "java/util/NoSuchElementException"), ("java/lang/ArithmeticException", "java/util/NoSuchElementException"), ("java/lang/IllegalArgumentException", "java/lang/UnsupportedOperationException"), ("java/lang/IllegalStateException", "java/lang/UnsupportedOperationException"), ("java/lang/IndexOutOfBoundsException", "java/lang/UnsupportedOperationException"), ("java/util/NoSuchElementException", "java/lang/UnsupportedOperationException"), ("java/lang/ArithmeticException", "java/lang/UnsupportedOperationException"), ("java/lang/IllegalArgumentException", "java/lang/ArithmeticException"), ("java/lang/IllegalStateException", "java/lang/ArithmeticException"), ("java/lang/IndexOutOfBoundsException", "java/lang/ArithmeticException"), ("java/util/NoSuchElementException", "java/lang/ArithmeticException"), ("java/lang/UnsupportedOperationException", "java/lang/ArithmeticException")]
theorem nw_tab {w : Cond} (h : nwWord w = true) : w.onTables = true := by
  cases w <;> first | rfl | (simp [nwWord] at h)
theorem nw_warm {w : Cond} (hn : nwWord w = true) {s U : State} (hW : s.WarmedH U.vm) (h : va_Nw w s) : va_Nw w U := by
  cases w <;> first | exact va_Nw.warmC hW h | exact va_Nw.warmD hW h | exact va_Nw.warmF hW h | exact va_Nw.warmM hW h | (simp [nwWord] at hn)
/-! what is given of the start: statics, Strings, classes -/
abbrev gv_T : Type := Nat × (Nat → Nat) × Nat
def GV (g : gv_T) (A : Nat → Prop) (U : State) (H : Heap) : Prop :=
  (vx_Zq Bundle.tN "UNASSIGNED_STACK" Bundle.steD A U H ∧ vx_Zq Bundle.tN "SUPPRESSED_SENTINEL" Bundle.listD A U H) ∧
  (va_Z "java/util/ArrayList" "DEFAULTCAPACITY_EMPTY_ELEMENTDATA" "[Ljava/lang/Object;" (.ref g.1) A U H ∧ va_T (.object "java/lang/Object") g.1 0 (fun _ => .null) A U H) ∧
  (va_Z "java/lang/String" "COMPACT_STRINGS" "Z" (.int 1) A U H ∧ vk_S 1 [3] [[45, 112, 114]] (fun _ => g.2.1 0) (fun _ => g.2.2) A U H) ∧
  (∀ (i : Nat) (x : String × Nat × String), STR[i]? = some x → vk_R x.1 x.2.1 x.2.2 (g.2.1 i) U) ∧
  (∀ w ∈ NW, va_Nw w U) ∧ (∀ x ∈ NCL, va_Nc x.1 x.2 U) ∧ va_AO "java/lang/Object" U
theorem GV.warm {g : gv_T} {A : Nat → Prop} {s U : State} {H : Heap} (hW : s.WarmedH U.vm) (h : GV g A s H) : GV g A U H := by
  obtain ⟨⟨h1, h2⟩, ⟨h3, h4⟩, ⟨h5, h6⟩, h7, h8, h9, h10⟩ := h
  exact ⟨⟨vx_Zq.moved hW.alike h1, vx_Zq.moved hW.alike h2⟩, ⟨va_Z.moved hW.alike h3, va_T.moved hW.alike h4⟩, ⟨va_Z.moved hW.alike h5, vk_S.moved hW.alike h6⟩, fun i x hx => vk_R.warm hW (h7 i x hx), fun w hw => nw_warm (List.mem_filter.mp hw).2 hW (h8 w hw), fun x hx => va_Nc.moved hW.alike (h9 x hx), va_AO.moved hW.alike h10⟩
theorem GV.kept {g : gv_T} {A : Nat → Prop} {U : State} {H H1 : Heap} (h : GV g A U H) (hq : ∀ a : Nat, a < H.size → ¬ A a → H1[a]? = H[a]?) : GV g A U H1 := by
  obtain ⟨⟨h1, h2⟩, ⟨h3, h4⟩, ⟨h5, h6⟩, h7, h8, h9, h10⟩ := h
  exact ⟨⟨h1.kept hq, h2.kept hq⟩, ⟨h3.kept hq, h4.kept hq⟩, ⟨h5.kept hq, h6.kept hq⟩, h7, h8, h9, h10⟩
theorem GV.narrow {g : gv_T} {A B : Nat → Prop} {U : State} {H : Heap} (h : GV g A U H) (hAB : ∀ q, B q → A q) : GV g B U H := by
  obtain ⟨⟨h1, h2⟩, ⟨h3, h4⟩, ⟨h5, h6⟩, h7, h8, h9, h10⟩ := h
  exact ⟨⟨h1.narrow hAB, h2.narrow hAB⟩, ⟨h3.narrow hAB, h4.narrow hAB⟩, ⟨h5.narrow hAB, h6.narrow hAB⟩, h7, h8, h9, h10⟩
/-! contracts -/
abbrev TYS (cA : Nat → ClassId) : List (ClassId × FieldType) := [(cA 0, .int), (cA 1, .long), (cA 2, .char), (cA 3, .boolean), (cA 4, .object "java/lang/Object"), (cA 5, .double)]
def PcB (D : va_G) (cA : Nat → ClassId) (g : gv_T) (ws : va_W) (sz : Nat) (U : State) : Prop := U.heap.size = sz ∧ va_P D vwCl ws U.heap ∧ va_K D vwCl (TYS cA) U ∧ va_D (fun _ => True) ws ∧ GV g (va_A ws sz) U U.heap
abbrev PcG (D : va_G) (cA : Nat → ClassId) (g : gv_T) (av : List Value) (ws : va_W) (sz : Nat) : Array Value → State → Prop := va_Pc av (PcB D cA g ws sz)
theorem PcG.blind (D : va_G) (cA : Nat → ClassId) (g : gv_T) (av : List Value) (ws : va_W) (sz : Nat) : FrameBlind (PcG D cA g av ws sz) := by
  intro a U f mk h
  obtain ⟨h1, h2, h3, h4, h5, h6⟩ := h
  exact ⟨h1, h2, h3, va_K.moved (u := U) (U := U.calling f mk a) (Vm.Alike.refl U.vm) h4, h5, GV.warm (U := U.calling f mk a) (State.WarmedH.refl U) h6⟩
def QcG (D : va_G) (A : Nat → Prop) (rv : (Nat → Nat) → Option Value) (ws' : (Nat → Nat) → va_W) : Array Value → State → Outcome → State → Prop := fun _ st oc t => (∃ q : Nat → Nat, oc = .returned (rv q) ∧ va_P D vwCl (ws' q) t.heap ∧ va_D A (ws' q)) ∧ va_F A st t
def XcG (D : va_G) (A : Nat → Prop) (E : String) (ws' : (Nat → Nat) → va_W) : String → State → State → Prop := fun E' st t => E' = E ∧ (∃ q : Nat → Nat, va_P D vwCl (ws' q) t.heap ∧ va_D A (ws' q)) ∧ va_F A st t
abbrev RM (f c s n : Nat) : Room := { frames := f, cells := c, slots := s, locals := n }
def CT (l : Launch) (y : MethodName) (b : ByteArray) (n : Nat) (ret : Option FieldType) (R : Room) (D : va_G) (cA : Nat → ClassId) (g : gv_T) (av : List Value) (ws : va_W) (rv : (Nat → Nat) → Option Value) (ws' : (Nat → Nat) → va_W) : Prop :=
  ∀ sz : Nat, Met l y (.code y b n ret :: GW) R (PcG D cA g av ws sz) (QcG D (va_A ws sz) rv ws') R.cells R.slots (va_A ws sz)
def CX (l : Launch) (y : MethodName) (b : ByteArray) (n : Nat) (ret : Option FieldType) (R : Room) (D : va_G) (cA : Nat → ClassId) (g : gv_T) (av : List Value) (ws : va_W) (E : String) (ws' : (Nat → Nat) → va_W) : Prop :=
  ∀ sz : Nat, vx_Met l y (.code y b n ret :: GW) R (PcG D cA g av ws sz) (fun _ _ _ _ => False) (XcG D (va_A ws sz) E ws') R.cells R.slots (va_A ws sz)
/-- a method with a table of its own, that returns -/
def CW (l : Launch) (y : MethodName) (b : ByteArray) (n : Nat) (ret : Option FieldType) (hh : List (Nat × Nat × Nat × Nat)) (R : Room) (D : va_G) (cA : Nat → ClassId) (g : gv_T) (av : List Value) (ws : va_W) (rv : (Nat → Nat) → Option Value) (ws' : (Nat → Nat) → va_W) : Prop :=
  ∀ sz : Nat, Met l y (.codeWith y b n ret hh :: GW) R (PcG D cA g av ws sz) (QcG D (va_A ws sz) rv ws') R.cells R.slots (va_A ws sz)
section CTS
variable {l : Launch} {y : MethodName} {b : ByteArray} {n : Nat} {ret : Option FieldType} {R : Room} {D : va_G} {cA : Nat → ClassId} {g : gv_T} {av : List Value} {ws : va_W} {rv : (Nat → Nat) → Option Value} {ws' : (Nat → Nat) → va_W}
theorem CT.of (hy : plainName y.cls = true) (hn : (lg_sl av).length ≤ n)
    (body : ∀ (p : Program) (e : Env) (s : State) (m : MethodId) (args : Array Value) (below : List Frame) (meth : Method) (c : Code) (A : Nat → Prop) (ls : Array Slot),
      p.tables.exec = Jvm.exec → c.code = b → meth.sig.returnType = ret → c.maxLocals = n → s.vm.findClass y.cls = some m.cls → (∀ w ∈ GW, w.before args s = true) → meth.locks = false → meth.name = y.name →
      (∀ q : Nat, s.heap.size ≤ q → A q) → va_S A s.heap s.heap [] → va_P D vwCl ws s.heap → va_K D vwCl (TYS cA) s → va_D A ws → GV g A s s.heap → lv_has ls n (lv_args 0 av) →
      W p l e R s m args below meth c s.heap [] 0 0 (MQ below (QcG D A rv ws') args s R.cells R.slots A) (F0 m 0 ls [])) : CT l y b n ret R D cA g av ws rv ws' := by
  intro sz
  refine Met.ofW (cc := b) (maxL := n) (ret := ret) hy rfl ?_
  intro p e s m args below meth c s₁ B hml hv
  obtain ⟨rfl, hsz, hP, hK, hD0, hGV⟩ := hv
  subst hsz
  rw [lg_entry_eq]
  exact body p e s m _ below meth c _ _ B.exec B.bytes B.returns hml (findClass_of_methodNamed B.named) (fun w hw => atoms_spec (ws := .code y b n ret :: GW) B.pre w (List.mem_cons_of_mem _ hw)) B.notSynchronized (name_of_methodNamed B.named B.method).1 (fun q h => Or.inr h) va_S.rf hP hK (hD0.self (sz := s.heap.size)) hGV (lv_entry av hn)
theorem CX.of {E : String} (hy : plainName y.cls = true) (hn : (lg_sl av).length ≤ n)
    (body : ∀ (p : Program) (e : Env) (s : State) (m : MethodId) (args : Array Value) (below : List Frame) (meth : Method) (c : Code) (A : Nat → Prop) (ls : Array Slot),
      p.tables.exec = Jvm.exec → c.code = b → meth.sig.returnType = ret → c.maxLocals = n → s.vm.findClass y.cls = some m.cls → (∀ w ∈ GW, w.before args s = true) → meth.locks = false → (∀ x ∈ c.exceptionTable.toList, False) →
      (∀ q : Nat, s.heap.size ≤ q → A q) → va_S A s.heap s.heap [] → va_P D vwCl ws s.heap → va_K D vwCl (TYS cA) s → va_D A ws → GV g A s s.heap → lv_has ls n (lv_args 0 av) →
      W p l e R s m args below meth c s.heap [] 0 0 (vx_MQ below (fun _ _ _ _ => False) (XcG D A E ws') args s R.cells R.slots A) (F0 m 0 ls [])) : CX l y b n ret R D cA g av ws E ws' := by
  intro sz
  refine vx_ofW (cc := b) (maxL := n) (ret := ret) hy rfl ?_
  intro p e s m args below meth c s₁ B hml ht hv
  obtain ⟨rfl, hsz, hP, hK, hD0, hGV⟩ := hv
  subst hsz
  rw [lg_entry_eq]
  exact body p e s m _ below meth c _ _ B.exec B.bytes B.returns hml (findClass_of_methodNamed B.named) (fun w hw => atoms_spec (ws := .code y b n ret :: GW) B.pre w (List.mem_cons_of_mem _ hw)) B.notSynchronized ht (fun q h => Or.inr h) va_S.rf hP hK (hD0.self (sz := s.heap.size)) hGV (lv_entry av hn)
theorem CW.of {hh : List (Nat × Nat × Nat × Nat)} (hy : plainName y.cls = true) (hn : (lg_sl av).length ≤ n)
    (body : ∀ (p : Program) (e : Env) (s : State) (m : MethodId) (args : Array Value) (below : List Frame) (meth : Method) (c : Code) (A : Nat → Prop) (ls : Array Slot),
      p.tables.exec = Jvm.exec → c.code = b → meth.sig.returnType = ret → c.maxLocals = n → s.vm.findClass y.cls = some m.cls → (∀ w ∈ GW, w.before args s = true) → meth.locks = false → c.exceptionTable.toList = tableOf hh →
      (∀ q : Nat, s.heap.size ≤ q → A q) → va_S A s.heap s.heap [] → va_P D vwCl ws s.heap → va_K D vwCl (TYS cA) s → va_D A ws → GV g A s s.heap → lv_has ls n (lv_args 0 av) →
      W p l e R s m args below meth c s.heap [] 0 0 (MQ below (QcG D A rv ws') args s R.cells R.slots A) (F0 m 0 ls [])) : CW l y b n ret hh R D cA g av ws rv ws' := by
  intro sz
  refine va_MetW (cc := b) (maxL := n) (ret := ret) (hh := hh) hy rfl ?_
  intro p e s m args below meth c s₁ B hml hv
  obtain ⟨rfl, hsz, hP, hK, hD0, hGV⟩ := hv
  subst hsz
  rw [lg_entry_eq]
  exact body p e s m _ below meth c _ _ B.exec B.bytes B.returns hml (findClass_of_methodNamed B.named) (fun w hw => atoms_spec (ws := .codeWith y b n ret hh :: GW) B.pre w (List.mem_cons_of_mem _ hw)) B.notSynchronized (vx_table (x := y) B (atoms_spec (ws := .codeWith y b n ret hh :: GW) B.pre _ List.mem_cons_self)) (fun q h => Or.inr h) va_S.rf hP hK (hD0.self (sz := s.heap.size)) hGV (lv_entry av hn)
end CTS
theorem goV {own C : String} {idx n : Nat} {y : MethodName} {b : ByteArray} {r : Option FieldType} (h1 : Cond.methodLink own idx y ∈ GW) (h2 : Cond.instanceMethod y ∈ GW) (h3 : Cond.selects C y y ∈ GW) (h4 : Cond.initialized C ∈ GW) (h5 : Cond.code y b n r ∈ GW) : GoodIn GW (wsV own idx C y (.code y b n r :: GW)) := by
  intro w hw
  have hm : w ∈ GW := by
    unfold wsV at hw
    simp only [List.cons_append, List.nil_append, List.mem_cons] at hw
    rcases hw with rfl | rfl | rfl | rfl | rfl | hw <;> assumption
  exact ⟨hm, gw_good hm⟩
theorem goS {own : String} {idx n : Nat} {y : MethodName} {b : ByteArray} {r : Option FieldType} (h1 : Cond.methodLink own idx y ∈ GW) (h2 : Cond.static y ∈ GW) (h4 : Cond.initialized y.cls ∈ GW) (h5 : Cond.code y b n r ∈ GW) : GoodIn GW (va_wsS own idx y (.code y b n r :: GW)) := by
  intro w hw
  have hm : w ∈ GW := by
    unfold va_wsS at hw
    simp only [List.cons_append, List.nil_append, List.mem_cons] at hw
    rcases hw with rfl | rfl | rfl | rfl | hw <;> assumption
  exact ⟨hm, gw_good hm⟩
theorem goSW {own : String} {idx n : Nat} {y : MethodName} {b : ByteArray} {r : Option FieldType} {hh : List (Nat × Nat × Nat × Nat)} (h1 : Cond.methodLink own idx y ∈ GW) (h2 : Cond.static y ∈ GW) (h4 : Cond.initialized y.cls ∈ GW) (h5 : Cond.codeWith y b n r hh ∈ GW) : GoodIn GW (va_wsS own idx y (.codeWith y b n r hh :: GW)) := by
  intro w hw
  have hm : w ∈ GW := by
    unfold va_wsS at hw
    simp only [List.cons_append, List.nil_append, List.mem_cons] at hw
    rcases hw with rfl | rfl | rfl | rfl | hw <;> assumption
  exact ⟨hm, gw_good hm⟩
theorem goC {n : Nat} {y : MethodName} {b : ByteArray} {r : Option FieldType} (h5 : Cond.code y b n r ∈ GW) : GoodIn GW (.code y b n r :: GW) := by
  intro w hw
  have hm : w ∈ GW := by
    rcases List.mem_cons.mp hw with rfl | hw <;> assumption
  exact ⟨hm, gw_good hm⟩
/-! rows, with what is known put in -/
section KR
variable {p : Program} {l : Launch} {e : Env} {R : Room} {s : State} {m : MethodId} {args : Array Value} {below : List Frame} {meth : Method} {c : Code} {H : Heap} {locs : List Loc} {cells slots : Nat} {Q : State → Prop}
variable {cc : ByteArray} {pc : Nat} {ls : Array Slot} {rest : List Value} {D : va_G} {cA : Nat → ClassId} {A : Nat → Prop} {a : Nat} {ws : va_W}
theorem k_iadd (hx : p.tables.exec = Jvm.exec) (hb : c.code = cc) {x y v : Int32} (d : decode cc pc = .ok (.iadd, 1)) (hv : x + y = v) (k : W p l e R s m args below meth c H locs cells slots Q (F0 m (pc + 1) ls (.int v :: rest))) : W p l e R s m args below meth c H locs cells slots Q (F0 m pc ls (.int y :: .int x :: rest)) := lv_iadd hx hb d (by rw [hv]; exact k)
theorem k_isub (hx : p.tables.exec = Jvm.exec) (hb : c.code = cc) {x y v : Int32} (d : decode cc pc = .ok (.isub, 1)) (hv : x - y = v) (k : W p l e R s m args below meth c H locs cells slots Q (F0 m (pc + 1) ls (.int v :: rest))) : W p l e R s m args below meth c H locs cells slots Q (F0 m pc ls (.int y :: .int x :: rest)) := lv_isub hx hb d (by rw [hv]; exact k)
theorem k_imul (hx : p.tables.exec = Jvm.exec) (hb : c.code = cc) {x y v : Int32} (d : decode cc pc = .ok (.imul, 1)) (hv : x * y = v) (k : W p l e R s m args below meth c H locs cells slots Q (F0 m (pc + 1) ls (.int v :: rest))) : W p l e R s m args below meth c H locs cells slots Q (F0 m pc ls (.int y :: .int x :: rest)) := lv_imul hx hb d (by rw [hv]; exact k)
theorem k_iand (hx : p.tables.exec = Jvm.exec) (hb : c.code = cc) {x y v : Int32} (d : decode cc pc = .ok (.iand, 1)) (hv : x &&& y = v) (k : W p l e R s m args below meth c H locs cells slots Q (F0 m (pc + 1) ls (.int v :: rest))) : W p l e R s m args below meth c H locs cells slots Q (F0 m pc ls (.int y :: .int x :: rest)) := lv_iand hx hb d (by rw [hv]; exact k)
theorem k_ior (hx : p.tables.exec = Jvm.exec) (hb : c.code = cc) {x y v : Int32} (d : decode cc pc = .ok (.ior, 1)) (hv : x ||| y = v) (k : W p l e R s m args below meth c H locs cells slots Q (F0 m (pc + 1) ls (.int v :: rest))) : W p l e R s m args below meth c H locs cells slots Q (F0 m pc ls (.int y :: .int x :: rest)) := lv_ior hx hb d (by rw [hv]; exact k)
theorem k_ixor (hx : p.tables.exec = Jvm.exec) (hb : c.code = cc) {x y v : Int32} (d : decode cc pc = .ok (.ixor, 1)) (hv : x ^^^ y = v) (k : W p l e R s m args below meth c H locs cells slots Q (F0 m (pc + 1) ls (.int v :: rest))) : W p l e R s m args below meth c H locs cells slots Q (F0 m pc ls (.int y :: .int x :: rest)) := lv_ixor hx hb d (by rw [hv]; exact k)
theorem k_ishl (hx : p.tables.exec = Jvm.exec) (hb : c.code = cc) {x y v : Int32} (d : decode cc pc = .ok (.ishl, 1)) (hv : x <<< (y &&& 31) = v) (k : W p l e R s m args below meth c H locs cells slots Q (F0 m (pc + 1) ls (.int v :: rest))) : W p l e R s m args below meth c H locs cells slots Q (F0 m pc ls (.int y :: .int x :: rest)) := lv_ishl hx hb d (by rw [hv]; exact k)
theorem k_ishr (hx : p.tables.exec = Jvm.exec) (hb : c.code = cc) {x y v : Int32} (d : decode cc pc = .ok (.ishr, 1)) (hv : x >>> (y &&& 31) = v) (k : W p l e R s m args below meth c H locs cells slots Q (F0 m (pc + 1) ls (.int v :: rest))) : W p l e R s m args below meth c H locs cells slots Q (F0 m pc ls (.int y :: .int x :: rest)) := lv_ishr hx hb d (by rw [hv]; exact k)
theorem k_ladd (hx : p.tables.exec = Jvm.exec) (hb : c.code = cc) {x y v : Int64} (d : decode cc pc = .ok (.ladd, 1)) (hv : x + y = v) (k : W p l e R s m args below meth c H locs cells slots Q (F0 m (pc + 1) ls (.long v :: rest))) : W p l e R s m args below meth c H locs cells slots Q (F0 m pc ls (.long y :: .long x :: rest)) := lv_ladd hx hb d (by rw [hv]; exact k)
theorem k_lsub (hx : p.tables.exec = Jvm.exec) (hb : c.code = cc) {x y v : Int64} (d : decode cc pc = .ok (.lsub, 1)) (hv : x - y = v) (k : W p l e R s m args below meth c H locs cells slots Q (F0 m (pc + 1) ls (.long v :: rest))) : W p l e R s m args below meth c H locs cells slots Q (F0 m pc ls (.long y :: .long x :: rest)) := lv_lsub hx hb d (by rw [hv]; exact k)
theorem k_lmul (hx : p.tables.exec = Jvm.exec) (hb : c.code = cc) {x y v : Int64} (d : decode cc pc = .ok (.lmul, 1)) (hv : x * y = v) (k : W p l e R s m args below meth c H locs cells slots Q (F0 m (pc + 1) ls (.long v :: rest))) : W p l e R s m args below meth c H locs cells slots Q (F0 m pc ls (.long y :: .long x :: rest)) := lv_lmul hx hb d (by rw [hv]; exact k)
theorem k_land (hx : p.tables.exec = Jvm.exec) (hb : c.code = cc) {x y v : Int64} (d : decode cc pc = .ok (.land, 1)) (hv : x &&& y = v) (k : W p l e R s m args below meth c H locs cells slots Q (F0 m (pc + 1) ls (.long v :: rest))) : W p l e R s m args below meth c H locs cells slots Q (F0 m pc ls (.long y :: .long x :: rest)) := lv_land hx hb d (by rw [hv]; exact k)
theorem k_idiv (hx : p.tables.exec = Jvm.exec) (hb : c.code = cc) {x y v : Int32} (d : decode cc pc = .ok (.idiv, 1)) (hne : ¬ y = 0) (hv : x / y = v) (k : W p l e R s m args below meth c H locs cells slots Q (F0 m (pc + 1) ls (.int v :: rest))) : W p l e R s m args below meth c H locs cells slots Q (F0 m pc ls (.int y :: .int x :: rest)) := lv_idiv hx hb d hne (by rw [hv]; exact k)
theorem k_irem (hx : p.tables.exec = Jvm.exec) (hb : c.code = cc) {x y v : Int32} (d : decode cc pc = .ok (.irem, 1)) (hne : ¬ y = 0) (hv : x - x / y * y = v) (k : W p l e R s m args below meth c H locs cells slots Q (F0 m (pc + 1) ls (.int v :: rest))) : W p l e R s m args below meth c H locs cells slots Q (F0 m pc ls (.int y :: .int x :: rest)) := lv_irem hx hb d hne (by rw [hv]; exact k)
theorem k_ldiv (hx : p.tables.exec = Jvm.exec) (hb : c.code = cc) {x y v : Int64} (d : decode cc pc = .ok (.ldiv, 1)) (hne : ¬ y = 0) (hv : x / y = v) (k : W p l e R s m args below meth c H locs cells slots Q (F0 m (pc + 1) ls (.long v :: rest))) : W p l e R s m args below meth c H locs cells slots Q (F0 m pc ls (.long y :: .long x :: rest)) := lv_ldiv hx hb d hne (by rw [hv]; exact k)
theorem k_lrem (hx : p.tables.exec = Jvm.exec) (hb : c.code = cc) {x y v : Int64} (d : decode cc pc = .ok (.lrem, 1)) (hne : ¬ y = 0) (hv : x - x / y * y = v) (k : W p l e R s m args below meth c H locs cells slots Q (F0 m (pc + 1) ls (.long v :: rest))) : W p l e R s m args below meth c H locs cells slots Q (F0 m pc ls (.long y :: .long x :: rest)) := lv_lrem hx hb d hne (by rw [hv]; exact k)
theorem k_lcmp (hx : p.tables.exec = Jvm.exec) (hb : c.code = cc) {x y : Int64} {v : Int32} (d : decode cc pc = .ok (.lcmp, 1)) (hv : lg_cmp x y = v) (k : W p l e R s m args below meth c H locs cells slots Q (F0 m (pc + 1) ls (.int v :: rest))) : W p l e R s m args below meth c H locs cells slots Q (F0 m pc ls (.long y :: .long x :: rest)) := W.lcmp hx hb d (by rw [hv]; exact k)
theorem k_if_eq_t (hx : p.tables.exec = Jvm.exec) (hb : c.code = cc) {x : Int32} {off : Int} {tgt : Nat} (d : decode cc pc = .ok (.ifCond .eq off, 3)) (h : x = 0) (ht : (pc : Int) + off = (tgt : Int)) (k : W p l e R s m args below meth c H locs cells slots Q (F0 m tgt ls rest)) : W p l e R s m args below meth c H locs cells slots Q (F0 m pc ls (.int x :: rest)) := lv_if_eq hx hb d ht (fun _ => k) (fun q => absurd h q)
theorem k_if_eq_f (hx : p.tables.exec = Jvm.exec) (hb : c.code = cc) {x : Int32} {off : Int} {tgt : Nat} (d : decode cc pc = .ok (.ifCond .eq off, 3)) (h : ¬ x = 0) (ht : (pc : Int) + off = (tgt : Int)) (k : W p l e R s m args below meth c H locs cells slots Q (F0 m (pc + 3) ls rest)) : W p l e R s m args below meth c H locs cells slots Q (F0 m pc ls (.int x :: rest)) := lv_if_eq hx hb d ht (fun q => absurd q h) (fun _ => k)
theorem k_icmp_eq_t (hx : p.tables.exec = Jvm.exec) (hb : c.code = cc) {x y : Int32} {off : Int} {tgt : Nat} (d : decode cc pc = .ok (.if_icmp .eq off, 3)) (h : x = y) (ht : (pc : Int) + off = (tgt : Int)) (k : W p l e R s m args below meth c H locs cells slots Q (F0 m tgt ls rest)) : W p l e R s m args below meth c H locs cells slots Q (F0 m pc ls (.int y :: .int x :: rest)) := lv_icmp_eq hx hb d ht (fun _ => k) (fun q => absurd h q)
theorem k_icmp_eq_f (hx : p.tables.exec = Jvm.exec) (hb : c.code = cc) {x y : Int32} {off : Int} {tgt : Nat} (d : decode cc pc = .ok (.if_icmp .eq off, 3)) (h : ¬ x = y) (ht : (pc : Int) + off = (tgt : Int)) (k : W p l e R s m args below meth c H locs cells slots Q (F0 m (pc + 3) ls rest)) : W p l e R s m args below meth c H locs cells slots Q (F0 m pc ls (.int y :: .int x :: rest)) := lv_icmp_eq hx hb d ht (fun q => absurd q h) (fun _ => k)
theorem k_if_ne_t (hx : p.tables.exec = Jvm.exec) (hb : c.code = cc) {x : Int32} {off : Int} {tgt : Nat} (d : decode cc pc = .ok (.ifCond .ne off, 3)) (h : ¬ x = 0) (ht : (pc : Int) + off = (tgt : Int)) (k : W p l e R s m args below meth c H locs cells slots Q (F0 m tgt ls rest)) : W p l e R s m args below meth c H locs cells slots Q (F0 m pc ls (.int x :: rest)) := lv_if_ne hx hb d ht (fun _ => k) (fun q => absurd q h)
theorem k_if_ne_f (hx : p.tables.exec = Jvm.exec) (hb : c.code = cc) {x : Int32} {off : Int} {tgt : Nat} (d : decode cc pc = .ok (.ifCond .ne off, 3)) (h : x = 0) (ht : (pc : Int) + off = (tgt : Int)) (k : W p l e R s m args below meth c H locs cells slots Q (F0 m (pc + 3) ls rest)) : W p l e R s m args below meth c H locs cells slots Q (F0 m pc ls (.int x :: rest)) := lv_if_ne hx hb d ht (fun q => absurd h q) (fun _ => k)
theorem k_icmp_ne_t (hx : p.tables.exec = Jvm.exec) (hb : c.code = cc) {x y : Int32} {off : Int} {tgt : Nat} (d : decode cc pc = .ok (.if_icmp .ne off, 3)) (h : ¬ x = y) (ht : (pc : Int) + off = (tgt : Int)) (k : W p l e R s m args below meth c H locs cells slots Q (F0 m tgt ls rest)) : W p l e R s m args below meth c H locs cells slots Q (F0 m pc ls (.int y :: .int x :: rest)) := lv_icmp_ne hx hb d ht (fun _ => k) (fun q => absurd q h)
theorem k_icmp_ne_f (hx : p.tables.exec = Jvm.exec) (hb : c.code = cc) {x y : Int32} {off : Int} {tgt : Nat} (d : decode cc pc = .ok (.if_icmp .ne off, 3)) (h : x = y) (ht : (pc : Int) + off = (tgt : Int)) (k : W p l e R s m args below meth c H locs cells slots Q (F0 m (pc + 3) ls rest)) : W p l e R s m args below meth c H locs cells slots Q (F0 m pc ls (.int y :: .int x :: rest)) := lv_icmp_ne hx hb d ht (fun q => absurd h q) (fun _ => k)
theorem k_if_lt_t (hx : p.tables.exec = Jvm.exec) (hb : c.code = cc) {x : Int32} {off : Int} {tgt : Nat} (d : decode cc pc = .ok (.ifCond .lt off, 3)) (h : x < 0) (ht : (pc : Int) + off = (tgt : Int)) (k : W p l e R s m args below meth c H locs cells slots Q (F0 m tgt ls rest)) : W p l e R s m args below meth c H locs cells slots Q (F0 m pc ls (.int x :: rest)) := lv_if_lt hx hb d ht (fun _ => k) (fun q => absurd h q)
theorem k_if_lt_f (hx : p.tables.exec = Jvm.exec) (hb : c.code = cc) {x : Int32} {off : Int} {tgt : Nat} (d : decode cc pc = .ok (.ifCond .lt off, 3)) (h : ¬ x < 0) (ht : (pc : Int) + off = (tgt : Int)) (k : W p l e R s m args below meth c H locs cells slots Q (F0 m (pc + 3) ls rest)) : W p l e R s m args below meth c H locs cells slots Q (F0 m pc ls (.int x :: rest)) := lv_if_lt hx hb d ht (fun q => absurd q h) (fun _ => k)
theorem k_icmp_lt_t (hx : p.tables.exec = Jvm.exec) (hb : c.code = cc) {x y : Int32} {off : Int} {tgt : Nat} (d : decode cc pc = .ok (.if_icmp .lt off, 3)) (h : x < y) (ht : (pc : Int) + off = (tgt : Int)) (k : W p l e R s m args below meth c H locs cells slots Q (F0 m tgt ls rest)) : W p l e R s m args below meth c H locs cells slots Q (F0 m pc ls (.int y :: .int x :: rest)) := lv_icmp_lt hx hb d ht (fun _ => k) (fun q => absurd h q)
theorem k_icmp_lt_f (hx : p.tables.exec = Jvm.exec) (hb : c.code = cc) {x y : Int32} {off : Int} {tgt : Nat} (d : decode cc pc = .ok (.if_icmp .lt off, 3)) (h : ¬ x < y) (ht : (pc : Int) + off = (tgt : Int)) (k : W p l e R s m args below meth c H locs cells slots Q (F0 m (pc + 3) ls rest)) : W p l e R s m args below meth c H locs cells slots Q (F0 m pc ls (.int y :: .int x :: rest)) := lv_icmp_lt hx hb d ht (fun q => absurd q h) (fun _ => k)
theorem k_if_ge_t (hx : p.tables.exec = Jvm.exec) (hb : c.code = cc) {x : Int32} {off : Int} {tgt : Nat} (d : decode cc pc = .ok (.ifCond .ge off, 3)) (h : 0 ≤ x) (ht : (pc : Int) + off = (tgt : Int)) (k : W p l e R s m args below meth c H locs cells slots Q (F0 m tgt ls rest)) : W p l e R s m args below meth c H locs cells slots Q (F0 m pc ls (.int x :: rest)) := lv_if_ge hx hb d ht (fun _ => k) (fun q => absurd h q)
theorem k_if_ge_f (hx : p.tables.exec = Jvm.exec) (hb : c.code = cc) {x : Int32} {off : Int} {tgt : Nat} (d : decode cc pc = .ok (.ifCond .ge off, 3)) (h : ¬ 0 ≤ x) (ht : (pc : Int) + off = (tgt : Int)) (k : W p l e R s m args below meth c H locs cells slots Q (F0 m (pc + 3) ls rest)) : W p l e R s m args below meth c H locs cells slots Q (F0 m pc ls (.int x :: rest)) := lv_if_ge hx hb d ht (fun q => absurd q h) (fun _ => k)
theorem k_icmp_ge_t (hx : p.tables.exec = Jvm.exec) (hb : c.code = cc) {x y : Int32} {off : Int} {tgt : Nat} (d : decode cc pc = .ok (.if_icmp .ge off, 3)) (h : y ≤ x) (ht : (pc : Int) + off = (tgt : Int)) (k : W p l e R s m args below meth c H locs cells slots Q (F0 m tgt ls rest)) : W p l e R s m args below meth c H locs cells slots Q (F0 m pc ls (.int y :: .int x :: rest)) := lv_icmp_ge hx hb d ht (fun _ => k) (fun q => absurd h q)
theorem k_icmp_ge_f (hx : p.tables.exec = Jvm.exec) (hb : c.code = cc) {x y : Int32} {off : Int} {tgt : Nat} (d : decode cc pc = .ok (.if_icmp .ge off, 3)) (h : ¬ y ≤ x) (ht : (pc : Int) + off = (tgt : Int)) (k : W p l e R s m args below meth c H locs cells slots Q (F0 m (pc + 3) ls rest)) : W p l e R s m args below meth c H locs cells slots Q (F0 m pc ls (.int y :: .int x :: rest)) := lv_icmp_ge hx hb d ht (fun q => absurd q h) (fun _ => k)
theorem k_if_gt_t (hx : p.tables.exec = Jvm.exec) (hb : c.code = cc) {x : Int32} {off : Int} {tgt : Nat} (d : decode cc pc = .ok (.ifCond .gt off, 3)) (h : 0 < x) (ht : (pc : Int) + off = (tgt : Int)) (k : W p l e R s m args below meth c H locs cells slots Q (F0 m tgt ls rest)) : W p l e R s m args below meth c H locs cells slots Q (F0 m pc ls (.int x :: rest)) := lv_if_gt hx hb d ht (fun _ => k) (fun q => absurd h q)
theorem k_if_gt_f (hx : p.tables.exec = Jvm.exec) (hb : c.code = cc) {x : Int32} {off : Int} {tgt : Nat} (d : decode cc pc = .ok (.ifCond .gt off, 3)) (h : ¬ 0 < x) (ht : (pc : Int) + off = (tgt : Int)) (k : W p l e R s m args below meth c H locs cells slots Q (F0 m (pc + 3) ls rest)) : W p l e R s m args below meth c H locs cells slots Q (F0 m pc ls (.int x :: rest)) := lv_if_gt hx hb d ht (fun q => absurd q h) (fun _ => k)
theorem k_icmp_gt_t (hx : p.tables.exec = Jvm.exec) (hb : c.code = cc) {x y : Int32} {off : Int} {tgt : Nat} (d : decode cc pc = .ok (.if_icmp .gt off, 3)) (h : y < x) (ht : (pc : Int) + off = (tgt : Int)) (k : W p l e R s m args below meth c H locs cells slots Q (F0 m tgt ls rest)) : W p l e R s m args below meth c H locs cells slots Q (F0 m pc ls (.int y :: .int x :: rest)) := lv_icmp_gt hx hb d ht (fun _ => k) (fun q => absurd h q)
theorem k_icmp_gt_f (hx : p.tables.exec = Jvm.exec) (hb : c.code = cc) {x y : Int32} {off : Int} {tgt : Nat} (d : decode cc pc = .ok (.if_icmp .gt off, 3)) (h : ¬ y < x) (ht : (pc : Int) + off = (tgt : Int)) (k : W p l e R s m args below meth c H locs cells slots Q (F0 m (pc + 3) ls rest)) : W p l e R s m args below meth c H locs cells slots Q (F0 m pc ls (.int y :: .int x :: rest)) := lv_icmp_gt hx hb d ht (fun q => absurd q h) (fun _ => k)
theorem k_if_le_t (hx : p.tables.exec = Jvm.exec) (hb : c.code = cc) {x : Int32} {off : Int} {tgt : Nat} (d : decode cc pc = .ok (.ifCond .le off, 3)) (h : x ≤ 0) (ht : (pc : Int) + off = (tgt : Int)) (k : W p l e R s m args below meth c H locs cells slots Q (F0 m tgt ls rest)) : W p l e R s m args below meth c H locs cells slots Q (F0 m pc ls (.int x :: rest)) := lv_if_le hx hb d ht (fun _ => k) (fun q => absurd h q)
theorem k_if_le_f (hx : p.tables.exec = Jvm.exec) (hb : c.code = cc) {x : Int32} {off : Int} {tgt : Nat} (d : decode cc pc = .ok (.ifCond .le off, 3)) (h : ¬ x ≤ 0) (ht : (pc : Int) + off = (tgt : Int)) (k : W p l e R s m args below meth c H locs cells slots Q (F0 m (pc + 3) ls rest)) : W p l e R s m args below meth c H locs cells slots Q (F0 m pc ls (.int x :: rest)) := lv_if_le hx hb d ht (fun q => absurd q h) (fun _ => k)
theorem k_icmp_le_t (hx : p.tables.exec = Jvm.exec) (hb : c.code = cc) {x y : Int32} {off : Int} {tgt : Nat} (d : decode cc pc = .ok (.if_icmp .le off, 3)) (h : x ≤ y) (ht : (pc : Int) + off = (tgt : Int)) (k : W p l e R s m args below meth c H locs cells slots Q (F0 m tgt ls rest)) : W p l e R s m args below meth c H locs cells slots Q (F0 m pc ls (.int y :: .int x :: rest)) := lv_icmp_le hx hb d ht (fun _ => k) (fun q => absurd h q)
theorem k_icmp_le_f (hx : p.tables.exec = Jvm.exec) (hb : c.code = cc) {x y : Int32} {off : Int} {tgt : Nat} (d : decode cc pc = .ok (.if_icmp .le off, 3)) (h : ¬ x ≤ y) (ht : (pc : Int) + off = (tgt : Int)) (k : W p l e R s m args below meth c H locs cells slots Q (F0 m (pc + 3) ls rest)) : W p l e R s m args below meth c H locs cells slots Q (F0 m pc ls (.int y :: .int x :: rest)) := lv_icmp_le hx hb d ht (fun q => absurd q h) (fun _ => k)
theorem k_acmp_eq_t (hx : p.tables.exec = Jvm.exec) (hb : c.code = cc) {x y : Nat} {off : Int} {tgt : Nat} (d : decode cc pc = .ok (.if_acmp .eq off, 3)) (h : x = y) (ht : (pc : Int) + off = (tgt : Int)) (k : W p l e R s m args below meth c H locs cells slots Q (F0 m tgt ls rest)) : W p l e R s m args below meth c H locs cells slots Q (F0 m pc ls (.ref y :: .ref x :: rest)) := lv_acmp_eq (rx := some x) (ry := some y) hx hb d ht (fun _ => k) (fun q => absurd (by rw [h]) q)
theorem k_get (hx : p.tables.exec = Jvm.exec) (hb : c.code = cc) {own C : String} {T : u_T} {N ci index : Nat} (hG : ∀ w ∈ GW, w.before args s = true) (hin : ∀ w ∈ u_ws C T N, w ∈ GW) (hown : s.vm.findClass own = some m.cls) (hK : va_K D vwCl (TYS cA) s) (hP : va_P D vwCl ws H) (q0 : Nat) {fs : List Value} (he : ws[q0]? = some (a, .inr (ci, fs))) (hc : vwCl[ci]? = some (C, T, N)) (k : Nat) (hk : k < N) (hlink : Cond.fieldLink own index (T k).1 (T k).2.1 (T k).2.2.1 ∈ GW) {v : Value} (hv : fs[k]? = some v) (d : decode cc pc = .ok (.getfield index, 3))
    (kk : W p l e R s m args below meth c H locs cells slots Q (F0 m (pc + 3) ls (v :: rest))) : W p l e R s m args below meth c H locs cells slots Q (F0 m pc ls (.ref a :: rest)) := va_get hx hb hG hin hown hK hP q0 he hc k hk (hG _ hlink) (fun _ h => h) hv d kk
theorem k_getR (hx : p.tables.exec = Jvm.exec) (hb : c.code = cc) {own ref C : String} {T : u_T} {N ci index : Nat} (hG : ∀ w ∈ GW, w.before args s = true) (hin : ∀ w ∈ u_ws C T N, w ∈ GW) (hown : s.vm.findClass own = some m.cls) (hK : va_K D vwCl (TYS cA) s) (hP : va_P D vwCl ws H) (q0 : Nat) {fs : List Value} (he : ws[q0]? = some (a, .inr (ci, fs))) (hc : vwCl[ci]? = some (C, T, N)) (k : Nat) (hk : k < N) (hlink : Cond.fieldLink own index ref (T k).2.1 (T k).2.2.1 ∈ GW) (hsame : Cond.sameField ref (T k).1 (T k).2.1 (T k).2.2.1 ∈ GW) {v : Value} (hv : fs[k]? = some v) (d : decode cc pc = .ok (.getfield index, 3))
    (kk : W p l e R s m args below meth c H locs cells slots Q (F0 m (pc + 3) ls (v :: rest))) : W p l e R s m args below meth c H locs cells slots Q (F0 m pc ls (.ref a :: rest)) := va_get hx hb hG hin hown hK hP q0 he hc k hk (hG _ hlink) (u_same (hG _ hsame)) hv d kk
theorem k_getN (hx : p.tables.exec = Jvm.exec) (hb : c.code = cc) {own C host : String} {T : u_T} {N ci index : Nat} (hG : ∀ w ∈ GW, w.before args s = true) (hin : ∀ w ∈ u_ws C T N, w ∈ GW) (hown : s.vm.findClass own = some m.cls) (hK : va_K D vwCl (TYS cA) s) (hP : va_P D vwCl ws H) (hN : ∀ w ∈ NW, va_Nw w s) (q0 : Nat) {fs : List Value} (he : ws[q0]? = some (a, .inr (ci, fs))) (hc : vwCl[ci]? = some (C, T, N)) (k : Nat) (hk : k < N) (hlink : Cond.fieldLinkNest own index (T k).1 (T k).2.1 (T k).2.2.1 host ∈ NW) {v : Value} (hv : fs[k]? = some v) (d : decode cc pc = .ok (.getfield index, 3))
    (kk : W p l e R s m args below meth c H locs cells slots Q (F0 m (pc + 3) ls (v :: rest))) : W p l e R s m args below meth c H locs cells slots Q (F0 m pc ls (.ref a :: rest)) := va_getN hx hb hG hin hown hK hP q0 he hc k hk (va_Nw.use rfl (hN _ hlink)) (fun _ h => h) hv d kk
theorem k_put (hx : p.tables.exec = Jvm.exec) (hb : c.code = cc) {own C : String} {T : u_T} {N ci index : Nat} (hG : ∀ w ∈ GW, w.before args s = true) (hin : ∀ w ∈ u_ws C T N, w ∈ GW) (ty0 : Nat → FieldType) (hty : ∀ k, k < N → parseFieldDescriptor (T k).2.2.1 = some (ty0 k)) (hnm : ∀ a, a < N → ∀ b, b < N → a ≠ b → (T a).2.1 ≠ (T b).2.1) (hown : s.vm.findClass own = some m.cls) (hK : va_K D vwCl (TYS cA) s) (hP : va_P D vwCl ws H) (hD : va_D A ws) (hS : va_S A s.heap H locs) (q0 : Nat) {fs : List Value} (he : ws[q0]? = some (a, .inr (ci, fs))) (hc : vwCl[ci]? = some (C, T, N)) (k : Nat) (hk : k < N) (hlink : Cond.fieldLink own index (T k).1 (T k).2.1 (T k).2.2.1 ∈ GW) (hfin : (T k).2.2.2 = false) {v : Value} (hfit : narrow (ty0 k) v = v ∧ fits (ty0 k) v = true) {ws1 : va_W} (hw : ws.set q0 (a, .inr (ci, fs.set k v)) = ws1) (hl : k < fs.length) (d : decode cc pc = .ok (.putfield index, 3))
    (kk : ∀ (H1 : Heap) (locs1 : List Loc), va_P D vwCl ws1 H1 → va_D A ws1 → va_S A s.heap H1 locs1 → W p l e R s m args below meth c H1 locs1 cells slots Q (F0 m (pc + 3) ls rest)) : W p l e R s m args below meth c H locs cells slots Q (F0 m pc ls (v :: .ref a :: rest)) := by
  subst hw
  exact va_put hx hb hG hin ty0 hty hnm hown hK hP hD hS q0 he hc k hk (hG _ hlink) (fun _ h => h) hfin (hty k hk) hfit.1 hfit.2 hl d kk
theorem k_putF (hx : p.tables.exec = Jvm.exec) (hb : c.code = cc) {own C : String} {T : u_T} {N ci index : Nat} (hG : ∀ w ∈ GW, w.before args s = true) (hin : ∀ w ∈ u_ws C T N, w ∈ GW) (ty0 : Nat → FieldType) (hty : ∀ k, k < N → parseFieldDescriptor (T k).2.2.1 = some (ty0 k)) (hnm : ∀ a, a < N → ∀ b, b < N → a ≠ b → (T a).2.1 ≠ (T b).2.1) (hown : s.vm.findClass own = some m.cls) (hK : va_K D vwCl (TYS cA) s) (hP : va_P D vwCl ws H) (hD : va_D A ws) (hS : va_S A s.heap H locs) (q0 : Nat) {fs : List Value} (he : ws[q0]? = some (a, .inr (ci, fs))) (hc : vwCl[ci]? = some (C, T, N)) (k : Nat) (hk : k < N) (hlink : Cond.fieldLink own index (T k).1 (T k).2.1 (T k).2.2.1 ∈ GW) (hfin : (T k).2.2.2 = true) (hin2 : meth.name = "<init>") (hdecl : (T k).1 = own) {v : Value} (hfit : narrow (ty0 k) v = v ∧ fits (ty0 k) v = true) {ws1 : va_W} (hw : ws.set q0 (a, .inr (ci, fs.set k v)) = ws1) (hl : k < fs.length) (d : decode cc pc = .ok (.putfield index, 3))
    (kk : ∀ (H1 : Heap) (locs1 : List Loc), va_P D vwCl ws1 H1 → va_D A ws1 → va_S A s.heap H1 locs1 → W p l e R s m args below meth c H1 locs1 cells slots Q (F0 m (pc + 3) ls rest)) : W p l e R s m args below meth c H locs cells slots Q (F0 m pc ls (v :: .ref a :: rest)) := by
  subst hw
  exact va_putF hx hb hG hin ty0 hty hnm hown hK hP hD hS q0 he hc k hk (hG _ hlink) (fun _ h => h) hfin hin2 hdecl (hty k hk) hfit.1 hfit.2 hl d kk
theorem k_putN (hx : p.tables.exec = Jvm.exec) (hb : c.code = cc) {own C host : String} {T : u_T} {N ci index : Nat} (hG : ∀ w ∈ GW, w.before args s = true) (hin : ∀ w ∈ u_ws C T N, w ∈ GW) (ty0 : Nat → FieldType) (hty : ∀ k, k < N → parseFieldDescriptor (T k).2.2.1 = some (ty0 k)) (hnm : ∀ a, a < N → ∀ b, b < N → a ≠ b → (T a).2.1 ≠ (T b).2.1) (hown : s.vm.findClass own = some m.cls) (hK : va_K D vwCl (TYS cA) s) (hP : va_P D vwCl ws H) (hD : va_D A ws) (hS : va_S A s.heap H locs) (q0 : Nat) {fs : List Value} (he : ws[q0]? = some (a, .inr (ci, fs))) (hc : vwCl[ci]? = some (C, T, N)) (k : Nat) (hk : k < N) (hN : ∀ w ∈ NW, va_Nw w s) (hlink : Cond.fieldLinkNest own index (T k).1 (T k).2.1 (T k).2.2.1 host ∈ NW) (hfin : (T k).2.2.2 = false) {v : Value} (hfit : narrow (ty0 k) v = v ∧ fits (ty0 k) v = true) {ws1 : va_W} (hw : ws.set q0 (a, .inr (ci, fs.set k v)) = ws1) (hl : k < fs.length) (d : decode cc pc = .ok (.putfield index, 3))
    (kk : ∀ (H1 : Heap) (locs1 : List Loc), va_P D vwCl ws1 H1 → va_D A ws1 → va_S A s.heap H1 locs1 → W p l e R s m args below meth c H1 locs1 cells slots Q (F0 m (pc + 3) ls rest)) : W p l e R s m args below meth c H locs cells slots Q (F0 m pc ls (v :: .ref a :: rest)) := by
  subst hw
  exact va_putN hx hb hG hin ty0 hty hnm hown hK hP hD hS q0 he hc k hk (va_Nw.use rfl (hN _ hlink)) (fun _ h => h) hfin (hty k hk) hfit.1 hfit.2 hl d kk
theorem k_putR (hx : p.tables.exec = Jvm.exec) (hb : c.code = cc) {own ref C : String} {T : u_T} {N ci index : Nat} (hG : ∀ w ∈ GW, w.before args s = true) (hin : ∀ w ∈ u_ws C T N, w ∈ GW) (ty0 : Nat → FieldType) (hty : ∀ k, k < N → parseFieldDescriptor (T k).2.2.1 = some (ty0 k)) (hnm : ∀ a, a < N → ∀ b, b < N → a ≠ b → (T a).2.1 ≠ (T b).2.1) (hown : s.vm.findClass own = some m.cls) (hK : va_K D vwCl (TYS cA) s) (hP : va_P D vwCl ws H) (hD : va_D A ws) (hS : va_S A s.heap H locs) (q0 : Nat) {fs : List Value} (he : ws[q0]? = some (a, .inr (ci, fs))) (hc : vwCl[ci]? = some (C, T, N)) (k : Nat) (hk : k < N) (hlink : Cond.fieldLink own index ref (T k).2.1 (T k).2.2.1 ∈ GW) (hsame : Cond.sameField ref (T k).1 (T k).2.1 (T k).2.2.1 ∈ GW) (hfin : (T k).2.2.2 = false) {v : Value} (hfit : narrow (ty0 k) v = v ∧ fits (ty0 k) v = true) {ws1 : va_W} (hw : ws.set q0 (a, .inr (ci, fs.set k v)) = ws1) (hl : k < fs.length) (d : decode cc pc = .ok (.putfield index, 3))
    (kk : ∀ (H1 : Heap) (locs1 : List Loc), va_P D vwCl ws1 H1 → va_D A ws1 → va_S A s.heap H1 locs1 → W p l e R s m args below meth c H1 locs1 cells slots Q (F0 m (pc + 3) ls rest)) : W p l e R s m args below meth c H locs cells slots Q (F0 m pc ls (v :: .ref a :: rest)) := by
  subst hw
  exact va_put hx hb hG hin ty0 hty hnm hown hK hP hD hS q0 he hc k hk (hG _ hlink) (u_same (hG _ hsame)) hfin (hty k hk) hfit.1 hfit.2 hl d kk
theorem k_new (hx : p.tables.exec = Jvm.exec) (hb : c.code = cc) {own C : String} {T : u_T} {N ci index : Nat} (hG : ∀ w ∈ GW, w.before args s = true) (hin : ∀ w ∈ u_ws C T N, w ∈ GW) (ty : Nat → FieldType) (hty : ∀ k, k < N → parseFieldDescriptor (T k).2.2.1 = some (ty k)) (hown : s.vm.findClass own = some m.cls) (hcl : Cond.classLink own index C ∈ GW) (hinst : Cond.instantiable C N ∈ GW) (hini : Cond.initialized C ∈ GW) (hK : va_K D vwCl (TYS cA) s) (hP : va_P D vwCl ws H) (hD : va_D A ws) (hS : va_S A s.heap H locs) (hA : ∀ q, s.heap.size ≤ q → A q) (hc : vwCl[ci]? = some (C, T, N)) (fs : List Value) (hfs : (List.range N).map (fun j => defaultValue (ty j)) = fs) (hcells : cells + 1 ≤ R.cells) (hslots : slots + N ≤ R.slots) (d : decode cc pc = .ok (.new index, 3))
    (kk : ∀ (q : Nat) (H1 : Heap), va_P D vwCl (ws ++ [(q, .inr (ci, fs))]) H1 → va_D A (ws ++ [(q, .inr (ci, fs))]) → va_S A s.heap H1 locs → W p l e R s m args below meth c H1 locs (cells + 1) (slots + N) Q (F0 m (pc + 3) ls (.ref q :: rest))) : W p l e R s m args below meth c H locs cells slots Q (F0 m pc ls rest) := by
  refine va_new hx hb hG hin ty hty hown (hG _ hcl) (hG _ hinst) (hG _ hini) hK hP hD hS hA hc (fun j hj => ?_) hcells hslots d kk
  subst hfs
  simp [vp_V, hj]
theorem k_newa_int (hx : p.tables.exec = Jvm.exec) (hb : c.code = cc) (hG : ∀ w ∈ GW, w.before args s = true) (harr : Cond.arrayClass .int ∈ GW) (hK : va_K D vwCl (TYS cA) s) (hP : va_P D vwCl ws H) (hD : va_D A ws) (hS : va_S A s.heap H locs) (hA : ∀ q, s.heap.size ≤ q → A q) {n : Int32} (N' : Nat) (hn : ¬ n < 0) (hN : n.toNatClampNeg = N') (hbytes : N' * componentBytes .int ≤ 536870912) (hcells : cells + 1 ≤ R.cells) (hslots : slots + N' ≤ R.slots) (d : decode cc pc = .ok (.newarray .int, 2))
    (kk : ∀ (q : Nat) (H1 : Heap), va_P D vwCl (ws ++ [(q, .inl (cA 0, N', .inl (fun _ => 0)))]) H1 → va_D A (ws ++ [(q, .inl (cA 0, N', .inl (fun _ => 0)))]) → va_S A s.heap H1 locs → W p l e R s m args below meth c H1 locs (cells + 1) (slots + N') Q (F0 m (pc + 2) ls (.ref q :: rest))) : W p l e R s m args below meth c H locs cells slots Q (F0 m pc ls (.int n :: rest)) := by
  refine va_newa (atype := .int) (ty := .int) (a0 := (N', .inl (fun _ => 0))) hx hb (hG _ harr) rfl hK hP hD hS hA (fun _ => rfl) hn hN hbytes hcells hslots d (fun q c1 H1 hK1 hP1 hD1 hS1 => ?_)
  have e1 : s.vm.findClass _ = some c1 := (hK1.2 6 (c1, .int) rfl).2
  have e2 : s.vm.findClass _ = some (cA 0) := (hK.2 0 (cA 0, .int) rfl).2
  cases Option.some.inj (e1.symm.trans e2)
  exact kk q H1 hP1 hD1 hS1
theorem k_newa_long (hx : p.tables.exec = Jvm.exec) (hb : c.code = cc) (hG : ∀ w ∈ GW, w.before args s = true) (harr : Cond.arrayClass .long ∈ GW) (hK : va_K D vwCl (TYS cA) s) (hP : va_P D vwCl ws H) (hD : va_D A ws) (hS : va_S A s.heap H locs) (hA : ∀ q, s.heap.size ≤ q → A q) {n : Int32} (N' : Nat) (hn : ¬ n < 0) (hN : n.toNatClampNeg = N') (hbytes : N' * componentBytes .long ≤ 536870912) (hcells : cells + 1 ≤ R.cells) (hslots : slots + N' ≤ R.slots) (d : decode cc pc = .ok (.newarray .long, 2))
    (kk : ∀ (q : Nat) (H1 : Heap), va_P D vwCl (ws ++ [(q, .inl (cA 1, N', .inr (.inl (fun _ => 0))))]) H1 → va_D A (ws ++ [(q, .inl (cA 1, N', .inr (.inl (fun _ => 0))))]) → va_S A s.heap H1 locs → W p l e R s m args below meth c H1 locs (cells + 1) (slots + N') Q (F0 m (pc + 2) ls (.ref q :: rest))) : W p l e R s m args below meth c H locs cells slots Q (F0 m pc ls (.int n :: rest)) := by
  refine va_newa (atype := .long) (ty := .long) (a0 := (N', .inr (.inl (fun _ => 0)))) hx hb (hG _ harr) rfl hK hP hD hS hA (fun _ => rfl) hn hN hbytes hcells hslots d (fun q c1 H1 hK1 hP1 hD1 hS1 => ?_)
  have e1 : s.vm.findClass _ = some c1 := (hK1.2 6 (c1, .long) rfl).2
  have e2 : s.vm.findClass _ = some (cA 1) := (hK.2 1 (cA 1, .long) rfl).2
  cases Option.some.inj (e1.symm.trans e2)
  exact kk q H1 hP1 hD1 hS1
theorem k_newa_char (hx : p.tables.exec = Jvm.exec) (hb : c.code = cc) (hG : ∀ w ∈ GW, w.before args s = true) (harr : Cond.arrayClass .char ∈ GW) (hK : va_K D vwCl (TYS cA) s) (hP : va_P D vwCl ws H) (hD : va_D A ws) (hS : va_S A s.heap H locs) (hA : ∀ q, s.heap.size ≤ q → A q) {n : Int32} (N' : Nat) (hn : ¬ n < 0) (hN : n.toNatClampNeg = N') (hbytes : N' * componentBytes .char ≤ 536870912) (hcells : cells + 1 ≤ R.cells) (hslots : slots + N' ≤ R.slots) (d : decode cc pc = .ok (.newarray .char, 2))
    (kk : ∀ (q : Nat) (H1 : Heap), va_P D vwCl (ws ++ [(q, .inl (cA 2, N', .inl (fun _ => 0)))]) H1 → va_D A (ws ++ [(q, .inl (cA 2, N', .inl (fun _ => 0)))]) → va_S A s.heap H1 locs → W p l e R s m args below meth c H1 locs (cells + 1) (slots + N') Q (F0 m (pc + 2) ls (.ref q :: rest))) : W p l e R s m args below meth c H locs cells slots Q (F0 m pc ls (.int n :: rest)) := by
  refine va_newa (atype := .char) (ty := .char) (a0 := (N', .inl (fun _ => 0))) hx hb (hG _ harr) rfl hK hP hD hS hA (fun _ => rfl) hn hN hbytes hcells hslots d (fun q c1 H1 hK1 hP1 hD1 hS1 => ?_)
  have e1 : s.vm.findClass _ = some c1 := (hK1.2 6 (c1, .char) rfl).2
  have e2 : s.vm.findClass _ = some (cA 2) := (hK.2 2 (cA 2, .char) rfl).2
  cases Option.some.inj (e1.symm.trans e2)
  exact kk q H1 hP1 hD1 hS1
theorem k_newa_boolean (hx : p.tables.exec = Jvm.exec) (hb : c.code = cc) (hG : ∀ w ∈ GW, w.before args s = true) (harr : Cond.arrayClass .boolean ∈ GW) (hK : va_K D vwCl (TYS cA) s) (hP : va_P D vwCl ws H) (hD : va_D A ws) (hS : va_S A s.heap H locs) (hA : ∀ q, s.heap.size ≤ q → A q) {n : Int32} (N' : Nat) (hn : ¬ n < 0) (hN : n.toNatClampNeg = N') (hbytes : N' * componentBytes .boolean ≤ 536870912) (hcells : cells + 1 ≤ R.cells) (hslots : slots + N' ≤ R.slots) (d : decode cc pc = .ok (.newarray .boolean, 2))
    (kk : ∀ (q : Nat) (H1 : Heap), va_P D vwCl (ws ++ [(q, .inl (cA 3, N', .inl (fun _ => 0)))]) H1 → va_D A (ws ++ [(q, .inl (cA 3, N', .inl (fun _ => 0)))]) → va_S A s.heap H1 locs → W p l e R s m args below meth c H1 locs (cells + 1) (slots + N') Q (F0 m (pc + 2) ls (.ref q :: rest))) : W p l e R s m args below meth c H locs cells slots Q (F0 m pc ls (.int n :: rest)) := by
  refine va_newa (atype := .boolean) (ty := .boolean) (a0 := (N', .inl (fun _ => 0))) hx hb (hG _ harr) rfl hK hP hD hS hA (fun _ => rfl) hn hN hbytes hcells hslots d (fun q c1 H1 hK1 hP1 hD1 hS1 => ?_)
  have e1 : s.vm.findClass _ = some c1 := (hK1.2 6 (c1, .boolean) rfl).2
  have e2 : s.vm.findClass _ = some (cA 3) := (hK.2 3 (cA 3, .boolean) rfl).2
  cases Option.some.inj (e1.symm.trans e2)
  exact kk q H1 hP1 hD1 hS1
theorem k_newa_double (hx : p.tables.exec = Jvm.exec) (hb : c.code = cc) (hG : ∀ w ∈ GW, w.before args s = true) (harr : Cond.arrayClass .double ∈ GW) (hK : va_K D vwCl (TYS cA) s) (hP : va_P D vwCl ws H) (hD : va_D A ws) (hS : va_S A s.heap H locs) (hA : ∀ q, s.heap.size ≤ q → A q) {n : Int32} (N' : Nat) (hn : ¬ n < 0) (hN : n.toNatClampNeg = N') (hbytes : N' * componentBytes .double ≤ 536870912) (hcells : cells + 1 ≤ R.cells) (hslots : slots + N' ≤ R.slots) (d : decode cc pc = .ok (.newarray .double, 2))
    (kk : ∀ (q : Nat) (H1 : Heap), va_P D vwCl (ws ++ [(q, .inl (cA 5, N', .inr (.inr (.inr (.inl (fun _ => 0))))))]) H1 → va_D A (ws ++ [(q, .inl (cA 5, N', .inr (.inr (.inr (.inl (fun _ => 0))))))]) → va_S A s.heap H1 locs → W p l e R s m args below meth c H1 locs (cells + 1) (slots + N') Q (F0 m (pc + 2) ls (.ref q :: rest))) : W p l e R s m args below meth c H locs cells slots Q (F0 m pc ls (.int n :: rest)) := by
  refine va_newa (atype := .double) (ty := .double) (a0 := (N', .inr (.inr (.inr (.inl (fun _ => 0)))))) hx hb (hG _ harr) rfl hK hP hD hS hA (fun _ => rfl) hn hN hbytes hcells hslots d (fun q c1 H1 hK1 hP1 hD1 hS1 => ?_)
  have e1 : s.vm.findClass _ = some c1 := (hK1.2 6 (c1, .double) rfl).2
  have e2 : s.vm.findClass _ = some (cA 5) := (hK.2 5 (cA 5, .double) rfl).2
  cases Option.some.inj (e1.symm.trans e2)
  exact kk q H1 hP1 hD1 hS1
theorem k_newq (hx : p.tables.exec = Jvm.exec) (hb : c.code = cc) {own : String} {index : Nat} (hG : ∀ w ∈ GW, w.before args s = true) (hown : s.vm.findClass own = some m.cls) (hcl : Cond.classLink own index "java/lang/Object" ∈ GW) (hover : va_AO "java/lang/Object" s) (hK : va_K D vwCl (TYS cA) s) (hP : va_P D vwCl ws H) (hD : va_D A ws) (hS : va_S A s.heap H locs) (hA : ∀ q, s.heap.size ≤ q → A q) {n : Int32} (N' : Nat) (hn : ¬ n < 0) (hN : n.toNatClampNeg = N') (hbytes : N' * 4 ≤ 536870912) (hcells : cells + 1 ≤ R.cells) (hslots : slots + N' ≤ R.slots) (d : decode cc pc = .ok (.anewarray index, 3))
    (kk : ∀ (q : Nat) (H1 : Heap), va_P D vwCl (ws ++ [(q, .inl (cA 4, N', .inr (.inr (.inr (.inr (fun _ => none))))))]) H1 → va_D A (ws ++ [(q, .inl (cA 4, N', .inr (.inr (.inr (.inr (fun _ => none))))))]) → va_S A s.heap H1 locs → W p l e R s m args below meth c H1 locs (cells + 1) (slots + N') Q (F0 m (pc + 3) ls (.ref q :: rest))) : W p l e R s m args below meth c H locs cells slots Q (F0 m pc ls (.int n :: rest)) := by
  refine va_newq hx hb hown (hG _ hcl) hover hK hP hD hS hA hn hN hbytes hcells hslots d (fun q c1 H1 hK1 hP1 hD1 hS1 => ?_)
  obtain ⟨_, _, -, -, -, e1⟩ := (hK1.2 6 (c1, .object "java/lang/Object") rfl).2
  obtain ⟨_, _, -, -, -, e2⟩ := (hK.2 4 (cA 4, .object "java/lang/Object") rfl).2
  cases Option.some.inj (e1.symm.trans e2)
  exact kk q H1 hP1 hD1 hS1
theorem k_iald (hx : p.tables.exec = Jvm.exec) (hb : c.code = cc) (hK : va_K D vwCl (TYS cA) s) (hP : va_P D vwCl ws H) (q0 : Nat) {n : Nat} {f : Nat → Int32} (ha : ws[q0]? = some (a, .inl (cA 0, n, .inl f))) {i : Int32} (j : Nat) {v : Int32} (hj : i.toNatClampNeg = j) (hv : f j = v) (hin : vp_in i n) (d : decode cc pc = .ok (.iaload, 1)) (kk : W p l e R s m args below meth c H locs cells slots Q (F0 m (pc + 1) ls (.int v :: rest))) : W p l e R s m args below meth c H locs cells slots Q (F0 m pc ls (.int i :: .ref a :: rest)) := va_iald hx hb hK hP q0 0 ha rfl hin d (by rw [hj, hv]; exact kk)
theorem k_lald (hx : p.tables.exec = Jvm.exec) (hb : c.code = cc) (hK : va_K D vwCl (TYS cA) s) (hP : va_P D vwCl ws H) (q0 : Nat) {n : Nat} {f : Nat → Int64} (ha : ws[q0]? = some (a, .inl (cA 1, n, .inr (.inl f)))) {i : Int32} (j : Nat) {v : Int64} (hj : i.toNatClampNeg = j) (hv : f j = v) (hin : vp_in i n) (d : decode cc pc = .ok (.laload, 1)) (kk : W p l e R s m args below meth c H locs cells slots Q (F0 m (pc + 1) ls (.long v :: rest))) : W p l e R s m args below meth c H locs cells slots Q (F0 m pc ls (.int i :: .ref a :: rest)) := va_lald hx hb hK hP q0 1 ha rfl hin d (by rw [hj, hv]; exact kk)
theorem k_cald (hx : p.tables.exec = Jvm.exec) (hb : c.code = cc) (hK : va_K D vwCl (TYS cA) s) (hP : va_P D vwCl ws H) (q0 : Nat) {n : Nat} {f : Nat → Int32} (ha : ws[q0]? = some (a, .inl (cA 2, n, .inl f))) {i : Int32} (j : Nat) {v : Int32} (hj : i.toNatClampNeg = j) (hv : f j = v) (hin : vp_in i n) (d : decode cc pc = .ok (.caload, 1)) (kk : W p l e R s m args below meth c H locs cells slots Q (F0 m (pc + 1) ls (.int v :: rest))) : W p l e R s m args below meth c H locs cells slots Q (F0 m pc ls (.int i :: .ref a :: rest)) := va_cald hx hb hK hP q0 2 ha rfl hin d (by rw [hj, hv]; exact kk)
theorem k_zald (hx : p.tables.exec = Jvm.exec) (hb : c.code = cc) (hK : va_K D vwCl (TYS cA) s) (hP : va_P D vwCl ws H) (q0 : Nat) {n : Nat} {f : Nat → Int32} (ha : ws[q0]? = some (a, .inl (cA 3, n, .inl f))) {i : Int32} (j : Nat) {v : Int32} (hj : i.toNatClampNeg = j) (hv : f j = v) (hin : vp_in i n) (d : decode cc pc = .ok (.baload, 1)) (kk : W p l e R s m args below meth c H locs cells slots Q (F0 m (pc + 1) ls (.int v :: rest))) : W p l e R s m args below meth c H locs cells slots Q (F0 m pc ls (.int i :: .ref a :: rest)) := va_zald hx hb hK hP q0 3 ha rfl hin d (by rw [hj, hv]; exact kk)
theorem k_dald (hx : p.tables.exec = Jvm.exec) (hb : c.code = cc) (hK : va_K D vwCl (TYS cA) s) (hP : va_P D vwCl ws H) (q0 : Nat) {n : Nat} {f : Nat → UInt64} (ha : ws[q0]? = some (a, .inl (cA 5, n, .inr (.inr (.inr (.inl f)))))) {i : Int32} (j : Nat) {v : UInt64} (hj : i.toNatClampNeg = j) (hv : f j = v) (hin : vp_in i n) (d : decode cc pc = .ok (.daload, 1)) (kk : W p l e R s m args below meth c H locs cells slots Q (F0 m (pc + 1) ls (.double v :: rest))) : W p l e R s m args below meth c H locs cells slots Q (F0 m pc ls (.int i :: .ref a :: rest)) := va_dald hx hb hK hP q0 5 ha rfl hin d (by rw [hj, hv]; exact kk)
theorem k_iast (hx : p.tables.exec = Jvm.exec) (hb : c.code = cc) (hK : va_K D vwCl (TYS cA) s) (hP : va_P D vwCl ws H) (hD : va_D A ws) (hS : va_S A s.heap H locs) (q0 : Nat) {n : Nat} {f : Nat → Int32} (ha : ws[q0]? = some (a, .inl (cA 0, n, .inl f))) {i : Int32} {x : Int32} {ws1 : va_W} (hw : ws.set q0 (a, .inl (cA 0, n, .inl (upd f i.toNatClampNeg x))) = ws1) (hin : vp_in i n) (d : decode cc pc = .ok (.iastore, 1))
    (kk : ∀ (H1 : Heap) (locs1 : List Loc), va_P D vwCl ws1 H1 → va_D A ws1 → va_S A s.heap H1 locs1 → W p l e R s m args below meth c H1 locs1 cells slots Q (F0 m (pc + 1) ls rest)) : W p l e R s m args below meth c H locs cells slots Q (F0 m pc ls (.int x :: .int i :: .ref a :: rest)) := by
  subst hw
  exact va_iast hx hb hK hP hD hS q0 0 ha rfl hin d kk
theorem k_last (hx : p.tables.exec = Jvm.exec) (hb : c.code = cc) (hK : va_K D vwCl (TYS cA) s) (hP : va_P D vwCl ws H) (hD : va_D A ws) (hS : va_S A s.heap H locs) (q0 : Nat) {n : Nat} {f : Nat → Int64} (ha : ws[q0]? = some (a, .inl (cA 1, n, .inr (.inl f)))) {i : Int32} {x : Int64} {ws1 : va_W} (hw : ws.set q0 (a, .inl (cA 1, n, .inr (.inl (vp_updL f i.toNatClampNeg x)))) = ws1) (hin : vp_in i n) (d : decode cc pc = .ok (.lastore, 1))
    (kk : ∀ (H1 : Heap) (locs1 : List Loc), va_P D vwCl ws1 H1 → va_D A ws1 → va_S A s.heap H1 locs1 → W p l e R s m args below meth c H1 locs1 cells slots Q (F0 m (pc + 1) ls rest)) : W p l e R s m args below meth c H locs cells slots Q (F0 m pc ls (.long x :: .int i :: .ref a :: rest)) := by
  subst hw
  exact va_last hx hb hK hP hD hS q0 1 ha rfl hin d kk
theorem k_cast (hx : p.tables.exec = Jvm.exec) (hb : c.code = cc) (hK : va_K D vwCl (TYS cA) s) (hP : va_P D vwCl ws H) (hD : va_D A ws) (hS : va_S A s.heap H locs) (q0 : Nat) {n : Nat} {f : Nat → Int32} (ha : ws[q0]? = some (a, .inl (cA 2, n, .inl f))) {i : Int32} {x : Int32} {ws1 : va_W} (hw : ws.set q0 (a, .inl (cA 2, n, .inl (upd f i.toNatClampNeg (vp_nar .char x)))) = ws1) (hin : vp_in i n) (d : decode cc pc = .ok (.castore, 1))
    (kk : ∀ (H1 : Heap) (locs1 : List Loc), va_P D vwCl ws1 H1 → va_D A ws1 → va_S A s.heap H1 locs1 → W p l e R s m args below meth c H1 locs1 cells slots Q (F0 m (pc + 1) ls rest)) : W p l e R s m args below meth c H locs cells slots Q (F0 m pc ls (.int x :: .int i :: .ref a :: rest)) := by
  subst hw
  exact va_cast hx hb hK hP hD hS q0 2 ha rfl hin d kk
theorem k_zast (hx : p.tables.exec = Jvm.exec) (hb : c.code = cc) (hK : va_K D vwCl (TYS cA) s) (hP : va_P D vwCl ws H) (hD : va_D A ws) (hS : va_S A s.heap H locs) (q0 : Nat) {n : Nat} {f : Nat → Int32} (ha : ws[q0]? = some (a, .inl (cA 3, n, .inl f))) {i : Int32} {x : Int32} {ws1 : va_W} (hw : ws.set q0 (a, .inl (cA 3, n, .inl (upd f i.toNatClampNeg (vp_nar .boolean x)))) = ws1) (hin : vp_in i n) (d : decode cc pc = .ok (.bastore, 1))
    (kk : ∀ (H1 : Heap) (locs1 : List Loc), va_P D vwCl ws1 H1 → va_D A ws1 → va_S A s.heap H1 locs1 → W p l e R s m args below meth c H1 locs1 cells slots Q (F0 m (pc + 1) ls rest)) : W p l e R s m args below meth c H locs cells slots Q (F0 m pc ls (.int x :: .int i :: .ref a :: rest)) := by
  subst hw
  exact va_zast hx hb hK hP hD hS q0 3 ha rfl hin d kk
theorem k_astq (hx : p.tables.exec = Jvm.exec) (hb : c.code = cc) (hK : va_K D vwCl (TYS cA) s) (hP : va_P D vwCl ws H) (hD : va_D A ws) (hS : va_S A s.heap H locs) (hN : ∀ w ∈ NW, va_Nw w s) (q0 qk ci : Nat) {r : vw_C} {n v : Nat} {vs : List Value} {f : Nat → Option Nat} (ha : ws[q0]? = some (a, .inl (cA 4, n, .inr (.inr (.inr (.inr f)))))) (hca : Cond.castable r.1 "java/lang/Object" ∈ NW) (hv : ws[qk]? = some (v, .inr (ci, vs))) (hc : vwCl[ci]? = some r) {i : Int32} {ws1 : va_W} (hw : ws.set q0 (a, .inl (cA 4, n, .inr (.inr (.inr (.inr (va_up f i.toNatClampNeg (some v))))))) = ws1) (hin : vp_in i n) (d : decode cc pc = .ok (.aastore, 1))
    (kk : ∀ (H1 : Heap) (locs1 : List Loc), va_P D vwCl ws1 H1 → va_D A ws1 → va_S A s.heap H1 locs1 → W p l e R s m args below meth c H1 locs1 cells slots Q (F0 m (pc + 1) ls rest)) : W p l e R s m args below meth c H locs cells slots Q (F0 m pc ls (.ref v :: .int i :: .ref a :: rest)) := by
  subst hw
  exact va_astqO hx hb hK hP hD hS q0 4 qk ci ha rfl (hN _ hca) hv hc hin d kk
theorem k_alen (hx : p.tables.exec = Jvm.exec) (hb : c.code = cc) (hK : va_K D vwCl (TYS cA) s) (hP : va_P D vwCl ws H) (q0 t0 : Nat) {cc0 : ClassId} {x : vp_A} (ha : ws[q0]? = some (a, .inl (cc0, x))) {ty : FieldType} (ht : (TYS cA)[t0]? = some (cc0, ty)) {v : Int32} (hv : Int32.ofNat x.1 = v) (d : decode cc pc = .ok (.arraylength, 1)) (kk : W p l e R s m args below meth c H locs cells slots Q (F0 m (pc + 1) ls (.int v :: rest))) : W p l e R s m args below meth c H locs cells slots Q (F0 m pc ls (.ref a :: rest)) := va_alen hx hb hK hP q0 t0 ha ht hv d kk
theorem k_ldcS (hx : p.tables.exec = Jvm.exec) (hb : c.code = cc) {g : gv_T} (hGV : GV g A s s.heap) {own tx : String} {index : Nat} (i : Nat) (hi : STR[i]? = some (own, index, tx)) (hown : s.vm.findClass own = some m.cls) (d : decode cc pc = .ok (.ldc index, 2)) (kk : W p l e R s m args below meth c H locs cells slots Q (F0 m (pc + 2) ls (.ref (g.2.1 i) :: rest))) : W p l e R s m args below meth c H locs cells slots Q (F0 m pc ls rest) := va_ldcS hx hb hown (hGV.2.2.2.1 i _ hi) d kk
theorem k_getsE (hx : p.tables.exec = Jvm.exec) (hb : c.code = cc) {g : gv_T} (hG : ∀ w ∈ GW, w.before args s = true) (hGV : GV g A s s.heap) (hS : va_S A s.heap H locs) {own : String} {index : Nat} (hown : s.vm.findClass own = some m.cls) (hlink : Cond.fieldLink own index "java/util/ArrayList" "DEFAULTCAPACITY_EMPTY_ELEMENTDATA" "[Ljava/lang/Object;" ∈ GW) (d : decode cc pc = .ok (.getstatic index, 3)) (kk : W p l e R s m args below meth c H locs cells slots Q (F0 m (pc + 3) ls (.ref g.1 :: rest))) : W p l e R s m args below meth c H locs cells slots Q (F0 m pc ls rest) := va_gets hx hb hGV.2.1.1 hS hown (hG _ hlink) (fun _ h => h) d kk
theorem k_getsC (hx : p.tables.exec = Jvm.exec) (hb : c.code = cc) {g : gv_T} (hG : ∀ w ∈ GW, w.before args s = true) (hGV : GV g A s s.heap) (hS : va_S A s.heap H locs) {own : String} {index : Nat} (hown : s.vm.findClass own = some m.cls) (hlink : Cond.fieldLink own index "java/lang/String" "COMPACT_STRINGS" "Z" ∈ GW) (d : decode cc pc = .ok (.getstatic index, 3)) (kk : W p l e R s m args below meth c H locs cells slots Q (F0 m (pc + 3) ls (.int 1 :: rest))) : W p l e R s m args below meth c H locs cells slots Q (F0 m pc ls rest) := va_gets hx hb hGV.2.2.1.1 hS hown (hG _ hlink) (fun _ h => h) d kk
theorem k_elen (hx : p.tables.exec = Jvm.exec) (hb : c.code = cc) {g : gv_T} (hGV : GV g A s s.heap) (hS : va_S A s.heap H locs) (d : decode cc pc = .ok (.arraylength, 1)) (kk : W p l e R s m args below meth c H locs cells slots Q (F0 m (pc + 1) ls (.int 0 :: rest))) : W p l e R s m args below meth c H locs cells slots Q (F0 m pc ls (.ref g.1 :: rest)) := va_tlen hx hb hGV.2.1.2 hS rfl d kk
theorem k_slen (hx : p.tables.exec = Jvm.exec) (hb : c.code = cc) {g : gv_T} (hGV : GV g A s s.heap) (hS : va_S A s.heap H locs) (d : decode cc pc = .ok (.arraylength, 1)) (kk : W p l e R s m args below meth c H locs cells slots Q (F0 m (pc + 1) ls (.int 3 :: rest))) : W p l e R s m args below meth c H locs cells slots Q (F0 m pc ls (.ref g.2.2 :: rest)) := va_tlen hx hb (hGV.2.2.1.2.1 0 (by decide)).2.2.2 hS (show Int32.ofNat 3 = 3 from rfl) d kk
theorem k_sld (hx : p.tables.exec = Jvm.exec) (hb : c.code = cc) {g : gv_T} (hGV : GV g A s s.heap) (hS : va_S A s.heap H locs) {i : Int32} (hin : vp_in i 3) {v : Int32} (hv : Value.int (([[45, 112, 114]].getD 0 []).getD i.toNatClampNeg 0) = .int v) (d : decode cc pc = .ok (.baload, 1)) (kk : W p l e R s m args below meth c H locs cells slots Q (F0 m (pc + 1) ls (.int v :: rest))) : W p l e R s m args below meth c H locs cells slots Q (F0 m pc ls (.int i :: .ref g.2.2 :: rest)) := va_tb hx hb (hGV.2.2.1.2.1 0 (by decide)).2.2.2 hS hin hv d kk
theorem k_svalue (hx : p.tables.exec = Jvm.exec) (hb : c.code = cc) {g : gv_T} (hG : ∀ w ∈ GW, w.before args s = true) (hGV : GV g A s s.heap) (hS : va_S A s.heap H locs) {own : String} {index : Nat} (hown : s.vm.findClass own = some m.cls) (hlink : Cond.fieldLink own index "java/lang/String" "value" "[B" ∈ GW) (d : decode cc pc = .ok (.getfield index, 3)) (kk : W p l e R s m args below meth c H locs cells slots Q (F0 m (pc + 3) ls (.ref g.2.2 :: rest))) : W p l e R s m args below meth c H locs cells slots Q (F0 m pc ls (.ref (g.2.1 0) :: rest)) := vk_getf hx hb (hGV.2.2.1.2.1 0 (by decide)).2.2.1 hS hown (hG _ hlink) (fun _ h => h) d kk
theorem k_scoder (hx : p.tables.exec = Jvm.exec) (hb : c.code = cc) {g : gv_T} (hG : ∀ w ∈ GW, w.before args s = true) (hGV : GV g A s s.heap) (hS : va_S A s.heap H locs) {own : String} {index : Nat} (hown : s.vm.findClass own = some m.cls) (hlink : Cond.fieldLink own index "java/lang/String" "coder" "B" ∈ GW) (d : decode cc pc = .ok (.getfield index, 3)) (kk : W p l e R s m args below meth c H locs cells slots Q (F0 m (pc + 3) ls (.int 0 :: rest))) : W p l e R s m args below meth c H locs cells slots Q (F0 m pc ls (.ref (g.2.1 0) :: rest)) := vk_getf hx hb (hGV.2.2.1.2.1 0 (by decide)).2.1 hS hown (hG _ hlink) (fun _ h => h) d kk
theorem k_mabsl (hx : p.tables.exec = Jvm.exec) (hb : c.code = cc) (hml : c.maxLocals = ls.size) {own : String} {index : Nat} (hown : s.vm.findClass own = some m.cls) (h1 : (Cond.methodLink own index Lib.MathLoose.abs_long.x).before args s = true) (h2 : (Cond.static Lib.MathLoose.abs_long.x).before args s = true) (h3 : (Cond.initialized "java/lang/Math").before args s = true) (h4 : (Cond.code Lib.MathLoose.abs_long.x Lib.MathLoose.abs_long.code 2 (some .long)).before args s = true) (hf : 1 ≤ R.frames) (hlo : (rest.map fun v => v.category).sum + 13 ≤ R.locals) (hc : cells ≤ R.cells) (hs : slots ≤ R.slots) {x v : Int64} (d : decode cc pc = .ok (.invokestatic index, 3)) (hv : (if 0 < x then x else -x) = v) (kk : W p l e R s m args below meth c H locs cells slots Q (F0 m (pc + 3) ls (.long v :: rest))) : W p l e R s m args below meth c H locs cells slots Q (F0 m pc ls (.long x :: rest)) := va_mabs_long hx hb hml hown h1 h2 h3 h4 hf hlo hc hs d (by rw [hv]; exact kk)
theorem k_mmax (hx : p.tables.exec = Jvm.exec) (hb : c.code = cc) (hml : c.maxLocals = ls.size) {own : String} {index : Nat} (hown : s.vm.findClass own = some m.cls) (h1 : (Cond.methodLink own index Lib.Math.max.name).before args s = true) (h2 : (Cond.static Lib.Math.max.name).before args s = true) (h3 : (Cond.initialized "java/lang/Math").before args s = true) (h4 : (Cond.code Lib.Math.max.name Lib.Math.max.code 2 (some .int)).before args s = true) (hf : 1 ≤ R.frames) (hlo : (rest.map fun v => v.category).sum + 13 ≤ R.locals) (hc : cells ≤ R.cells) (hs : slots ≤ R.slots) {x y v : Int32} (d : decode cc pc = .ok (.invokestatic index, 3)) (hv : (if x < y then y else x) = v) (kk : W p l e R s m args below meth c H locs cells slots Q (F0 m (pc + 3) ls (.int v :: rest))) : W p l e R s m args below meth c H locs cells slots Q (F0 m pc ls (.int y :: .int x :: rest)) := va_mmax hx hb hml hown h1 h2 h3 h4 hf hlo hc hs d (by rw [hv]; exact kk)
theorem k_mmin (hx : p.tables.exec = Jvm.exec) (hb : c.code = cc) (hml : c.maxLocals = ls.size) {own : String} {index : Nat} (hown : s.vm.findClass own = some m.cls) (h1 : (Cond.methodLink own index Lib.Math.min.name).before args s = true) (h2 : (Cond.static Lib.Math.min.name).before args s = true) (h3 : (Cond.initialized "java/lang/Math").before args s = true) (h4 : (Cond.code Lib.Math.min.name Lib.Math.min.code 2 (some .int)).before args s = true) (hf : 1 ≤ R.frames) (hlo : (rest.map fun v => v.category).sum + 13 ≤ R.locals) (hc : cells ≤ R.cells) (hs : slots ≤ R.slots) {x y v : Int32} (d : decode cc pc = .ok (.invokestatic index, 3)) (hv : (if y < x then y else x) = v) (kk : W p l e R s m args below meth c H locs cells slots Q (F0 m (pc + 3) ls (.int v :: rest))) : W p l e R s m args below meth c H locs cells slots Q (F0 m pc ls (.int y :: .int x :: rest)) := va_mmin hx hb hml hown h1 h2 h3 h4 hf hlo hc hs d (by rw [hv]; exact kk)
theorem k_script (hx : p.tables.exec = Jvm.exec) (hb : c.code = cc) {b L : Nat} {xs : Nat → Int32} (hX : va_X b L xs s s.heap) (hbl : b < s.heap.size) (hbA : ¬ A b) (hS : va_S A s.heap H locs) {i x : Int32} (j : Nat) (hj : i.toNatClampNeg = j) (hv : xs j = x) (hin : vp_in i L) (d : decode cc pc = .ok (.iaload, 1)) (kk : W p l e R s m args below meth c H locs cells slots Q (F0 m (pc + 1) ls (.int x :: rest))) : W p l e R s m args below meth c H locs cells slots Q (F0 m pc ls (.int i :: .ref b :: rest)) := va_sld hx hb hX hbl hbA hS hin d (by rw [hj, hv]; exact kk)
end KR
/-! calls and ends -/
theorem fm_of {α β : Type} {f : α → Option β} {is : List α} {l : List β} (h : is.map f = l.map some) : is.filterMap f = l := by
  have e : is.filterMap f = (is.map f).filterMap id := by rw [List.filterMap_map]; rfl
  rw [e, h]
  clear e h
  induction l with
  | nil => rfl
  | cons x t ih => simp [ih]
section KC
variable {p : Program} {l : Launch} {e : Env} {R : Room} {s : State} {m : MethodId} {args : Array Value} {below : List Frame} {meth : Method} {c : Code} {H : Heap} {locs : List Loc} {cells slots : Nat} {Q : State → Prop}
variable {cc : ByteArray} {pc nL : Nat} {ls : Array Slot} {rest st0 : List Value} {D : va_G} {cA : Nat → ClassId} {A : Nat → Prop} {a : Nat} {ws wc wr : va_W} {g : gv_T}
variable {y : MethodName} {b : ByteArray} {n idx : Nat} {ret : Option FieldType} {R' : Room} {av As : List Value} {rv : (Nat → Nat) → Option Value} {wsr W1 : (Nat → Nat) → va_W} {own C E : String} {hh : List (Nat × Nat × Nat × Nat)}
theorem pc_of (hP : va_P D vwCl ws H) (hD : va_D A ws) (hS : va_S A s.heap H locs) (hA : ∀ q, s.heap.size ≤ q → A q) (hK : va_K D vwCl (TYS cA) s) (hGV : GV g A s s.heap) (isC : List Nat) (hC : isC.map (fun i => ws[i]?) = wc.map some) (hnC : va_nd isC = true) :
    ∀ U : State, U.heap = H → s.WarmedH U.vm → PcG D cA g av wc H.size av.toArray U := by
  intro U hU hW
  refine ⟨rfl, by rw [hU], by rw [hU]; exact hP.sub isC (fm_of hC), va_K.moved hW.alike hK, (hD.sub isC hnC hC).weaken (fun _ _ _ _ => trivial), ?_⟩
  rw [hU]
  exact GV.warm hW ((hGV.kept hS.2.1).narrow (va_free hD hS hA isC hC))
theorem ct_go {mc ms : Nat} {a0 : Array Value} (hr : va_Run p l e R s m args below meth c H locs cells slots mc ms (F0 m pc ls st0) rest (QcG D (va_A wc H.size) rv wsr a0) (va_A wc H.size)) (hP : va_P D vwCl ws H) (hD : va_D A ws) (hS : va_S A s.heap H locs) (hA : ∀ q, s.heap.size ≤ q → A q) (isC isR : List Nat) (hC : isC.map (fun i => ws[i]?) = wc.map some) (hR : isR.map (fun i => ws[i]?) = wr.map some) (hn : va_nd isR = true) (hdis : ∀ i ∈ isR, i ∉ isC) (hW1 : ∀ q, wr ++ wsr q = W1 q)
    (kk : ∀ (q : Nat → Nat) (H1 : Heap) (locs1 : List Loc), va_P D vwCl (W1 q) H1 → va_D A (W1 q) → va_S A s.heap H1 locs1 → W p l e R s m args below meth c H1 locs1 (cells + mc) (slots + ms) Q (F0 m (pc + 3) ls ((rv q).toList ++ rest))) : W p l e R s m args below meth c H locs cells slots Q (F0 m pc ls st0) := by
  intro T hT X
  obtain ⟨v, st₀, t, T', L, h0, X', hL, e1, e2, ⟨⟨q, hv, hp, hd⟩, hz, hk⟩, st⟩ := hr T hT X
  have hv : v = rv q := Outcome.returned.inj hv
  subst hv
  rw [h0] at hz hk
  have hF := va_free hD hS hA isC hC
  have hk1 : ∀ q, q < H.size → ¬ va_A wc H.size q → T'.heap[q]? = H[q]? := fun q h1 h2 => by rw [e1]; exact hk q h1 h2
  obtain ⟨hP1, hD1⟩ := va_join hP hD isC isR hC hR hn hdis hk1 hF (by rw [e1]; exact hp) hd
  rw [hW1 q] at hP1 hD1
  obtain ⟨t2, a1, b1⟩ := kk q T'.heap (locs ++ L) hP1 hD1 ⟨Nat.le_trans hS.1 (by rw [e1]; exact hz), fun q h1 h2 => by rw [e1, hk q (Nat.lt_of_lt_of_le h1 hS.1) (fun z => h2 (hF q z))]; exact hS.2.1 q h1 h2, fun q hq => by
    rcases List.mem_append.mp hq with h | h
    · exact hS.2.2 q h
    · exact hF _ (hL q h)⟩ T' rfl X'
  exact ⟨t2, st t2 a1, b1⟩
theorem cx_go {mc ms : Nat} (hr : vx_Run p l e R s m args below meth c H locs cells slots mc ms (F0 m pc ls st0) rest (fun _ _ _ => False) (XcG D (va_A wc H.size) E wsr) (va_A wc H.size)) (hP : va_P D vwCl ws H) (hD : va_D A ws) (hS : va_S A s.heap H locs) (hA : ∀ q, s.heap.size ≤ q → A q) (isC isR : List Nat) (hC : isC.map (fun i => ws[i]?) = wc.map some) (hR : isR.map (fun i => ws[i]?) = wr.map some) (hn : va_nd isR = true) (hdis : ∀ i ∈ isR, i ∉ isC) (hW1 : ∀ q, wr ++ wsr q = W1 q)
    (kk : ∀ (q : Nat → Nat) (H1 : Heap) (locs1 : List Loc) (q9 : Addr) (ce : Cell), va_P D vwCl (W1 q) H1 → va_D A (W1 q) → va_S A s.heap H1 locs1 → H1[q9]? = some ce → ce.vm = .none → s.vm.findClass E = some ce.cls → vx_W p l e R s m args below meth c H1 locs1 (cells + mc) (slots + ms) Q (F0 m pc ls rest) q9) : W p l e R s m args below meth c H locs cells slots Q (F0 m pc ls st0) := by
  intro T hT X
  rcases hr T hT X with ⟨v, st₀, t, T', L, h0, X', hL, e1, e2, hf, st⟩ | ⟨q9, st₀, t, T', L, E', ce, h0, X', hL, e1, e2, ⟨rfl, ⟨q, hp, hd⟩, hz, hk⟩, hce, hcv, hcl, st⟩
  · exact hf.elim
  · rw [h0] at hz hk
    have hF := va_free hD hS hA isC hC
    have hk1 : ∀ q, q < H.size → ¬ va_A wc H.size q → T'.heap[q]? = H[q]? := fun q h1 h2 => by rw [e1]; exact hk q h1 h2
    obtain ⟨hP1, hD1⟩ := va_join hP hD isC isR hC hR hn hdis hk1 hF (by rw [e1]; exact hp) hd
    rw [hW1 q] at hP1 hD1
    obtain ⟨t2, a1, b1⟩ := kk q T'.heap (locs ++ L) q9 ce hP1 hD1 ⟨Nat.le_trans hS.1 (by rw [e1]; exact hz), fun q h1 h2 => by rw [e1, hk q (Nat.lt_of_lt_of_le h1 hS.1) (fun z => h2 (hF q z))]; exact hS.2.1 q h1 h2, fun q hq => by
      rcases List.mem_append.mp hq with h | h
      · exact hS.2.2 q h
      · exact hF _ (hL q h)⟩ (by rw [e1]; exact hce) hcv hcl T' rfl X'
    exact ⟨t2, st.trans a1, b1⟩
abbrev CF (p : Program) (m : MethodId) (c : Code) (cc : ByteArray) (nL : Nat) (s : State) (args : Array Value) (own : String) : Prop := CallFix p m c cc nL s args GW own
theorem ct_V (S : CF p m c cc nL s args own) (hl : ls.size = nL) (hP : va_P D vwCl ws H) (hD : va_D A ws) (hS : va_S A s.heap H locs) (hA : ∀ q, s.heap.size ≤ q → A q) (hK : va_K D vwCl (TYS cA) s) (hGV : GV g A s s.heap)
    (hM : CT l y b n ret R' D cA g (.ref a :: As) wc rv wsr) (go : GoodIn GW (wsV own idx C y (.code y b n ret :: GW))) (hd : y.cls = C ∧ y.cls ≠ "java/lang/invoke/MethodHandle" ∧ y.cls ≠ "java/lang/invoke/VarHandle" ∧ (parseMethodDescriptor y.desc).map (fun d => d.parameters.length) = some As.length)
    (hR' : R'.frames + 1 ≤ R.frames ∧ 8 + (n + 11) + R'.locals ≤ R.locals) (hcs : cells + R'.cells ≤ R.cells ∧ slots + R'.slots ≤ R.slots) (hrc : ∃ cell : Cell, H[a]? = some cell ∧ cell.vm.isStatics = false ∧ s.vm.findClass C = some cell.cls)
    (d : decode cc pc = .ok (.invokevirtual idx, 3)) (hst : st0 = As.reverse ++ .ref a :: rest) (hW : (rest.map fun v => v.category).sum ≤ 8)
    (isC isR : List Nat) (hC : isC.map (fun i => ws[i]?) = wc.map some) (hnC : va_nd isC = true) (hR : isR.map (fun i => ws[i]?) = wr.map some) (hn : va_nd isR = true) (hdis : ∀ i ∈ isR, i ∉ isC) (W1 : (Nat → Nat) → va_W) (hW1 : ∀ q, wr ++ wsr q = W1 q)
    (kk : ∀ (q : Nat → Nat) (H1 : Heap) (locs1 : List Loc), va_P D vwCl (W1 q) H1 → va_D A (W1 q) → va_S A s.heap H1 locs1 → W p l e R s m args below meth c H1 locs1 (cells + R'.cells) (slots + R'.slots) Q (F0 m (pc + 3) ls ((rv q).toList ++ rest))) : W p l e R s m args below meth c H locs cells slots Q (F0 m pc ls st0) :=
  ct_go (va_runV S (hM H.size) (cwV As.length S.2.2.2.2 go rfl rfl rfl hd hR') ⟨PcG.blind _ _ _ _ _ _, hrc, pc_of hP hD hS hA hK hGV isC hC hnC⟩ rfl rfl hl hst (lv_room hW) d hcs) hP hD hS hA isC isR hC hR hn hdis hW1 kk
theorem ct_S (S : CF p m c cc nL s args own) (hl : ls.size = nL) (hP : va_P D vwCl ws H) (hD : va_D A ws) (hS : va_S A s.heap H locs) (hA : ∀ q, s.heap.size ≤ q → A q) (hK : va_K D vwCl (TYS cA) s) (hGV : GV g A s s.heap)
    (hM : CT l y b n ret R' D cA g As wc rv wsr) (go : GoodIn GW (va_wsS own idx y (.code y b n ret :: GW))) (hd : y.cls ≠ "java/lang/invoke/MethodHandle" ∧ y.cls ≠ "java/lang/invoke/VarHandle" ∧ (parseMethodDescriptor y.desc).map (fun d => d.parameters.length) = some As.length)
    (hR' : R'.frames + 1 ≤ R.frames ∧ 8 + (n + 11) + R'.locals ≤ R.locals) (hcs : cells + R'.cells ≤ R.cells ∧ slots + R'.slots ≤ R.slots)
    (d : decode cc pc = .ok (.invokestatic idx, 3)) (hst : st0 = As.reverse ++ rest) (hW : (rest.map fun v => v.category).sum ≤ 8)
    (isC isR : List Nat) (hC : isC.map (fun i => ws[i]?) = wc.map some) (hnC : va_nd isC = true) (hR : isR.map (fun i => ws[i]?) = wr.map some) (hn : va_nd isR = true) (hdis : ∀ i ∈ isR, i ∉ isC) (W1 : (Nat → Nat) → va_W) (hW1 : ∀ q, wr ++ wsr q = W1 q)
    (kk : ∀ (q : Nat → Nat) (H1 : Heap) (locs1 : List Loc), va_P D vwCl (W1 q) H1 → va_D A (W1 q) → va_S A s.heap H1 locs1 → W p l e R s m args below meth c H1 locs1 (cells + R'.cells) (slots + R'.slots) Q (F0 m (pc + 3) ls ((rv q).toList ++ rest))) : W p l e R s m args below meth c H locs cells slots Q (F0 m pc ls st0) :=
  ct_go (va_runS S (hM H.size) (va_cwS As.length S.2.2.2.2 go rfl rfl rfl hd hR') ⟨PcG.blind _ _ _ _ _ _, pc_of hP hD hS hA hK hGV isC hC hnC⟩ rfl rfl hl hst (lv_room hW) d hcs) hP hD hS hA isC isR hC hR hn hdis hW1 kk
theorem ct_SW (S : CF p m c cc nL s args own) (hl : ls.size = nL) (hP : va_P D vwCl ws H) (hD : va_D A ws) (hS : va_S A s.heap H locs) (hA : ∀ q, s.heap.size ≤ q → A q) (hK : va_K D vwCl (TYS cA) s) (hGV : GV g A s s.heap)
    (hM : CW l y b n ret hh R' D cA g As wc rv wsr) (go : GoodIn GW (va_wsS own idx y (.codeWith y b n ret hh :: GW))) (hd : y.cls ≠ "java/lang/invoke/MethodHandle" ∧ y.cls ≠ "java/lang/invoke/VarHandle" ∧ (parseMethodDescriptor y.desc).map (fun d => d.parameters.length) = some As.length)
    (hR' : R'.frames + 1 ≤ R.frames ∧ 8 + (n + 11) + R'.locals ≤ R.locals) (hcs : cells + R'.cells ≤ R.cells ∧ slots + R'.slots ≤ R.slots)
    (d : decode cc pc = .ok (.invokestatic idx, 3)) (hst : st0 = As.reverse ++ rest) (hW : (rest.map fun v => v.category).sum ≤ 8)
    (isC isR : List Nat) (hC : isC.map (fun i => ws[i]?) = wc.map some) (hnC : va_nd isC = true) (hR : isR.map (fun i => ws[i]?) = wr.map some) (hn : va_nd isR = true) (hdis : ∀ i ∈ isR, i ∉ isC) (W1 : (Nat → Nat) → va_W) (hW1 : ∀ q, wr ++ wsr q = W1 q)
    (kk : ∀ (q : Nat → Nat) (H1 : Heap) (locs1 : List Loc), va_P D vwCl (W1 q) H1 → va_D A (W1 q) → va_S A s.heap H1 locs1 → W p l e R s m args below meth c H1 locs1 (cells + R'.cells) (slots + R'.slots) Q (F0 m (pc + 3) ls ((rv q).toList ++ rest))) : W p l e R s m args below meth c H locs cells slots Q (F0 m pc ls st0) :=
  ct_go (vx_runSW S (hM H.size) (vx_cwSW As.length S.2.2.2.2 go rfl rfl rfl hd hR') ⟨PcG.blind _ _ _ _ _ _, pc_of hP hD hS hA hK hGV isC hC hnC⟩ rfl rfl hl hst (lv_room hW) d hcs) hP hD hS hA isC isR hC hR hn hdis hW1 kk
theorem ct_I (S : CF p m c cc nL s args own) (hl : ls.size = nL) (hP : va_P D vwCl ws H) (hD : va_D A ws) (hS : va_S A s.heap H locs) (hA : ∀ q, s.heap.size ≤ q → A q) (hK : va_K D vwCl (TYS cA) s) (hGV : GV g A s s.heap)
    (hM : CT l y b n none R' D cA g (.ref a :: As) wc rv wsr) (h1 : Cond.methodLink own idx y ∈ GW) (h2 : Cond.instanceMethod y ∈ GW) (h3 : Cond.initialized y.cls ∈ GW) (h4 : Cond.code y b n none ∈ GW) (hy : y.name = "<init>") (hd : y.cls ≠ "java/lang/invoke/MethodHandle" ∧ y.cls ≠ "java/lang/invoke/VarHandle" ∧ (parseMethodDescriptor y.desc).map (fun d => d.parameters.length) = some As.length)
    (hR' : R'.frames + 1 ≤ R.frames ∧ 8 + (n + 11) + R'.locals ≤ R.locals) (hcs : cells + R'.cells ≤ R.cells ∧ slots + R'.slots ≤ R.slots)
    (d : decode cc pc = .ok (.invokespecial idx, 3)) (hst : st0 = As.reverse ++ .ref a :: rest) (hW : (rest.map fun v => v.category).sum ≤ 8)
    (isC isR : List Nat) (hC : isC.map (fun i => ws[i]?) = wc.map some) (hnC : va_nd isC = true) (hR : isR.map (fun i => ws[i]?) = wr.map some) (hn : va_nd isR = true) (hdis : ∀ i ∈ isR, i ∉ isC) (W1 : (Nat → Nat) → va_W) (hW1 : ∀ q, wr ++ wsr q = W1 q)
    (kk : ∀ (q : Nat → Nat) (H1 : Heap) (locs1 : List Loc), va_P D vwCl (W1 q) H1 → va_D A (W1 q) → va_S A s.heap H1 locs1 → W p l e R s m args below meth c H1 locs1 (cells + R'.cells) (slots + R'.slots) Q (F0 m (pc + 3) ls ((rv q).toList ++ rest))) : W p l e R s m args below meth c H locs cells slots Q (F0 m pc ls st0) :=
  ct_go (va_runI S (hM H.size) (cwI As.length S.2.2.2.2 (goC h4) rfl rfl rfl (S.2.2.2.2 _ h3) (S.2.2.2.2 _ h1) (S.2.2.2.2 _ h2) hy hd hR') ⟨PcG.blind _ _ _ _ _ _, pc_of hP hD hS hA hK hGV isC hC hnC⟩ rfl rfl hl hst (lv_room hW) d hcs) hP hD hS hA isC isR hC hR hn hdis hW1 kk
theorem ct_IN {host : String} (S : CF p m c cc nL s args own) (hl : ls.size = nL) (hP : va_P D vwCl ws H) (hD : va_D A ws) (hS : va_S A s.heap H locs) (hA : ∀ q, s.heap.size ≤ q → A q) (hK : va_K D vwCl (TYS cA) s) (hGV : GV g A s s.heap)
    (hM : CT l y b n none R' D cA g (.ref a :: As) wc rv wsr) (h1 : Cond.methodLinkNest own idx y host ∈ NW) (h2 : Cond.instanceMethod y ∈ GW) (h3 : Cond.initialized y.cls ∈ GW) (h4 : Cond.code y b n none ∈ GW) (hy : y.name = "<init>") (hd : y.cls ≠ "java/lang/invoke/MethodHandle" ∧ y.cls ≠ "java/lang/invoke/VarHandle" ∧ (parseMethodDescriptor y.desc).map (fun d => d.parameters.length) = some As.length)
    (hR' : R'.frames + 1 ≤ R.frames ∧ 8 + (n + 11) + R'.locals ≤ R.locals) (hcs : cells + R'.cells ≤ R.cells ∧ slots + R'.slots ≤ R.slots)
    (d : decode cc pc = .ok (.invokespecial idx, 3)) (hst : st0 = As.reverse ++ .ref a :: rest) (hW : (rest.map fun v => v.category).sum ≤ 8)
    (isC isR : List Nat) (hC : isC.map (fun i => ws[i]?) = wc.map some) (hnC : va_nd isC = true) (hR : isR.map (fun i => ws[i]?) = wr.map some) (hn : va_nd isR = true) (hdis : ∀ i ∈ isR, i ∉ isC) (W1 : (Nat → Nat) → va_W) (hW1 : ∀ q, wr ++ wsr q = W1 q)
    (kk : ∀ (q : Nat → Nat) (H1 : Heap) (locs1 : List Loc), va_P D vwCl (W1 q) H1 → va_D A (W1 q) → va_S A s.heap H1 locs1 → W p l e R s m args below meth c H1 locs1 (cells + R'.cells) (slots + R'.slots) Q (F0 m (pc + 3) ls ((rv q).toList ++ rest))) : W p l e R s m args below meth c H locs cells slots Q (F0 m pc ls st0) :=
  ct_go (va_runIN S (hM H.size) ⟨va_cnB As.length S.2.2.2.2 (goC h4) rfl rfl rfl (hGV.2.2.2.2.1 _ h1) (S.2.2.2.2 _ h3) hd hR', hy, S.2.2.2.2 _ h2⟩ ⟨PcG.blind _ _ _ _ _ _, pc_of hP hD hS hA hK hGV isC hC hnC⟩ rfl rfl hl hst (lv_room hW) d hcs) hP hD hS hA isC isR hC hR hn hdis hW1 kk
theorem cx_V (S : CF p m c cc nL s args own) (hl : ls.size = nL) (hP : va_P D vwCl ws H) (hD : va_D A ws) (hS : va_S A s.heap H locs) (hA : ∀ q, s.heap.size ≤ q → A q) (hK : va_K D vwCl (TYS cA) s) (hGV : GV g A s s.heap)
    (hM : CX l y b n ret R' D cA g (.ref a :: As) wc E wsr) (go : GoodIn GW (wsV own idx C y (.code y b n ret :: GW))) (hd : y.cls = C ∧ y.cls ≠ "java/lang/invoke/MethodHandle" ∧ y.cls ≠ "java/lang/invoke/VarHandle" ∧ (parseMethodDescriptor y.desc).map (fun d => d.parameters.length) = some As.length)
    (hR' : R'.frames + 1 ≤ R.frames ∧ 8 + (n + 11) + R'.locals ≤ R.locals) (hcs : cells + R'.cells ≤ R.cells ∧ slots + R'.slots ≤ R.slots) (hrc : ∃ cell : Cell, H[a]? = some cell ∧ cell.vm.isStatics = false ∧ s.vm.findClass C = some cell.cls)
    (d : decode cc pc = .ok (.invokevirtual idx, 3)) (hst : st0 = As.reverse ++ .ref a :: rest) (hW : (rest.map fun v => v.category).sum ≤ 8)
    (isC isR : List Nat) (hC : isC.map (fun i => ws[i]?) = wc.map some) (hnC : va_nd isC = true) (hR : isR.map (fun i => ws[i]?) = wr.map some) (hn : va_nd isR = true) (hdis : ∀ i ∈ isR, i ∉ isC) (W1 : (Nat → Nat) → va_W) (hW1 : ∀ q, wr ++ wsr q = W1 q)
    (kk : ∀ (q : Nat → Nat) (H1 : Heap) (locs1 : List Loc) (q9 : Addr) (ce : Cell), va_P D vwCl (W1 q) H1 → va_D A (W1 q) → va_S A s.heap H1 locs1 → H1[q9]? = some ce → ce.vm = .none → s.vm.findClass E = some ce.cls → vx_W p l e R s m args below meth c H1 locs1 (cells + R'.cells) (slots + R'.slots) Q (F0 m pc ls rest) q9) : W p l e R s m args below meth c H locs cells slots Q (F0 m pc ls st0) :=
  cx_go (vx_runV S (hM H.size) (cwV As.length S.2.2.2.2 go rfl rfl rfl hd hR') ⟨PcG.blind _ _ _ _ _ _, hrc, pc_of hP hD hS hA hK hGV isC hC hnC⟩ rfl rfl hl hst (lv_room hW) d hcs) hP hD hS hA isC isR hC hR hn hdis hW1 kk
/-! ends -/
variable {ws' : (Nat → Nat) → va_W} {mc ms : Nat}
theorem e_i (q : Nat → Nat) {v : Int32} {ty : FieldType} (hx : p.tables.exec = Jvm.exec) (hb : c.code = cc) (hr : meth.sig.returnType = some ty) (hlocks : meth.locks = false) (hrv : rv q = some (.int v)) (hn : narrow ty (.int v) = .int v) (hP : va_P D vwCl (ws' q) H) (hD : va_D A (ws' q)) (hS : va_S A s.heap H locs) (hc : cells ≤ mc) (hs : slots ≤ ms) (d : decode cc pc = .ok (.ireturn, 1)) :
    W p l e R s m args below meth c H locs cells slots (MQ below (QcG D A rv ws') args s mc ms A) (F0 m pc ls [.int v]) :=
  W.widen hc hs (W.zret hx hb hr hn (fun t ht _ => ⟨⟨q, by rw [hrv], by rw [ht]; exact hP, hD⟩, hS.F ht⟩) hS.2.2 d hlocks)
theorem e_l (q : Nat → Nat) {v : Int64} (hx : p.tables.exec = Jvm.exec) (hb : c.code = cc) (hr : meth.sig.returnType = some .long) (hlocks : meth.locks = false) (hrv : rv q = some (.long v)) (hP : va_P D vwCl (ws' q) H) (hD : va_D A (ws' q)) (hS : va_S A s.heap H locs) (hc : cells ≤ mc) (hs : slots ≤ ms) (d : decode cc pc = .ok (.lreturn, 1)) :
    W p l e R s m args below meth c H locs cells slots (MQ below (QcG D A rv ws') args s mc ms A) (F0 m pc ls [.long v]) :=
  W.widen hc hs (W.lret hx hb hr (fun t ht _ => ⟨⟨q, by rw [hrv], by rw [ht]; exact hP, hD⟩, hS.F ht⟩) hS.2.2 d hlocks)
theorem e_f (q : Nat → Nat) {v : UInt32} (hx : p.tables.exec = Jvm.exec) (hb : c.code = cc) (hr : meth.sig.returnType = some .float) (hlocks : meth.locks = false) (hrv : rv q = some (.float v)) (hP : va_P D vwCl (ws' q) H) (hD : va_D A (ws' q)) (hS : va_S A s.heap H locs) (hc : cells ≤ mc) (hs : slots ≤ ms) (d : decode cc pc = .ok (.freturn, 1)) :
    W p l e R s m args below meth c H locs cells slots (MQ below (QcG D A rv ws') args s mc ms A) (F0 m pc ls [.float v]) :=
  W.widen hc hs (W.fret hx hb hr (fun t ht _ => ⟨⟨q, by rw [hrv], by rw [ht]; exact hP, hD⟩, hS.F ht⟩) hS.2.2 d hlocks)
theorem e_d (q : Nat → Nat) {v : UInt64} (hx : p.tables.exec = Jvm.exec) (hb : c.code = cc) (hr : meth.sig.returnType = some .double) (hlocks : meth.locks = false) (hrv : rv q = some (.double v)) (hP : va_P D vwCl (ws' q) H) (hD : va_D A (ws' q)) (hS : va_S A s.heap H locs) (hc : cells ≤ mc) (hs : slots ≤ ms) (d : decode cc pc = .ok (.dreturn, 1)) :
    W p l e R s m args below meth c H locs cells slots (MQ below (QcG D A rv ws') args s mc ms A) (F0 m pc ls [.double v]) :=
  W.widen hc hs (W.dret hx hb hr (fun t ht _ => ⟨⟨q, by rw [hrv], by rw [ht]; exact hP, hD⟩, hS.F ht⟩) hS.2.2 d hlocks)
theorem e_v (q : Nat → Nat) (hx : p.tables.exec = Jvm.exec) (hb : c.code = cc) (hr : meth.sig.returnType = none) (hlocks : meth.locks = false) (hrv : rv q = none) (hP : va_P D vwCl (ws' q) H) (hD : va_D A (ws' q)) (hS : va_S A s.heap H locs) (hc : cells ≤ mc) (hs : slots ≤ ms) (d : decode cc pc = .ok (.return_, 1)) :
    W p l e R s m args below meth c H locs cells slots (MQ below (QcG D A rv ws') args s mc ms A) (F0 m pc ls []) :=
  W.widen hc hs (W.vret hx hb hr (fun t ht _ => ⟨⟨q, by rw [hrv], by rw [ht]; exact hP, hD⟩, hS.F ht⟩) hS.2.2 d hlocks)
theorem e_r (q : Nat → Nat) {v : Nat} {rt : FieldType} (hx : p.tables.exec = Jvm.exec) (hb : c.code = cc) (hr : meth.sig.returnType = some rt) (hrt : (∃ n, rt = .object n) ∨ ∃ t, rt = .array t) (hlocks : meth.locks = false) (hrv : rv q = some (.ref v)) (hP : va_P D vwCl (ws' q) H) (hD : va_D A (ws' q)) (hS : va_S A s.heap H locs) (hc : cells ≤ mc) (hs : slots ≤ ms) (d : decode cc pc = .ok (.areturn, 1)) :
    W p l e R s m args below meth c H locs cells slots (MQ below (QcG D A rv ws') args s mc ms A) (F0 m pc ls [.ref v]) :=
  W.widen hc hs (W.aret hx hb hr hrt (Or.inr ⟨v, rfl⟩) (fun t ht _ => ⟨⟨q, by rw [hrv], by rw [ht]; exact hP, hD⟩, hS.F ht⟩) hS.2.2 d hlocks)
/-- a throw leaves the method -/
theorem e_out (q : Nat → Nat) {q9 : Addr} {ce : Cell} (htab : ∀ x ∈ c.exceptionTable.toList, False) (hlocks : meth.locks = false) (h9 : H[q9]? = some ce) (hv : ce.vm = .none) (hcl : s.vm.findClass E = some ce.cls) (hP : va_P D vwCl (ws' q) H) (hD : va_D A (ws' q)) (hS : va_S A s.heap H locs) (hc : cells ≤ mc) (hs : slots ≤ ms) :
    vx_W p l e R s m args below meth c H locs cells slots (vx_MQ below (fun _ _ _ _ => False) (XcG D A E ws') args s mc ms A) (F0 m pc ls rest) q9 :=
  vx_out (fun x hx => (htab x hx).elim) hlocks h9 hv hcl (fun t ht _ => ⟨rfl, ⟨q, by rw [ht]; exact hP, hD⟩, hS.F ht⟩) hS.2.2 hc hs
theorem e_throw (q : Nat → Nat) {text : String} {ik is ic : Nat} {names : List String} (i : Nat) (hx : p.tables.exec = Jvm.exec) (hb : c.code = cc) (hfl : l.stackTraces = false) (hown : s.vm.findClass own = some m.cls) (hG : ∀ w ∈ GW, w.before args s = true) (hGV : GV g A s s.heap) (htab : ∀ x ∈ c.exceptionTable.toList, False) (hlocks : meth.locks = false) (hlz : ls.size = c.maxLocals)
    (hcls : Bundle.fit E = true) (hnames : ∀ n ∈ names, Bundle.fit n = true) (hk : Cond.classLink own ik E ∈ GW) (hini : Cond.initialized E ∈ GW) (hi : STR[i]? = some (own, is, text)) (hat : ∀ w ∈ vx_atS own ic E names, w ∈ lw_tbl ∧ (goodWord w || nwWord w) = true)
    (hP : va_P D vwCl (ws' q) H) (hD : va_D A (ws' q)) (hS : va_S A s.heap H locs)
    (d0 : decode cc pc = .ok (.new ik, 3)) (d3 : decode cc (pc + 3) = .ok (.dup, 1)) (d4 : decode cc (pc + 4) = .ok (.ldc is, 2)) (d6 : decode cc (pc + 6) = .ok (.invokespecial ic, 3)) (d9 : decode cc (pc + 9) = .ok (.athrow, 1))
    (hRf : names.length + 3 < R.frames) (hRl : (rest.map fun v => v.category).sum + (13 * (names.length + 1) + 43) ≤ R.locals) (hRc : cells + 1 ≤ R.cells) (hRs : slots + 6 ≤ R.slots) (hc : cells + 1 ≤ mc) (hs : slots + 6 ≤ ms) :
    W p l e R s m args below meth c H locs cells slots (vx_MQ below (fun _ _ _ _ => False) (XcG D A E ws') args s mc ms A) (F0 m pc ls rest) := by
  have hat2 : ∀ w ∈ vx_atS own ic E names, w.before args s = true := by
    intro w hw
    obtain ⟨h1, h2⟩ := hat w hw
    rcases Bool.or_eq_true_iff.mp h2 with h | h
    · exact hG w (List.mem_filter.mpr ⟨h1, h⟩)
    · exact va_Nw.use (nw_tab h) (hGV.2.2.2.2.1 w (List.mem_filter.mpr ⟨h1, h⟩))
  have hgood : ∀ w ∈ Cond.classLink own ik E :: Cond.initialized E :: vx_atS own ic E names, vx_ot w = true := by
    intro w hw
    rcases List.mem_cons.mp hw with rfl | hw
    · rfl
    · rcases List.mem_cons.mp hw with rfl | hw
      · rfl
      · rcases Bool.or_eq_true_iff.mp (hat w hw).2 with h | h
        · unfold vx_ot; rw [h]; exact Bool.or_true _
        · unfold vx_ot; rw [nw_tab h]; rfl
  refine vx_throwS hx hb hfl hown hcls hnames (hG _ hk) (hG _ hini) (hGV.2.2.2.1 i _ hi) hat2 hgood hGV.1.1 hGV.1.2 hS hlz d0 d3 d4 d6 d9 (fun x hx => (htab x hx).elim) hRf hRl hRc hRs hlocks ?_ hS.2.2 hc hs
  intro t ht hz hk9
  refine ⟨rfl, ⟨q, hP.kept (fun k z hz9 => hk9 _ (hP k z hz9).lt), hD⟩, Nat.le_trans hS.1 hz, fun x h1 h2 => ?_⟩
  rw [hk9 x (Nat.lt_of_lt_of_le h1 hS.1)]
  exact hS.2.1 x h1 h2
theorem e_throwW (q : Nat → Nat) {text : String} {ik is ic : Nat} {names : List String} (i : Nat) (hx : p.tables.exec = Jvm.exec) (hb : c.code = cc) (hfl : l.stackTraces = false) (hown : s.vm.findClass own = some m.cls) (hG : ∀ w ∈ GW, w.before args s = true) (hGV : GV g A s s.heap) (htab : ∀ x ∈ c.exceptionTable.toList, False) (hlocks : meth.locks = false) (hlz : ls.size = c.maxLocals)
    (hcls : Bundle.fit E = true) (hnames : ∀ n ∈ names, Bundle.fit n = true) (hk : Cond.classLink own ik E ∈ GW) (hini : Cond.initialized E ∈ GW) (hi : STR[i]? = some (own, is, text)) (hat : ∀ w ∈ vx_atS own ic E names, w ∈ lw_tbl ∧ (goodWord w || nwWord w) = true)
    (hP : va_P D vwCl (ws' q) H) (hD : va_D A (ws' q)) (hS : va_S A s.heap H locs)
    (d0 : decode cc pc = .ok (.new ik, 3)) (d3 : decode cc (pc + 3) = .ok (.dup, 1)) (d4 : decode cc (pc + 4) = .ok (.ldc_w is, 3)) (d7 : decode cc (pc + 7) = .ok (.invokespecial ic, 3)) (d10 : decode cc (pc + 10) = .ok (.athrow, 1))
    (hRf : names.length + 3 < R.frames) (hRl : (rest.map fun v => v.category).sum + (13 * (names.length + 1) + 43) ≤ R.locals) (hRc : cells + 1 ≤ R.cells) (hRs : slots + 6 ≤ R.slots) (hc : cells + 1 ≤ mc) (hs : slots + 6 ≤ ms) :
    W p l e R s m args below meth c H locs cells slots (vx_MQ below (fun _ _ _ _ => False) (XcG D A E ws') args s mc ms A) (F0 m pc ls rest) := by
  have hat2 : ∀ w ∈ vx_atS own ic E names, w.before args s = true := by
    intro w hw
    obtain ⟨h1, h2⟩ := hat w hw
    rcases Bool.or_eq_true_iff.mp h2 with h | h
    · exact hG w (List.mem_filter.mpr ⟨h1, h⟩)
    · exact va_Nw.use (nw_tab h) (hGV.2.2.2.2.1 w (List.mem_filter.mpr ⟨h1, h⟩))
  have hgood : ∀ w ∈ Cond.classLink own ik E :: Cond.initialized E :: vx_atS own ic E names, vx_ot w = true := by
    intro w hw
    rcases List.mem_cons.mp hw with rfl | hw
    · rfl
    · rcases List.mem_cons.mp hw with rfl | hw
      · rfl
      · rcases Bool.or_eq_true_iff.mp (hat w hw).2 with h | h
        · unfold vx_ot; rw [h]; exact Bool.or_true _
        · unfold vx_ot; rw [nw_tab h]; rfl
  refine vx_throwSW hx hb hfl hown hcls hnames (hG _ hk) (hG _ hini) (hGV.2.2.2.1 i _ hi) hat2 hgood hGV.1.1 hGV.1.2 hS hlz d0 d3 d4 d7 d10 (fun x hx => (htab x hx).elim) hRf hRl hRc hRs hlocks ?_ hS.2.2 hc hs
  intro t ht hz hk9
  refine ⟨rfl, ⟨q, hP.kept (fun k z hz9 => hk9 _ (hP k z hz9).lt), hD⟩, Nat.le_trans hS.1 hz, fun x h1 h2 => ?_⟩
  rw [hk9 x (Nat.lt_of_lt_of_le h1 hS.1)]
  exact hS.2.1 x h1 h2
end KC
end
section
/-! A throw of a class whose own constructor calls its superclass's by another entry than 7 (java/util/NoSuchElementException: 13). ns_ctor goes the library's way of JvmDerived/BundleOwnThrow.lean (ctorThrowS), e_throwN the kit's of vx_throwS, with the first step of the chain by its own entry and bytes. -/
def nsTail (own : String) (ic : Nat) (X : String) : List Cond := (Bundle.ownAtoms own ic X []).drop ((Bundle.throwableAtoms ++ Bundle.throwableSAtoms ++ Bundle.chainSAtoms X []).length)
def nsAll (own : String) (ic : Nat) (X Y : String) (idx : Nat) (bs : ByteArray) (names : List String) : List Cond :=
  (Bundle.throwableAtoms ++ Bundle.throwableSAtoms) ++ ((Bundle.passSAtoms X Y idx bs ++ Bundle.chainSAtoms Y names) ++ nsTail own ic X)
section NSX
variable {p : Program} {l : Launch} {e : Env} {R : Room} {s : State} {m₀ : MethodId} {args : Array Value} {below : List Frame} {meth : Method} {c : Code} {W : State} {locs : List Loc} {cells slots : Nat}
set_option maxHeartbeats 4000000 in
theorem ns_ctor (X : Stand p l e R s m₀ args below meth c W locs cells slots) (hexec : p.tables.exec = Jvm.exec) (htr : e.platform.stackTraces = false) {own cls Y0 : String} {names : List String} {ic idx : Nat} {bs : ByteArray}
    (hown : s.vm.findClass own = some m₀.cls) (hcls : Bundle.fit cls = true) (hY0 : Bundle.fit Y0 = true) (hnames : ∀ n ∈ names, Bundle.fit n = true)
    (b0 : decode bs 0 = .ok (.aload_n 0, 1)) (b1 : decode bs 1 = .ok (.aload_n 1, 1)) (b2 : decode bs 2 = .ok (.invokespecial idx, 3)) (b5 : decode bs 5 = .ok (.return_, 1))
    (h : ∀ a ∈ nsAll own ic cls Y0 idx bs names, a.before args s = true)
    (hlocs : ∀ x ∈ locs, ∀ cell, s.heap[x.base]? = some cell → cell.vm.isStatics = false)
    {a : Addr} {cX : ClassId} {kX : Class} (hfoundX : s.vm.findClass cls = some cX) (hkX : s.vm.classes[cX]? = some kX) (hcell : W.heap[a]? = some (freshCell cX kX)) (hnew : s.heap.size ≤ a)
    {msg : Value} (hmsg : msg.isRef = true)
    {g : JFrame} (hg : g.method = m₀) (hsize : g.locals.size = c.maxLocals) (hlocked : g.locked = none) (hentered : g.entered = []) {rest : List Value} (hstack : g.stack = msg :: .ref a :: .ref a :: rest)
    (hd6 : decode c.code g.pc = .ok (.invokespecial ic, 3)) (hd9 : decode c.code (g.pc + 3) = .ok (.athrow, 1)) (hout : ∀ x ∈ c.exceptionTable.toList, covers x (g.pc + 3) = false)
    (hRframes : names.length + 4 < R.frames) (hRlocals : 2 * g.monitorRoom + ((Value.ref a :: rest).map fun v => v.category).sum + (13 * (names.length + 2) + 42) ≤ R.locals) (hlocks : meth.locks = false) :
    ∃ U : State, Steps p.tables e below (W.setTop g) U ∧ U.status = .running ∧ Ended U below (.threw a) ∧ s.WarmedH U.vm ∧ s.sameButNew ({ U with vm := s.vm } : State) locs cells slots ∧
      ∃ ce, U.heap[a]? = some ce ∧ ce.vm = .none ∧ s.vm.findClass cls = some ce.cls := by
  have howns : e.platform.frameOwnsMonitors = true := by rw [X.admits.platform]
  have hfin : e.platform.finalization = false := by rw [X.admits.platform]
  have hpl : e.platform.magicAccessors = ({} : Platform).magicAccessors := by rw [X.admits.platform]
  have hTh : ∀ x ∈ Bundle.throwableAtoms, x.before args s = true := fun x hx => h x (List.mem_append_left _ (List.mem_append_left _ hx))
  have hTS : ∀ x ∈ Bundle.throwableSAtoms, x.before args s = true := fun x hx => h x (List.mem_append_left _ (List.mem_append_right _ hx))
  have hPA : ∀ x ∈ Bundle.passSAtoms cls Y0 idx bs, x.before args s = true := fun x hx => h x (List.mem_append_right _ (List.mem_append_left _ (List.mem_append_left _ hx)))
  have hCH : ∀ x ∈ Bundle.chainSAtoms Y0 names, x.before args s = true := fun x hx => h x (List.mem_append_right _ (List.mem_append_left _ (List.mem_append_right _ hx)))
  have hTL : ∀ x ∈ nsTail own ic cls, x.before args s = true := fun x hx => h x (List.mem_append_right _ (List.mem_append_right _ hx))
  have a' : ∀ x, x ∈ nsTail own ic cls → x.holds args s none s [] = true := fun x hx => hTL x hx
  obtain ⟨T, Z0, L, -, Y⟩ := ThrowableC.of_atoms (args := args) howns hfin hpl hTh
  obtain ⟨Z, M, LZ, LM, hnZ⟩ := Init0T.ofS_atoms (args := args) hpl L Y hTS
  obtain ⟨P2, Ps, hlen, L2, hL, hP2m, hlink2, hlink⟩ := Bundle.chainS (args := args) hpl hnZ names Y0 hY0 hnames hCH
  obtain ⟨P1, L1, hP1m, hP1s⟩ := PassC.ofS_atoms (args := args) (s := s) hpl (X := cls) (Y := Y0) (Bundle.fit_spec hcls).1 (Bundle.fit_spec hY0).2 b0 b1 b2 b5 hPA
  have hlink1 : P1.sup = P2.m := Option.some.inj (hP1s.symm.trans hP2m)
  have hfound : s.vm.findClass cls = some P1.m.cls := findClass_of_methodNamed hP1m
  cases Option.some.inj (hfoundX.symm.trans hfound)
  obtain ⟨c1, kX', hc1, hk, hord, -, -, hn6⟩ := Cond.instantiable_spec (a' (.instantiable cls 6) (by simp [nsTail, Bundle.ownAtoms, Bundle.throwableAtoms, Bundle.throwableSAtoms, Bundle.chainSAtoms, Bundle.passSAtoms]))
  cases Option.some.inj (hc1.symm.trans hfound)
  cases Option.some.inj (hkX.symm.trans hk)
  have hsel0 : selectMethod e.platform s.vm P1.m.cls T.fill0 = .method T.fill0 := by
    obtain ⟨c2, r2, m2, q1, q2, q3, q4, -⟩ := Cond.selects_spec (a' (.selects cls Bundle.tFill0 Bundle.tFill0) (by simp [nsTail, Bundle.ownAtoms, Bundle.throwableAtoms, Bundle.throwableSAtoms, Bundle.chainSAtoms, Bundle.passSAtoms]))
    cases Option.some.inj (q1.symm.trans hfound)
    cases Option.some.inj (q2.symm.trans (State.methodFound?_of_named Y.fill0 (by decide)))
    cases Option.some.inj (q3.symm.trans Y.fill0)
    rw [Launch.admits_selectMethod X.admits]; exact q4
  have hselF : selectMethod e.platform s.vm P1.m.cls T.fill = .method T.fill := by
    obtain ⟨c2, r2, m2, q1, q2, q3, q4, -⟩ := Cond.selects_spec (a' (.selects cls Bundle.tFill Bundle.tFill) (by simp [nsTail, Bundle.ownAtoms, Bundle.throwableAtoms, Bundle.throwableSAtoms, Bundle.chainSAtoms, Bundle.passSAtoms]))
    cases Option.some.inj (q1.symm.trans hfound)
    cases Option.some.inj (q2.symm.trans (State.methodFound?_of_named Y.fill (by decide)))
    cases Option.some.inj (q3.symm.trans Y.fill)
    rw [Launch.admits_selectMethod X.admits]; exact q4
  obtain ⟨cellS0, hcS0, hiss⟩ := Y.statics
  obtain ⟨u0, hu0⟩ := Cond.staticRefV Y.unassigned L.unassignedStatic L.statics hcS0 hiss (a' (.isRef (.static Bundle.tN "UNASSIGNED_STACK" Bundle.steD)) (by simp [nsTail, Bundle.ownAtoms, Bundle.throwableAtoms, Bundle.throwableSAtoms, Bundle.chainSAtoms, Bundle.passSAtoms]))
  obtain ⟨sen, hsen⟩ := Cond.staticRefV Y.sentinel L.sentinelStatic L.statics hcS0 hiss (a' (.isRef (.static Bundle.tN "SUPPRESSED_SENTINEL" Bundle.listD)) (by simp [nsTail, Bundle.ownAtoms, Bundle.throwableAtoms, Bundle.throwableSAtoms, Bundle.chainSAtoms, Bundle.passSAtoms]))
  obtain ⟨ci198, i198, fB, hk198, hg198, ha198, hsB, -, hnB, htB, hffB⟩ := Cond.ownField (t := .object "java/lang/Object") Y.found L.cls (by decide +kernel) (a' (.fieldLink Bundle.tN 198 Bundle.tN "backtrace" "Ljava/lang/Object;") (by simp [nsTail, Bundle.ownAtoms, Bundle.throwableAtoms, Bundle.throwableSAtoms, Bundle.chainSAtoms, Bundle.passSAtoms])) (a' (.lays Bundle.tN Bundle.tN "backtrace" "Ljava/lang/Object;") (by simp [nsTail, Bundle.ownAtoms, Bundle.throwableAtoms, Bundle.throwableSAtoms, Bundle.chainSAtoms, Bundle.passSAtoms])) e.platform hpl
  obtain ⟨cellS, hcS', heS, -, hkeep⟩ := X.same.2.2.2.2.2 T.aS cellS0 hcS0
  have hcellS : W.heap[T.aS]? = some cellS := hcS'
  have hout' : ∀ i, (⟨T.aS, i⟩ : Loc) ∉ locs := fun i hmem => by
    have := hlocs _ hmem cellS0 hcS0
    rw [hiss] at this; cases this
  have hknownS : cellS.vm ≠ .unknown := by
    rw [heS]; intro hu
    rw [show cellS0.vm = .unknown from hu] at hiss
    cases hiss
  have hneS : T.aS ≠ a := Nat.ne_of_lt (Nat.lt_of_lt_of_le (Array.getElem?_eq_some_iff.mp hcS0).1 hnew)
  obtain ⟨iM, hffM⟩ := Y.msg
  obtain ⟨tyC, dC, hdC, hdnC⟩ := Cond.laysAt hfound hk Y.cause (a' (.lays cls Bundle.tN "cause" "Ljava/lang/Throwable;") (by simp [nsTail, Bundle.ownAtoms, Bundle.throwableAtoms, Bundle.throwableSAtoms, Bundle.chainSAtoms, Bundle.passSAtoms]))
  obtain ⟨tyS, dS, hdS, hdnS⟩ := Cond.laysAt hfound hk Y.stack (a' (.lays cls Bundle.tN "stackTrace" Bundle.steD) (by simp [nsTail, Bundle.ownAtoms, Bundle.throwableAtoms, Bundle.throwableSAtoms, Bundle.chainSAtoms, Bundle.passSAtoms]))
  obtain ⟨tyP, dP, hdP, hdnP⟩ := Cond.laysAt hfound hk Y.supp (a' (.lays cls Bundle.tN "suppressedExceptions" Bundle.listD) (by simp [nsTail, Bundle.ownAtoms, Bundle.throwableAtoms, Bundle.throwableSAtoms, Bundle.chainSAtoms, Bundle.passSAtoms]))
  obtain ⟨tyM, dM, hdM, hdnM⟩ := Cond.laysAt hfound hk hffM (a' (.lays cls Bundle.tN "detailMessage" "Ljava/lang/String;") (by simp [nsTail, Bundle.ownAtoms, Bundle.throwableAtoms, Bundle.throwableSAtoms, Bundle.chainSAtoms, Bundle.passSAtoms]))
  obtain ⟨tyB, dB, hdB, hdnB⟩ := Cond.laysAt hfound hk hffB (a' (.lays cls Bundle.tN "backtrace" "Ljava/lang/Object;") (by simp [nsTail, Bundle.ownAtoms, Bundle.throwableAtoms, Bundle.throwableSAtoms, Bundle.chainSAtoms, Bundle.passSAtoms]))
  have bC := Cond.laysApart hdB hdC hdnB hdnC (by rw [hnB, Y.causeName]; decide)
  have bS := Cond.laysApart hdB hdS hdnB hdnS (by rw [hnB, Y.stackName]; decide)
  have bP := Cond.laysApart hdB hdP hdnB hdnP (by rw [hnB, Y.suppName]; decide)
  have hskip : SkipFacts T e.platform s (fun u => u) u0 ((preparedCellV T.toThrowableT (freshCell P1.m.cls kX) a u0 sen).withEntry W.cur) :=
    ⟨{ ci198 := ci198, i198 := i198, fBack := fB }, ⟨hk198, hg198, ha198, hsB⟩, by
      have := fresh_default (c := P1.m.cls) tyB
      rw [htB] at this
      simpa [preparedCellV, Cell.setSlot, Cell.withEntry, Array.getElem?_setIfInBounds, bC, bS, bP, bC.symm, bS.symm, bP.symm, defaultValue] using this, fun _ _ => rfl⟩
  obtain ⟨tm, methC, cdC, kC, vm₁, hnC, -, -, -, -, -, -, -, hW₁, st1⟩ := Steps.initColdS (tb := p.tables) (e := e) (below := below) (s := s) (U := W) X.here hexec X.warmed hpl hown (t := Bundle.initS cls) rfl rfl (Bundle.fit_spec hcls).2
    (a' (.methodLink own ic (Bundle.initS cls)) (by simp [nsTail, Bundle.ownAtoms, Bundle.throwableAtoms, Bundle.throwableSAtoms, Bundle.chainSAtoms, Bundle.passSAtoms])) (hPA (.instanceMethod (Bundle.initS cls)) (by simp [Bundle.passSAtoms])) (bytes := bs) (maxL := 2) (hPA (.code (Bundle.initS cls) bs 2 none) (by simp [Bundle.passSAtoms]))
    (f := g) hg (a := a) (msg := msg) (rest := .ref a :: rest) hstack hd6
  cases Option.some.inj (hnC.symm.trans hP1m)
  have X₁ := X.noted hW₁
  obtain ⟨vm₂, X₂, st2⟩ := X₁.ctorMessageOffV hexec (g := { g with stack := .ref a :: rest }) hg hsize T L Z LZ M LM (P1 :: P2 :: Ps)
    (fun P hP => by
      rcases List.mem_cons.mp hP with rfl | hP
      · exact L1
      · rcases List.mem_cons.mp hP with rfl | hP
        · exact L2
        · exact hL P hP) ⟨hlink1, hlink2, hlink⟩ (u0 := u0) (sen := sen) (self := a) hmsg (cell := freshCell P1.m.cls kX) (cellS := cellS)
    hcell (fun _ => by simp) (by simp) rfl rfl hsel0 hselF hcellS hneS hknownS (by rw [hkeep _ (hout' _)]; exact hu0) (by rw [hkeep _ (hout' _)]; exact hsen)
    (Takes.of_laid hk hord tyC (by rw [Y.causeType]; rfl)) (Takes.of_laid hk hord tyS (by rw [Y.stackType]; exact fits_refV_array _ u0)) (Takes.of_laid hk hord tyP (by rw [Y.suppType]; exact fits_refV_object _ sen))
    (Takes.of_laid hk hord tyM (by rw [Y.msgType]; exact fits_refV_object _ ⟨msg, hmsg⟩)) Y.objLocals hskip htr [] hd6
    (by simp only [List.length_cons, hlen]; omega) (by simp only [List.length_cons, hlen]; exact hRlocals)
  obtain ⟨hwalk, hrun, hended, hWU, hsame⟩ := X₂.athrowLeaves hexec (g := { g with stack := .ref a :: rest, pc := g.pc + 3 }) hg hlocked hentered hout (a := a) (rest := rest) rfl hd9
  have hlt : a < ((W.setVm vm₁).setVm vm₂).heap.size := (Array.getElem?_eq_some_iff.mp hcell).1
  have hU := heapAt_setCell_self (s := (W.setVm vm₁).setVm vm₂) (plainBareV T.toThrowableT (freshCell P1.m.cls kX) a u0 sen msg) hlt
  refine ⟨_, st1 _ (fun acts => ?_), hrun, hended, hWU, hsame.weaken (fun y hy hlt' => ?_) (Nat.le_refl _) (Nat.le_refl _), _, hU, rfl, hfound⟩
  · rw [doInvoke_state]
    exact st2 _ hwalk
  · rcases List.mem_append.mp hy with h1 | h1
    · exact h1
    · exfalso
      have hb : y.base = a := by
        simp only [List.mem_cons, List.not_mem_nil, or_false] at h1
        rcases h1 with rfl | rfl | rfl | rfl | rfl <;> rfl
      rw [hb] at hlt'
      exact Nat.not_lt.mpr hnew hlt'
end NSX
section KN
variable {p : Program} {l : Launch} {e : Env} {R : Room} {s : State} {m : MethodId} {args : Array Value} {below : List Frame} {meth : Method} {c : Code} {H : Heap} {locs : List Loc} {cells slots : Nat} {Q : State → Prop}
variable {cc : ByteArray} {pc nL : Nat} {ls : Array Slot} {rest st0 : List Value} {D : va_G} {cA : Nat → ClassId} {A : Nat → Prop} {a : Nat} {ws wc wr : va_W} {g : gv_T}
variable {y : MethodName} {b : ByteArray} {n idx : Nat} {ret : Option FieldType} {R' : Room} {av As : List Value} {rv : (Nat → Nat) → Option Value} {wsr W1 : (Nat → Nat) → va_W} {own C E : String} {hh : List (Nat × Nat × Nat × Nat)}
variable {ws' : (Nat → Nat) → va_W} {mc ms : Nat}
set_option maxHeartbeats 4000000 in
theorem e_throwN (q : Nat → Nat) {text Y0 : String} {ik is ic idx : Nat} {bs : ByteArray} {names : List String} (i : Nat) (hx : p.tables.exec = Jvm.exec) (hb : c.code = cc) (hfl : l.stackTraces = false) (hown : s.vm.findClass own = some m.cls) (hG : ∀ w ∈ GW, w.before args s = true) (hGV : GV g A s s.heap) (htab : ∀ x ∈ c.exceptionTable.toList, False) (hlocks : meth.locks = false) (hlz : ls.size = c.maxLocals)
    (hcls : Bundle.fit E = true) (hY0 : Bundle.fit Y0 = true) (hnames : ∀ n ∈ names, Bundle.fit n = true)
    (b0 : decode bs 0 = .ok (.aload_n 0, 1)) (b1 : decode bs 1 = .ok (.aload_n 1, 1)) (b2 : decode bs 2 = .ok (.invokespecial idx, 3)) (b5 : decode bs 5 = .ok (.return_, 1))
    (hk : Cond.classLink own ik E ∈ GW) (hini : Cond.initialized E ∈ GW) (hi : STR[i]? = some (own, is, text)) (hat : ∀ w ∈ (nsAll own ic E Y0 idx bs names).filter vx_no, w ∈ lw_tbl ∧ (goodWord w || nwWord w) = true)
    (hP : va_P D vwCl (ws' q) H) (hD : va_D A (ws' q)) (hS : va_S A s.heap H locs)
    (d0 : decode cc pc = .ok (.new ik, 3)) (d3 : decode cc (pc + 3) = .ok (.dup, 1)) (d4 : decode cc (pc + 4) = .ok (.ldc is, 2)) (d7 : decode cc (pc + 6) = .ok (.invokespecial ic, 3)) (d10 : decode cc (pc + 9) = .ok (.athrow, 1))
    (hRf : names.length + 4 < R.frames) (hRl : (rest.map fun v => v.category).sum + (13 * (names.length + 2) + 43) ≤ R.locals) (hRc : cells + 1 ≤ R.cells) (hRs : slots + 6 ≤ R.slots) (hc : cells + 1 ≤ mc) (hs : slots + 6 ≤ ms) :
    W p l e R s m args below meth c H locs cells slots (vx_MQ below (fun _ _ _ _ => False) (XcG D A E ws') args s mc ms A) (F0 m pc ls rest) := by
  have hat2 : ∀ w ∈ (nsAll own ic E Y0 idx bs names).filter vx_no, w.before args s = true := by
    intro w hw
    obtain ⟨h1, h2⟩ := hat w hw
    rcases Bool.or_eq_true_iff.mp h2 with h | h
    · exact hG w (List.mem_filter.mpr ⟨h1, h⟩)
    · exact va_Nw.use (nw_tab h) (hGV.2.2.2.2.1 w (List.mem_filter.mpr ⟨h1, h⟩))
  have hgood : ∀ w ∈ (nsAll own ic E Y0 idx bs names).filter vx_no, vx_ot w = true := by
    intro w hw
    rcases Bool.or_eq_true_iff.mp (hat w hw).2 with h | h
    · unfold vx_ot; rw [h]; exact Bool.or_true _
    · unfold vx_ot; rw [nw_tab h]; rfl
  have hkb := hG _ hk
  have hinib := hG _ hini
  have hstr := hGV.2.2.2.1 i _ hi
  intro T hT X
  have htr : e.platform.stackTraces = false := (show e.platform.stackTraces = l.stackTraces by rw [X.admits.platform]).trans hfl
  have Y := vx_rebase X (R' := { frames := R.frames, locals := R.locals, cells := 1, slots := 6 }) (Nat.le_refl _) (Nat.le_refl _) hRc hRs
  obtain ⟨s', hA⟩ : ∃ z, z = (T.setVm s.vm).setFrames (.invoking m args :: below) := ⟨_, rfl⟩
  rw [← hA] at Y
  have hvm : s'.vm = s.vm := by rw [hA]; rfl
  have hhp : s'.heap = H := by rw [hA]; exact hT
  have hW0 : s.WarmedH s'.vm := by rw [hvm]; exact State.WarmedH.refl s
  have hat' : ∀ w ∈ (nsAll own ic E Y0 idx bs names).filter vx_no, w.before args s' = true := fun w hw => vx_ot_at hW0 hvm.symm (hgood w hw) (hat2 w hw)
  have hk' : (Cond.classLink own ik E).before args s' = true := vx_ot_at hW0 hvm.symm rfl hkb
  have hini' : (Cond.initialized E).before args s' = true := vx_ot_at hW0 hvm.symm rfl hinib
  have hU' : vx_Zq Bundle.tN "UNASSIGNED_STACK" Bundle.steD A s' s'.heap := by rw [hhp]; exact vx_Zq.moved hW0.alike (hGV.1.1.kept hS.2.1)
  have hN' : vx_Zq Bundle.tN "SUPPRESSED_SENTINEL" Bundle.listD A s' s'.heap := by rw [hhp]; exact vx_Zq.moved hW0.alike (hGV.1.2.kept hS.2.1)
  have h : ∀ w ∈ nsAll own ic E Y0 idx bs names, w.before args s' = true := vx_own hat' (vx_isRefq hU'.1) (vx_isRefq hN'.1) hU'.2.word hN'.2.word
  have hown' : s'.vm.findClass own = some m.cls := by rw [hvm]; exact hown
  have hins : (Cond.instantiable E 6).before args s' = true := h _ (by simp [nsAll, nsTail, Bundle.ownAtoms, Bundle.throwableAtoms, Bundle.throwableSAtoms, Bundle.chainSAtoms, Bundle.passSAtoms])
  obtain ⟨vm₁, cX, kX, hfX, hkX, -, -, X₁, st1⟩ := Y.newCold hx (own := own) (C := E) (index := ik) (n := 6) hown' hk' hins hini'
    (g := F0 m pc ls rest) rfl (by rw [hb]; exact d0) (Nat.le_refl _) (Nat.le_refl _)
  generalize hT1 : (T.setVm vm₁).pushCell { cls := cX, slots := kX.instanceTypes.map defaultValue, vm := .none } = T1 at X₁ st1
  have hcat : (Value.ref T.heap.size).category = 1 := rfl
  have hcellA : T1.heap[T.heap.size]? = some (freshCell cX kX) := by rw [← hT1]; exact State.heap_pushCell_size _ _
  have d3' : decode c.code (pc + 3) = .ok (.dup, 1) := by rw [hb]; exact d3
  have d4' : decode c.code (pc + 4) = .ok (.ldc is, 2) := by rw [hb]; exact d4
  have hstr' : vk_R own is text (g.2.1 i) s' := vk_R.warm hW0 hstr
  obtain ⟨U, hsteps, hrun, hend, hW, hsame, ce, hce, hcv, hcl0⟩ := ns_ctor X₁ hx htr (own := own) (cls := E) (Y0 := Y0) (names := names) (ic := ic) (idx := idx) (bs := bs) hown' hcls hY0 hnames b0 b1 b2 b5 h (fun x hx => nomatch hx) hfX hkX hcellA (by rw [hhp, hT]; exact Nat.le_refl _) (msg := .ref (g.2.1 i)) rfl
    (g := { method := m, pc := pc + 6, locals := ls, stack := .ref (g.2.1 i) :: .ref T.heap.size :: .ref T.heap.size :: rest, locked := none }) rfl hlz rfl rfl (rest := rest) rfl
    (by rw [hb]; exact d7) (by rw [hb]; exact d10) (fun x hx => (htab x hx).elim) hRf (by simp only [List.map_cons, List.sum_cons, hcat]; omega) hlocks
  obtain ⟨f1, f2⟩ := vx_frame hsame
  rw [hhp] at f1 f2
  have hWs : s.WarmedH U.vm := State.WarmedH.trans hW0 hW
  have hcl : s.vm.findClass E = some ce.cls := by
    have h9 := hcl0
    rw [hvm] at h9
    exact h9
  have hall : s.sameButNew ({ U with vm := s.vm } : State) locs mc ms := by
    subst hA
    obtain ⟨e1, e2⟩ := hsame
    rw [State.setFrames_setFrames] at e1
    have h2 : (T.setVm s.vm).sameButNew ({ U with vm := s.vm } : State) [] (0 + 1) (0 + 6) := ⟨e1, e2⟩
    have h3 := X.same.trans h2
    rw [List.append_nil] at h3
    exact h3.mono hc hs
  have hkp : ∀ q : Nat, q < H.size → U.heap[q]? = H[q]? := fun q hq => f2 q hq (fun z hz => nomatch hz)
  refine ⟨U, ?_, .threw T.heap.size, hrun, hend, Or.inr ⟨T.heap.size, rfl, E, ce, locs, ⟨rfl, ⟨q, hP.kept (fun k z hz9 => hkp _ (hP k z hz9).lt), hD⟩, Nat.le_trans hS.1 f1, fun x h1 h2 => by rw [hkp x (Nat.lt_of_lt_of_le h1 hS.1)]; exact hS.2.1 x h1 h2⟩, hce, hcv, hcl, hWs, hall, hS.2.2⟩⟩
  refine st1 _ ?_
  show Steps p.tables e below (T1.setTop { method := m, pc := pc + 3, locals := ls, stack := .ref T.heap.size :: rest, locked := none }) _
  jvm_step X₁.here [X₁.here.top, hx, d3', Value.category]
  exact X₁.ldcString hx (own := own) (text := text) (index := is) (a := g.2.1 i) hown' hstr'.1 hstr'.2
    (g := { method := m, pc := pc + 4, locals := ls, stack := .ref T.heap.size :: .ref T.heap.size :: rest, locked := none }) rfl d4' _ hsteps
set_option maxHeartbeats 4000000 in
theorem e_throwNW (q : Nat → Nat) {text Y0 : String} {ik is ic idx : Nat} {bs : ByteArray} {names : List String} (i : Nat) (hx : p.tables.exec = Jvm.exec) (hb : c.code = cc) (hfl : l.stackTraces = false) (hown : s.vm.findClass own = some m.cls) (hG : ∀ w ∈ GW, w.before args s = true) (hGV : GV g A s s.heap) (htab : ∀ x ∈ c.exceptionTable.toList, False) (hlocks : meth.locks = false) (hlz : ls.size = c.maxLocals)
    (hcls : Bundle.fit E = true) (hY0 : Bundle.fit Y0 = true) (hnames : ∀ n ∈ names, Bundle.fit n = true)
    (b0 : decode bs 0 = .ok (.aload_n 0, 1)) (b1 : decode bs 1 = .ok (.aload_n 1, 1)) (b2 : decode bs 2 = .ok (.invokespecial idx, 3)) (b5 : decode bs 5 = .ok (.return_, 1))
    (hk : Cond.classLink own ik E ∈ GW) (hini : Cond.initialized E ∈ GW) (hi : STR[i]? = some (own, is, text)) (hat : ∀ w ∈ (nsAll own ic E Y0 idx bs names).filter vx_no, w ∈ lw_tbl ∧ (goodWord w || nwWord w) = true)
    (hP : va_P D vwCl (ws' q) H) (hD : va_D A (ws' q)) (hS : va_S A s.heap H locs)
    (d0 : decode cc pc = .ok (.new ik, 3)) (d3 : decode cc (pc + 3) = .ok (.dup, 1)) (d4 : decode cc (pc + 4) = .ok (.ldc_w is, 3)) (d7 : decode cc (pc + 7) = .ok (.invokespecial ic, 3)) (d10 : decode cc (pc + 10) = .ok (.athrow, 1))
    (hRf : names.length + 4 < R.frames) (hRl : (rest.map fun v => v.category).sum + (13 * (names.length + 2) + 43) ≤ R.locals) (hRc : cells + 1 ≤ R.cells) (hRs : slots + 6 ≤ R.slots) (hc : cells + 1 ≤ mc) (hs : slots + 6 ≤ ms) :
    W p l e R s m args below meth c H locs cells slots (vx_MQ below (fun _ _ _ _ => False) (XcG D A E ws') args s mc ms A) (F0 m pc ls rest) := by
  have hat2 : ∀ w ∈ (nsAll own ic E Y0 idx bs names).filter vx_no, w.before args s = true := by
    intro w hw
    obtain ⟨h1, h2⟩ := hat w hw
    rcases Bool.or_eq_true_iff.mp h2 with h | h
    · exact hG w (List.mem_filter.mpr ⟨h1, h⟩)
    · exact va_Nw.use (nw_tab h) (hGV.2.2.2.2.1 w (List.mem_filter.mpr ⟨h1, h⟩))
  have hgood : ∀ w ∈ (nsAll own ic E Y0 idx bs names).filter vx_no, vx_ot w = true := by
    intro w hw
    rcases Bool.or_eq_true_iff.mp (hat w hw).2 with h | h
    · unfold vx_ot; rw [h]; exact Bool.or_true _
    · unfold vx_ot; rw [nw_tab h]; rfl
  have hkb := hG _ hk
  have hinib := hG _ hini
  have hstr := hGV.2.2.2.1 i _ hi
  intro T hT X
  have htr : e.platform.stackTraces = false := (show e.platform.stackTraces = l.stackTraces by rw [X.admits.platform]).trans hfl
  have Y := vx_rebase X (R' := { frames := R.frames, locals := R.locals, cells := 1, slots := 6 }) (Nat.le_refl _) (Nat.le_refl _) hRc hRs
  obtain ⟨s', hA⟩ : ∃ z, z = (T.setVm s.vm).setFrames (.invoking m args :: below) := ⟨_, rfl⟩
  rw [← hA] at Y
  have hvm : s'.vm = s.vm := by rw [hA]; rfl
  have hhp : s'.heap = H := by rw [hA]; exact hT
  have hW0 : s.WarmedH s'.vm := by rw [hvm]; exact State.WarmedH.refl s
  have hat' : ∀ w ∈ (nsAll own ic E Y0 idx bs names).filter vx_no, w.before args s' = true := fun w hw => vx_ot_at hW0 hvm.symm (hgood w hw) (hat2 w hw)
  have hk' : (Cond.classLink own ik E).before args s' = true := vx_ot_at hW0 hvm.symm rfl hkb
  have hini' : (Cond.initialized E).before args s' = true := vx_ot_at hW0 hvm.symm rfl hinib
  have hU' : vx_Zq Bundle.tN "UNASSIGNED_STACK" Bundle.steD A s' s'.heap := by rw [hhp]; exact vx_Zq.moved hW0.alike (hGV.1.1.kept hS.2.1)
  have hN' : vx_Zq Bundle.tN "SUPPRESSED_SENTINEL" Bundle.listD A s' s'.heap := by rw [hhp]; exact vx_Zq.moved hW0.alike (hGV.1.2.kept hS.2.1)
  have h : ∀ w ∈ nsAll own ic E Y0 idx bs names, w.before args s' = true := vx_own hat' (vx_isRefq hU'.1) (vx_isRefq hN'.1) hU'.2.word hN'.2.word
  have hown' : s'.vm.findClass own = some m.cls := by rw [hvm]; exact hown
  have hins : (Cond.instantiable E 6).before args s' = true := h _ (by simp [nsAll, nsTail, Bundle.ownAtoms, Bundle.throwableAtoms, Bundle.throwableSAtoms, Bundle.chainSAtoms, Bundle.passSAtoms])
  obtain ⟨vm₁, cX, kX, hfX, hkX, -, -, X₁, st1⟩ := Y.newCold hx (own := own) (C := E) (index := ik) (n := 6) hown' hk' hins hini'
    (g := F0 m pc ls rest) rfl (by rw [hb]; exact d0) (Nat.le_refl _) (Nat.le_refl _)
  generalize hT1 : (T.setVm vm₁).pushCell { cls := cX, slots := kX.instanceTypes.map defaultValue, vm := .none } = T1 at X₁ st1
  have hcat : (Value.ref T.heap.size).category = 1 := rfl
  have hcellA : T1.heap[T.heap.size]? = some (freshCell cX kX) := by rw [← hT1]; exact State.heap_pushCell_size _ _
  have d3' : decode c.code (pc + 3) = .ok (.dup, 1) := by rw [hb]; exact d3
  have d4' : decode c.code (pc + 4) = .ok (.ldc_w is, 3) := by rw [hb]; exact d4
  have hstr' : vk_R own is text (g.2.1 i) s' := vk_R.warm hW0 hstr
  obtain ⟨U, hsteps, hrun, hend, hW, hsame, ce, hce, hcv, hcl0⟩ := ns_ctor X₁ hx htr (own := own) (cls := E) (Y0 := Y0) (names := names) (ic := ic) (idx := idx) (bs := bs) hown' hcls hY0 hnames b0 b1 b2 b5 h (fun x hx => nomatch hx) hfX hkX hcellA (by rw [hhp, hT]; exact Nat.le_refl _) (msg := .ref (g.2.1 i)) rfl
    (g := { method := m, pc := pc + 7, locals := ls, stack := .ref (g.2.1 i) :: .ref T.heap.size :: .ref T.heap.size :: rest, locked := none }) rfl hlz rfl rfl (rest := rest) rfl
    (by rw [hb]; exact d7) (by rw [hb]; exact d10) (fun x hx => (htab x hx).elim) hRf (by simp only [List.map_cons, List.sum_cons, hcat]; omega) hlocks
  obtain ⟨f1, f2⟩ := vx_frame hsame
  rw [hhp] at f1 f2
  have hWs : s.WarmedH U.vm := State.WarmedH.trans hW0 hW
  have hcl : s.vm.findClass E = some ce.cls := by
    have h9 := hcl0
    rw [hvm] at h9
    exact h9
  have hall : s.sameButNew ({ U with vm := s.vm } : State) locs mc ms := by
    subst hA
    obtain ⟨e1, e2⟩ := hsame
    rw [State.setFrames_setFrames] at e1
    have h2 : (T.setVm s.vm).sameButNew ({ U with vm := s.vm } : State) [] (0 + 1) (0 + 6) := ⟨e1, e2⟩
    have h3 := X.same.trans h2
    rw [List.append_nil] at h3
    exact h3.mono hc hs
  have hkp : ∀ q : Nat, q < H.size → U.heap[q]? = H[q]? := fun q hq => f2 q hq (fun z hz => nomatch hz)
  refine ⟨U, ?_, .threw T.heap.size, hrun, hend, Or.inr ⟨T.heap.size, rfl, E, ce, locs, ⟨rfl, ⟨q, hP.kept (fun k z hz9 => hkp _ (hP k z hz9).lt), hD⟩, Nat.le_trans hS.1 f1, fun x h1 h2 => by rw [hkp x (Nat.lt_of_lt_of_le h1 hS.1)]; exact hS.2.1 x h1 h2⟩, hce, hcv, hcl, hWs, hall, hS.2.2⟩⟩
  refine st1 _ ?_
  show Steps p.tables e below (T1.setTop { method := m, pc := pc + 3, locals := ls, stack := .ref T.heap.size :: rest, locked := none }) _
  jvm_step X₁.here [X₁.here.top, hx, d3', Value.category]
  exact X₁.ldcStringW hx (own := own) (text := text) (index := is) (a := g.2.1 i) hown' hstr'.1 hstr'.2
    (g := { method := m, pc := pc + 4, locals := ls, stack := .ref T.heap.size :: .ref T.heap.size :: rest, locked := none }) rfl d4' _ hsteps
end KN
end
