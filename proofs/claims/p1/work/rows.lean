section
-- ===== PART A: goes FIRST, ahead of the names: the tables' words, and 'selects' of the private methods out of them =====
/-- a private method of a class that the tables say can be made, by its rows of tables_1 -/
def lw_okq (q : MethodName × Nat) : Prop := (q.1.cls ≠ "java/lang/invoke/MethodHandle" ∧ q.1.cls ≠ "java/lang/invoke/VarHandle") ∧ Cond.instantiable q.1.cls q.2 ∈ tables_1 ∧ Cond.privateMethod q.1 ∈ tables_1 ∧ Cond.instanceMethod q.1 ∈ tables_1
theorem lw_p0 : lw_okq (⟨"Tenonyard$Forces", "findPulls", "(LTenonyard$Frame;)C"⟩, 17) := ⟨⟨by decide +kernel, by decide +kernel⟩, List.mem_of_getElem? (i := 107) (by decide +kernel), List.mem_of_getElem? (i := 314) (by decide +kernel), List.mem_of_getElem? (i := 315) (by decide +kernel)⟩
theorem lw_p1 : lw_okq (⟨"Tenonyard$Forces", "fillRows", "(LTenonyard$Frame;)V"⟩, 17) := ⟨⟨by decide +kernel, by decide +kernel⟩, List.mem_of_getElem? (i := 107) (by decide +kernel), List.mem_of_getElem? (i := 322) (by decide +kernel), List.mem_of_getElem? (i := 323) (by decide +kernel)⟩
theorem lw_p2 : lw_okq (⟨"Tenonyard$Forces", "findDeterminants", "(I)V"⟩, 17) := ⟨⟨by decide +kernel, by decide +kernel⟩, List.mem_of_getElem? (i := 107) (by decide +kernel), List.mem_of_getElem? (i := 334) (by decide +kernel), List.mem_of_getElem? (i := 335) (by decide +kernel)⟩
theorem lw_p3 : lw_okq (⟨"Tenonyard$Forces", "expanded", "([JII)J"⟩, 17) := ⟨⟨by decide +kernel, by decide +kernel⟩, List.mem_of_getElem? (i := 107) (by decide +kernel), List.mem_of_getElem? (i := 344) (by decide +kernel), List.mem_of_getElem? (i := 345) (by decide +kernel)⟩
theorem lw_p4 : lw_okq (⟨"Tenonyard$Forces", "setPull", "(III)V"⟩, 17) := ⟨⟨by decide +kernel, by decide +kernel⟩, List.mem_of_getElem? (i := 107) (by decide +kernel), List.mem_of_getElem? (i := 351) (by decide +kernel), List.mem_of_getElem? (i := 352) (by decide +kernel)⟩
theorem lw_p5 : lw_okq (⟨"Tenonyard$Forces", "carry", "(I)V"⟩, 17) := ⟨⟨by decide +kernel, by decide +kernel⟩, List.mem_of_getElem? (i := 107) (by decide +kernel), List.mem_of_getElem? (i := 362) (by decide +kernel), List.mem_of_getElem? (i := 363) (by decide +kernel)⟩
theorem lw_p6 : lw_okq (⟨"Tenonyard$Forces", "findBearings", "(LTenonyard$Frame;)V"⟩, 17) := ⟨⟨by decide +kernel, by decide +kernel⟩, List.mem_of_getElem? (i := 107) (by decide +kernel), List.mem_of_getElem? (i := 366) (by decide +kernel), List.mem_of_getElem? (i := 367) (by decide +kernel)⟩
theorem lw_p7 : lw_okq (⟨"Tenonyard$Forces", "findAmounts", "(LTenonyard$Frame;)V"⟩, 17) := ⟨⟨by decide +kernel, by decide +kernel⟩, List.mem_of_getElem? (i := 107) (by decide +kernel), List.mem_of_getElem? (i := 370) (by decide +kernel), List.mem_of_getElem? (i := 371) (by decide +kernel)⟩
theorem lw_p8 : lw_okq (⟨"Tenonyard$Forces", "timesLength", "(JJI)J"⟩, 17) := ⟨⟨by decide +kernel, by decide +kernel⟩, List.mem_of_getElem? (i := 107) (by decide +kernel), List.mem_of_getElem? (i := 384) (by decide +kernel), List.mem_of_getElem? (i := 385) (by decide +kernel)⟩
theorem lw_p9 : lw_okq (⟨"Tenonyard$Raising", "gather", "(LTenonyard$Frame;LTenonyard$Joinery;)V"⟩, 9) := ⟨⟨by decide +kernel, by decide +kernel⟩, List.mem_of_getElem? (i := 251) (by decide +kernel), List.mem_of_getElem? (i := 424) (by decide +kernel), List.mem_of_getElem? (i := 425) (by decide +kernel)⟩
theorem lw_p10 : lw_okq (⟨"Tenonyard$Raising", "goForward", "(I)V"⟩, 9) := ⟨⟨by decide +kernel, by decide +kernel⟩, List.mem_of_getElem? (i := 251) (by decide +kernel), List.mem_of_getElem? (i := 440) (by decide +kernel), List.mem_of_getElem? (i := 441) (by decide +kernel)⟩
theorem lw_p11 : lw_okq (⟨"Tenonyard$Raising", "canMoveIn", "(II)Z"⟩, 9) := ⟨⟨by decide +kernel, by decide +kernel⟩, List.mem_of_getElem? (i := 251) (by decide +kernel), List.mem_of_getElem? (i := 449) (by decide +kernel), List.mem_of_getElem? (i := 450) (by decide +kernel)⟩
theorem lw_p12 : lw_okq (⟨"Tenonyard$Raising", "goBackward", "(I)V"⟩, 9) := ⟨⟨by decide +kernel, by decide +kernel⟩, List.mem_of_getElem? (i := 251) (by decide +kernel), List.mem_of_getElem? (i := 453) (by decide +kernel), List.mem_of_getElem? (i := 454) (by decide +kernel)⟩
theorem lw_p13 : lw_okq (⟨"Tenonyard$Raising", "findOrder", "(I)V"⟩, 9) := ⟨⟨by decide +kernel, by decide +kernel⟩, List.mem_of_getElem? (i := 251) (by decide +kernel), List.mem_of_getElem? (i := 457) (by decide +kernel), List.mem_of_getElem? (i := 458) (by decide +kernel)⟩
theorem lw_p14 : lw_okq (⟨"Tenonyard$Raising", "firstThatLeads", "(II)I"⟩, 9) := ⟨⟨by decide +kernel, by decide +kernel⟩, List.mem_of_getElem? (i := 251) (by decide +kernel), List.mem_of_getElem? (i := 461) (by decide +kernel), List.mem_of_getElem? (i := 462) (by decide +kernel)⟩
theorem lw_p15 : lw_okq (⟨"Tenonyard$Forces", "holdsAlong", "(LTenonyard$Frame;II)Z"⟩, 17) := ⟨⟨by decide +kernel, by decide +kernel⟩, List.mem_of_getElem? (i := 107) (by decide +kernel), List.mem_of_getElem? (i := 485) (by decide +kernel), List.mem_of_getElem? (i := 486) (by decide +kernel)⟩
def lw_privs_1 : List (MethodName × Nat) := [(⟨"Tenonyard$Forces", "findPulls", "(LTenonyard$Frame;)C"⟩, 17), (⟨"Tenonyard$Forces", "fillRows", "(LTenonyard$Frame;)V"⟩, 17), (⟨"Tenonyard$Forces", "findDeterminants", "(I)V"⟩, 17), (⟨"Tenonyard$Forces", "expanded", "([JII)J"⟩, 17), (⟨"Tenonyard$Forces", "setPull", "(III)V"⟩, 17), (⟨"Tenonyard$Forces", "carry", "(I)V"⟩, 17), (⟨"Tenonyard$Forces", "findBearings", "(LTenonyard$Frame;)V"⟩, 17), (⟨"Tenonyard$Forces", "findAmounts", "(LTenonyard$Frame;)V"⟩, 17), (⟨"Tenonyard$Forces", "timesLength", "(JJI)J"⟩, 17), (⟨"Tenonyard$Raising", "gather", "(LTenonyard$Frame;LTenonyard$Joinery;)V"⟩, 9), (⟨"Tenonyard$Raising", "goForward", "(I)V"⟩, 9), (⟨"Tenonyard$Raising", "canMoveIn", "(II)Z"⟩, 9), (⟨"Tenonyard$Raising", "goBackward", "(I)V"⟩, 9), (⟨"Tenonyard$Raising", "findOrder", "(I)V"⟩, 9), (⟨"Tenonyard$Raising", "firstThatLeads", "(II)I"⟩, 9), (⟨"Tenonyard$Forces", "holdsAlong", "(LTenonyard$Frame;II)Z"⟩, 17)]
theorem lw_r1 : ∀ q ∈ lw_privs_1, lw_okq q := List.forall_mem_cons.mpr ⟨lw_p0, List.forall_mem_cons.mpr ⟨lw_p1, List.forall_mem_cons.mpr ⟨lw_p2, List.forall_mem_cons.mpr ⟨lw_p3, List.forall_mem_cons.mpr ⟨lw_p4, List.forall_mem_cons.mpr ⟨lw_p5, List.forall_mem_cons.mpr ⟨lw_p6, List.forall_mem_cons.mpr ⟨lw_p7, List.forall_mem_cons.mpr ⟨lw_p8, List.forall_mem_cons.mpr ⟨lw_p9, List.forall_mem_cons.mpr ⟨lw_p10, List.forall_mem_cons.mpr ⟨lw_p11, List.forall_mem_cons.mpr ⟨lw_p12, List.forall_mem_cons.mpr ⟨lw_p13, List.forall_mem_cons.mpr ⟨lw_p14, List.forall_mem_cons.mpr ⟨lw_p15, fun _ h => absurd h List.not_mem_nil⟩⟩⟩⟩⟩⟩⟩⟩⟩⟩⟩⟩⟩⟩⟩⟩
theorem lw_p16 : lw_okq (⟨"java/lang/Throwable", "fillInStackTrace", "(I)Ljava/lang/Throwable;"⟩, 6) := ⟨⟨by decide +kernel, by decide +kernel⟩, List.mem_of_getElem? (i := 637) (by decide +kernel), List.mem_of_getElem? (i := 635) (by decide +kernel), List.mem_of_getElem? (i := 636) (by decide +kernel)⟩
theorem lw_p17 : lw_okq (⟨"Tenonyard", "checkNode", "(I)V"⟩, 5) := ⟨⟨by decide +kernel, by decide +kernel⟩, List.mem_of_getElem? (i := 39) (by decide +kernel), List.mem_of_getElem? (i := 718) (by decide +kernel), List.mem_of_getElem? (i := 719) (by decide +kernel)⟩
theorem lw_p18 : lw_okq (⟨"Tenonyard", "checkMember", "(I)V"⟩, 5) := ⟨⟨by decide +kernel, by decide +kernel⟩, List.mem_of_getElem? (i := 39) (by decide +kernel), List.mem_of_getElem? (i := 767) (by decide +kernel), List.mem_of_getElem? (i := 768) (by decide +kernel)⟩
theorem lw_p19 : lw_okq (⟨"Tenonyard", "checkStanding", "()V"⟩, 5) := ⟨⟨by decide +kernel, by decide +kernel⟩, List.mem_of_getElem? (i := 39) (by decide +kernel), List.mem_of_getElem? (i := 772) (by decide +kernel), List.mem_of_getElem? (i := 773) (by decide +kernel)⟩
theorem lw_p20 : lw_okq (⟨"Tenonyard$Forces", "restInThousandths", "(I)J"⟩, 17) := ⟨⟨by decide +kernel, by decide +kernel⟩, List.mem_of_getElem? (i := 107) (by decide +kernel), List.mem_of_getElem? (i := 789) (by decide +kernel), List.mem_of_getElem? (i := 790) (by decide +kernel)⟩
theorem lw_p21 : lw_okq (⟨"Tenonyard", "checkJoint", "(I)V"⟩, 5) := ⟨⟨by decide +kernel, by decide +kernel⟩, List.mem_of_getElem? (i := 39) (by decide +kernel), List.mem_of_getElem? (i := 887) (by decide +kernel), List.mem_of_getElem? (i := 888) (by decide +kernel)⟩
theorem lw_p22 : lw_okq (⟨"Tenonyard", "checkMoisture", "(I)V"⟩, 5) := ⟨⟨by decide +kernel, by decide +kernel⟩, List.mem_of_getElem? (i := 39) (by decide +kernel), List.mem_of_getElem? (i := 912) (by decide +kernel), List.mem_of_getElem? (i := 913) (by decide +kernel)⟩
theorem lw_p23 : lw_okq (⟨"Tenonyard", "checkCut", "()V"⟩, 5) := ⟨⟨by decide +kernel, by decide +kernel⟩, List.mem_of_getElem? (i := 39) (by decide +kernel), List.mem_of_getElem? (i := 979) (by decide +kernel), List.mem_of_getElem? (i := 980) (by decide +kernel)⟩
theorem lw_p24 : lw_okq (⟨"Tenonyard$Cutting", "measure", "(LTenonyard$Frame;LTenonyard$Joinery;)V"⟩, 11) := ⟨⟨by decide +kernel, by decide +kernel⟩, List.mem_of_getElem? (i := 206) (by decide +kernel), List.mem_of_getElem? (i := 987) (by decide +kernel), List.mem_of_getElem? (i := 988) (by decide +kernel)⟩
theorem lw_p25 : lw_okq (⟨"Tenonyard$Cutting", "fitting", "(ILTenonyard$Frame;)I"⟩, 11) := ⟨⟨by decide +kernel, by decide +kernel⟩, List.mem_of_getElem? (i := 206) (by decide +kernel), List.mem_of_getElem? (i := 994) (by decide +kernel), List.mem_of_getElem? (i := 995) (by decide +kernel)⟩
theorem lw_p26 : lw_okq (⟨"Tenonyard$Cutting", "offer", "(III)V"⟩, 11) := ⟨⟨by decide +kernel, by decide +kernel⟩, List.mem_of_getElem? (i := 206) (by decide +kernel), List.mem_of_getElem? (i := 998) (by decide +kernel), List.mem_of_getElem? (i := 999) (by decide +kernel)⟩
theorem lw_p27 : lw_okq (⟨"Tenonyard$Cutting", "choose", "(J)V"⟩, 11) := ⟨⟨by decide +kernel, by decide +kernel⟩, List.mem_of_getElem? (i := 206) (by decide +kernel), List.mem_of_getElem? (i := 1006) (by decide +kernel), List.mem_of_getElem? (i := 1007) (by decide +kernel)⟩
theorem lw_p28 : lw_okq (⟨"Tenonyard", "checkPlaceInOrder", "(I)V"⟩, 5) := ⟨⟨by decide +kernel, by decide +kernel⟩, List.mem_of_getElem? (i := 39) (by decide +kernel), List.mem_of_getElem? (i := 1045) (by decide +kernel), List.mem_of_getElem? (i := 1046) (by decide +kernel)⟩
theorem lw_p29 : lw_okq (⟨"TenonyardModel", "fails", "(I)I"⟩, 27) := ⟨⟨by decide +kernel, by decide +kernel⟩, List.mem_of_getElem? (i := 1114) (by decide +kernel), List.mem_of_getElem? (i := 1239) (by decide +kernel), List.mem_of_getElem? (i := 1240) (by decide +kernel)⟩
theorem lw_p30 : lw_okq (⟨"java/util/ArrayList", "add", "(Ljava/lang/Object;[Ljava/lang/Object;I)V"⟩, 3) := ⟨⟨by decide +kernel, by decide +kernel⟩, List.mem_of_getElem? (i := 1120) (by decide +kernel), List.mem_of_getElem? (i := 1279) (by decide +kernel), List.mem_of_getElem? (i := 1280) (by decide +kernel)⟩
theorem lw_p31 : lw_okq (⟨"java/util/ArrayList", "grow", "()[Ljava/lang/Object;"⟩, 3) := ⟨⟨by decide +kernel, by decide +kernel⟩, List.mem_of_getElem? (i := 1120) (by decide +kernel), List.mem_of_getElem? (i := 1283) (by decide +kernel), List.mem_of_getElem? (i := 1284) (by decide +kernel)⟩
def lw_privs_2 : List (MethodName × Nat) := [(⟨"java/lang/Throwable", "fillInStackTrace", "(I)Ljava/lang/Throwable;"⟩, 6), (⟨"Tenonyard", "checkNode", "(I)V"⟩, 5), (⟨"Tenonyard", "checkMember", "(I)V"⟩, 5), (⟨"Tenonyard", "checkStanding", "()V"⟩, 5), (⟨"Tenonyard$Forces", "restInThousandths", "(I)J"⟩, 17), (⟨"Tenonyard", "checkJoint", "(I)V"⟩, 5), (⟨"Tenonyard", "checkMoisture", "(I)V"⟩, 5), (⟨"Tenonyard", "checkCut", "()V"⟩, 5), (⟨"Tenonyard$Cutting", "measure", "(LTenonyard$Frame;LTenonyard$Joinery;)V"⟩, 11), (⟨"Tenonyard$Cutting", "fitting", "(ILTenonyard$Frame;)I"⟩, 11), (⟨"Tenonyard$Cutting", "offer", "(III)V"⟩, 11), (⟨"Tenonyard$Cutting", "choose", "(J)V"⟩, 11), (⟨"Tenonyard", "checkPlaceInOrder", "(I)V"⟩, 5), (⟨"TenonyardModel", "fails", "(I)I"⟩, 27), (⟨"java/util/ArrayList", "add", "(Ljava/lang/Object;[Ljava/lang/Object;I)V"⟩, 3), (⟨"java/util/ArrayList", "grow", "()[Ljava/lang/Object;"⟩, 3)]
theorem lw_r2 : ∀ q ∈ lw_privs_2, lw_okq q := List.forall_mem_cons.mpr ⟨lw_p16, List.forall_mem_cons.mpr ⟨lw_p17, List.forall_mem_cons.mpr ⟨lw_p18, List.forall_mem_cons.mpr ⟨lw_p19, List.forall_mem_cons.mpr ⟨lw_p20, List.forall_mem_cons.mpr ⟨lw_p21, List.forall_mem_cons.mpr ⟨lw_p22, List.forall_mem_cons.mpr ⟨lw_p23, List.forall_mem_cons.mpr ⟨lw_p24, List.forall_mem_cons.mpr ⟨lw_p25, List.forall_mem_cons.mpr ⟨lw_p26, List.forall_mem_cons.mpr ⟨lw_p27, List.forall_mem_cons.mpr ⟨lw_p28, List.forall_mem_cons.mpr ⟨lw_p29, List.forall_mem_cons.mpr ⟨lw_p30, List.forall_mem_cons.mpr ⟨lw_p31, fun _ h => absurd h List.not_mem_nil⟩⟩⟩⟩⟩⟩⟩⟩⟩⟩⟩⟩⟩⟩⟩⟩
theorem lw_p32 : lw_okq (⟨"java/util/ArrayList", "grow", "(I)[Ljava/lang/Object;"⟩, 3) := ⟨⟨by decide +kernel, by decide +kernel⟩, List.mem_of_getElem? (i := 1120) (by decide +kernel), List.mem_of_getElem? (i := 1287) (by decide +kernel), List.mem_of_getElem? (i := 1288) (by decide +kernel)⟩
theorem lw_p33 : lw_okq (⟨"TenonyardModel", "changes", "()V"⟩, 27) := ⟨⟨by decide +kernel, by decide +kernel⟩, List.mem_of_getElem? (i := 1114) (by decide +kernel), List.mem_of_getElem? (i := 1339) (by decide +kernel), List.mem_of_getElem? (i := 1340) (by decide +kernel)⟩
theorem lw_p34 : lw_okq (⟨"TenonyardModel", "tell", "(I)I"⟩, 27) := ⟨⟨by decide +kernel, by decide +kernel⟩, List.mem_of_getElem? (i := 1114) (by decide +kernel), List.mem_of_getElem? (i := 1343) (by decide +kernel), List.mem_of_getElem? (i := 1344) (by decide +kernel)⟩
theorem lw_p35 : lw_okq (⟨"TenonyardModel", "isNode", "(I)Z"⟩, 27) := ⟨⟨by decide +kernel, by decide +kernel⟩, List.mem_of_getElem? (i := 1114) (by decide +kernel), List.mem_of_getElem? (i := 1351) (by decide +kernel), List.mem_of_getElem? (i := 1352) (by decide +kernel)⟩
theorem lw_p36 : lw_okq (⟨"TenonyardModel", "reckons", "()V"⟩, 27) := ⟨⟨by decide +kernel, by decide +kernel⟩, List.mem_of_getElem? (i := 1114) (by decide +kernel), List.mem_of_getElem? (i := 1408) (by decide +kernel), List.mem_of_getElem? (i := 1409) (by decide +kernel)⟩
theorem lw_p37 : lw_okq (⟨"TenonyardModel", "unknowns", "()I"⟩, 27) := ⟨⟨by decide +kernel, by decide +kernel⟩, List.mem_of_getElem? (i := 1114) (by decide +kernel), List.mem_of_getElem? (i := 1412) (by decide +kernel), List.mem_of_getElem? (i := 1413) (by decide +kernel)⟩
theorem lw_p38 : lw_okq (⟨"TenonyardModel", "determinant", "(I)J"⟩, 27) := ⟨⟨by decide +kernel, by decide +kernel⟩, List.mem_of_getElem? (i := 1114) (by decide +kernel), List.mem_of_getElem? (i := 1416) (by decide +kernel), List.mem_of_getElem? (i := 1417) (by decide +kernel)⟩
theorem lw_p39 : lw_okq (⟨"TenonyardModel", "isBorne", "(IZ)Z"⟩, 27) := ⟨⟨by decide +kernel, by decide +kernel⟩, List.mem_of_getElem? (i := 1114) (by decide +kernel), List.mem_of_getElem? (i := 1420) (by decide +kernel), List.mem_of_getElem? (i := 1421) (by decide +kernel)⟩
theorem lw_p40 : lw_okq (⟨"TenonyardModel", "expanded", "(III)J"⟩, 27) := ⟨⟨by decide +kernel, by decide +kernel⟩, List.mem_of_getElem? (i := 1114) (by decide +kernel), List.mem_of_getElem? (i := 1425) (by decide +kernel), List.mem_of_getElem? (i := 1426) (by decide +kernel)⟩
theorem lw_p41 : lw_okq (⟨"TenonyardModel", "loadIn", "(I)J"⟩, 27) := ⟨⟨by decide +kernel, by decide +kernel⟩, List.mem_of_getElem? (i := 1114) (by decide +kernel), List.mem_of_getElem? (i := 1429) (by decide +kernel), List.mem_of_getElem? (i := 1430) (by decide +kernel)⟩
theorem lw_p42 : lw_okq (⟨"TenonyardModel", "draws", "(II)I"⟩, 27) := ⟨⟨by decide +kernel, by decide +kernel⟩, List.mem_of_getElem? (i := 1114) (by decide +kernel), List.mem_of_getElem? (i := 1433) (by decide +kernel), List.mem_of_getElem? (i := 1434) (by decide +kernel)⟩
theorem lw_p43 : lw_okq (⟨"TenonyardModel", "wayX", "(LTenonyardModel$Member;I)I"⟩, 27) := ⟨⟨by decide +kernel, by decide +kernel⟩, List.mem_of_getElem? (i := 1114) (by decide +kernel), List.mem_of_getElem? (i := 1437) (by decide +kernel), List.mem_of_getElem? (i := 1438) (by decide +kernel)⟩
theorem lw_p44 : lw_okq (⟨"TenonyardModel", "wayY", "(LTenonyardModel$Member;I)I"⟩, 27) := ⟨⟨by decide +kernel, by decide +kernel⟩, List.mem_of_getElem? (i := 1114) (by decide +kernel), List.mem_of_getElem? (i := 1441) (by decide +kernel), List.mem_of_getElem? (i := 1442) (by decide +kernel)⟩
theorem lw_p45 : lw_okq (⟨"TenonyardModel", "isMember", "(I)Z"⟩, 27) := ⟨⟨by decide +kernel, by decide +kernel⟩, List.mem_of_getElem? (i := 1114) (by decide +kernel), List.mem_of_getElem? (i := 1449) (by decide +kernel), List.mem_of_getElem? (i := 1450) (by decide +kernel)⟩
theorem lw_p46 : lw_okq (⟨"TenonyardModel", "failsLong", "(I)J"⟩, 27) := ⟨⟨by decide +kernel, by decide +kernel⟩, List.mem_of_getElem? (i := 1114) (by decide +kernel), List.mem_of_getElem? (i := 1453) (by decide +kernel), List.mem_of_getElem? (i := 1454) (by decide +kernel)⟩
theorem lw_p47 : lw_okq (⟨"TenonyardModel", "stands", "()Z"⟩, 27) := ⟨⟨by decide +kernel, by decide +kernel⟩, List.mem_of_getElem? (i := 1114) (by decide +kernel), List.mem_of_getElem? (i := 1457) (by decide +kernel), List.mem_of_getElem? (i := 1458) (by decide +kernel)⟩
def lw_privs_3 : List (MethodName × Nat) := [(⟨"java/util/ArrayList", "grow", "(I)[Ljava/lang/Object;"⟩, 3), (⟨"TenonyardModel", "changes", "()V"⟩, 27), (⟨"TenonyardModel", "tell", "(I)I"⟩, 27), (⟨"TenonyardModel", "isNode", "(I)Z"⟩, 27), (⟨"TenonyardModel", "reckons", "()V"⟩, 27), (⟨"TenonyardModel", "unknowns", "()I"⟩, 27), (⟨"TenonyardModel", "determinant", "(I)J"⟩, 27), (⟨"TenonyardModel", "isBorne", "(IZ)Z"⟩, 27), (⟨"TenonyardModel", "expanded", "(III)J"⟩, 27), (⟨"TenonyardModel", "loadIn", "(I)J"⟩, 27), (⟨"TenonyardModel", "draws", "(II)I"⟩, 27), (⟨"TenonyardModel", "wayX", "(LTenonyardModel$Member;I)I"⟩, 27), (⟨"TenonyardModel", "wayY", "(LTenonyardModel$Member;I)I"⟩, 27), (⟨"TenonyardModel", "isMember", "(I)Z"⟩, 27), (⟨"TenonyardModel", "failsLong", "(I)J"⟩, 27), (⟨"TenonyardModel", "stands", "()Z"⟩, 27)]
theorem lw_r3 : ∀ q ∈ lw_privs_3, lw_okq q := List.forall_mem_cons.mpr ⟨lw_p32, List.forall_mem_cons.mpr ⟨lw_p33, List.forall_mem_cons.mpr ⟨lw_p34, List.forall_mem_cons.mpr ⟨lw_p35, List.forall_mem_cons.mpr ⟨lw_p36, List.forall_mem_cons.mpr ⟨lw_p37, List.forall_mem_cons.mpr ⟨lw_p38, List.forall_mem_cons.mpr ⟨lw_p39, List.forall_mem_cons.mpr ⟨lw_p40, List.forall_mem_cons.mpr ⟨lw_p41, List.forall_mem_cons.mpr ⟨lw_p42, List.forall_mem_cons.mpr ⟨lw_p43, List.forall_mem_cons.mpr ⟨lw_p44, List.forall_mem_cons.mpr ⟨lw_p45, List.forall_mem_cons.mpr ⟨lw_p46, List.forall_mem_cons.mpr ⟨lw_p47, fun _ h => absurd h List.not_mem_nil⟩⟩⟩⟩⟩⟩⟩⟩⟩⟩⟩⟩⟩⟩⟩⟩
theorem lw_p48 : lw_okq (⟨"TenonyardModel", "forceOf", "(I)J"⟩, 27) := ⟨⟨by decide +kernel, by decide +kernel⟩, List.mem_of_getElem? (i := 1114) (by decide +kernel), List.mem_of_getElem? (i := 1461) (by decide +kernel), List.mem_of_getElem? (i := 1462) (by decide +kernel)⟩
theorem lw_p49 : lw_okq (⟨"TenonyardModel", "reckonsForce", "(I)J"⟩, 27) := ⟨⟨by decide +kernel, by decide +kernel⟩, List.mem_of_getElem? (i := 1114) (by decide +kernel), List.mem_of_getElem? (i := 1465) (by decide +kernel), List.mem_of_getElem? (i := 1466) (by decide +kernel)⟩
theorem lw_p50 : lw_okq (⟨"TenonyardModel", "isAtMost", "(JJJJ)Z"⟩, 27) := ⟨⟨by decide +kernel, by decide +kernel⟩, List.mem_of_getElem? (i := 1114) (by decide +kernel), List.mem_of_getElem? (i := 1476) (by decide +kernel), List.mem_of_getElem? (i := 1477) (by decide +kernel)⟩
theorem lw_p51 : lw_okq (⟨"TenonyardModel", "tellLong", "(J)J"⟩, 27) := ⟨⟨by decide +kernel, by decide +kernel⟩, List.mem_of_getElem? (i := 1114) (by decide +kernel), List.mem_of_getElem? (i := 1503) (by decide +kernel), List.mem_of_getElem? (i := 1504) (by decide +kernel)⟩
theorem lw_p52 : lw_okq (⟨"TenonyardModel", "thousandths", "(J)J"⟩, 27) := ⟨⟨by decide +kernel, by decide +kernel⟩, List.mem_of_getElem? (i := 1114) (by decide +kernel), List.mem_of_getElem? (i := 1511) (by decide +kernel), List.mem_of_getElem? (i := 1512) (by decide +kernel)⟩
theorem lw_p53 : lw_okq (⟨"TenonyardModel", "bearingOf", "(IZ)J"⟩, 27) := ⟨⟨by decide +kernel, by decide +kernel⟩, List.mem_of_getElem? (i := 1114) (by decide +kernel), List.mem_of_getElem? (i := 1522) (by decide +kernel), List.mem_of_getElem? (i := 1523) (by decide +kernel)⟩
theorem lw_p54 : lw_okq (⟨"TenonyardModel", "refuses", "(I)Z"⟩, 27) := ⟨⟨by decide +kernel, by decide +kernel⟩, List.mem_of_getElem? (i := 1114) (by decide +kernel), List.mem_of_getElem? (i := 1530) (by decide +kernel), List.mem_of_getElem? (i := 1531) (by decide +kernel)⟩
theorem lw_p55 : lw_okq (⟨"TenonyardModel", "restOf", "(II)J"⟩, 27) := ⟨⟨by decide +kernel, by decide +kernel⟩, List.mem_of_getElem? (i := 1114) (by decide +kernel), List.mem_of_getElem? (i := 1534) (by decide +kernel), List.mem_of_getElem? (i := 1535) (by decide +kernel)⟩
theorem lw_p56 : lw_okq (⟨"TenonyardModel", "tells", "(Z)Z"⟩, 27) := ⟨⟨by decide +kernel, by decide +kernel⟩, List.mem_of_getElem? (i := 1114) (by decide +kernel), List.mem_of_getElem? (i := 1538) (by decide +kernel), List.mem_of_getElem? (i := 1539) (by decide +kernel)⟩
theorem lw_p57 : lw_okq (⟨"TenonyardModel", "isJoint", "(I)Z"⟩, 27) := ⟨⟨by decide +kernel, by decide +kernel⟩, List.mem_of_getElem? (i := 1114) (by decide +kernel), List.mem_of_getElem? (i := 1588) (by decide +kernel), List.mem_of_getElem? (i := 1589) (by decide +kernel)⟩
theorem lw_p58 : lw_okq (⟨"TenonyardModel", "isGood", "(LTenonyardModel$Joint;)Z"⟩, 27) := ⟨⟨by decide +kernel, by decide +kernel⟩, List.mem_of_getElem? (i := 1114) (by decide +kernel), List.mem_of_getElem? (i := 1592) (by decide +kernel), List.mem_of_getElem? (i := 1593) (by decide +kernel)⟩
theorem lw_p59 : lw_okq (⟨"TenonyardModel", "gapOf", "(LTenonyardModel$Joint;)I"⟩, 27) := ⟨⟨by decide +kernel, by decide +kernel⟩, List.mem_of_getElem? (i := 1114) (by decide +kernel), List.mem_of_getElem? (i := 1621) (by decide +kernel), List.mem_of_getElem? (i := 1622) (by decide +kernel)⟩
theorem lw_p60 : lw_okq (⟨"TenonyardModel", "pieceOf", "(I)I"⟩, 27) := ⟨⟨by decide +kernel, by decide +kernel⟩, List.mem_of_getElem? (i := 1114) (by decide +kernel), List.mem_of_getElem? (i := 1656) (by decide +kernel), List.mem_of_getElem? (i := 1657) (by decide +kernel)⟩
theorem lw_p61 : lw_okq (⟨"TenonyardModel", "areCut", "()Z"⟩, 27) := ⟨⟨by decide +kernel, by decide +kernel⟩, List.mem_of_getElem? (i := 1114) (by decide +kernel), List.mem_of_getElem? (i := 1664) (by decide +kernel), List.mem_of_getElem? (i := 1665) (by decide +kernel)⟩
theorem lw_p62 : lw_okq (⟨"TenonyardModel", "saws", "()V"⟩, 27) := ⟨⟨by decide +kernel, by decide +kernel⟩, List.mem_of_getElem? (i := 1114) (by decide +kernel), List.mem_of_getElem? (i := 1668) (by decide +kernel), List.mem_of_getElem? (i := 1669) (by decide +kernel)⟩
theorem lw_p63 : lw_okq (⟨"TenonyardModel", "sums", "()V"⟩, 27) := ⟨⟨by decide +kernel, by decide +kernel⟩, List.mem_of_getElem? (i := 1114) (by decide +kernel), List.mem_of_getElem? (i := 1672) (by decide +kernel), List.mem_of_getElem? (i := 1673) (by decide +kernel)⟩
def lw_privs_4 : List (MethodName × Nat) := [(⟨"TenonyardModel", "forceOf", "(I)J"⟩, 27), (⟨"TenonyardModel", "reckonsForce", "(I)J"⟩, 27), (⟨"TenonyardModel", "isAtMost", "(JJJJ)Z"⟩, 27), (⟨"TenonyardModel", "tellLong", "(J)J"⟩, 27), (⟨"TenonyardModel", "thousandths", "(J)J"⟩, 27), (⟨"TenonyardModel", "bearingOf", "(IZ)J"⟩, 27), (⟨"TenonyardModel", "refuses", "(I)Z"⟩, 27), (⟨"TenonyardModel", "restOf", "(II)J"⟩, 27), (⟨"TenonyardModel", "tells", "(Z)Z"⟩, 27), (⟨"TenonyardModel", "isJoint", "(I)Z"⟩, 27), (⟨"TenonyardModel", "isGood", "(LTenonyardModel$Joint;)Z"⟩, 27), (⟨"TenonyardModel", "gapOf", "(LTenonyardModel$Joint;)I"⟩, 27), (⟨"TenonyardModel", "pieceOf", "(I)I"⟩, 27), (⟨"TenonyardModel", "areCut", "()Z"⟩, 27), (⟨"TenonyardModel", "saws", "()V"⟩, 27), (⟨"TenonyardModel", "sums", "()V"⟩, 27)]
theorem lw_r4 : ∀ q ∈ lw_privs_4, lw_okq q := List.forall_mem_cons.mpr ⟨lw_p48, List.forall_mem_cons.mpr ⟨lw_p49, List.forall_mem_cons.mpr ⟨lw_p50, List.forall_mem_cons.mpr ⟨lw_p51, List.forall_mem_cons.mpr ⟨lw_p52, List.forall_mem_cons.mpr ⟨lw_p53, List.forall_mem_cons.mpr ⟨lw_p54, List.forall_mem_cons.mpr ⟨lw_p55, List.forall_mem_cons.mpr ⟨lw_p56, List.forall_mem_cons.mpr ⟨lw_p57, List.forall_mem_cons.mpr ⟨lw_p58, List.forall_mem_cons.mpr ⟨lw_p59, List.forall_mem_cons.mpr ⟨lw_p60, List.forall_mem_cons.mpr ⟨lw_p61, List.forall_mem_cons.mpr ⟨lw_p62, List.forall_mem_cons.mpr ⟨lw_p63, fun _ h => absurd h List.not_mem_nil⟩⟩⟩⟩⟩⟩⟩⟩⟩⟩⟩⟩⟩⟩⟩⟩
theorem lw_p64 : lw_okq (⟨"TenonyardModel", "areEnough", "(I)Z"⟩, 27) := ⟨⟨by decide +kernel, by decide +kernel⟩, List.mem_of_getElem? (i := 1114) (by decide +kernel), List.mem_of_getElem? (i := 1681) (by decide +kernel), List.mem_of_getElem? (i := 1682) (by decide +kernel)⟩
theorem lw_p65 : lw_okq (⟨"TenonyardModel", "isFilled", "(ILTenonyardModel$Stick;)Z"⟩, 27) := ⟨⟨by decide +kernel, by decide +kernel⟩, List.mem_of_getElem? (i := 1114) (by decide +kernel), List.mem_of_getElem? (i := 1685) (by decide +kernel), List.mem_of_getElem? (i := 1686) (by decide +kernel)⟩
theorem lw_p66 : lw_okq (⟨"TenonyardModel", "cuts", "(II)Z"⟩, 27) := ⟨⟨by decide +kernel, by decide +kernel⟩, List.mem_of_getElem? (i := 1114) (by decide +kernel), List.mem_of_getElem? (i := 1689) (by decide +kernel), List.mem_of_getElem? (i := 1690) (by decide +kernel)⟩
theorem lw_p67 : lw_okq (⟨"TenonyardModel", "isBefore", "()Z"⟩, 27) := ⟨⟨by decide +kernel, by decide +kernel⟩, List.mem_of_getElem? (i := 1114) (by decide +kernel), List.mem_of_getElem? (i := 1693) (by decide +kernel), List.mem_of_getElem? (i := 1694) (by decide +kernel)⟩
theorem lw_p68 : lw_okq (⟨"TenonyardModel", "hasOrder", "()Z"⟩, 27) := ⟨⟨by decide +kernel, by decide +kernel⟩, List.mem_of_getElem? (i := 1114) (by decide +kernel), List.mem_of_getElem? (i := 1713) (by decide +kernel), List.mem_of_getElem? (i := 1714) (by decide +kernel)⟩
theorem lw_p69 : lw_okq (⟨"TenonyardModel", "raises", "()V"⟩, 27) := ⟨⟨by decide +kernel, by decide +kernel⟩, List.mem_of_getElem? (i := 1114) (by decide +kernel), List.mem_of_getElem? (i := 1717) (by decide +kernel), List.mem_of_getElem? (i := 1718) (by decide +kernel)⟩
theorem lw_p70 : lw_okq (⟨"TenonyardModel", "canFollow", "(II)Z"⟩, 27) := ⟨⟨by decide +kernel, by decide +kernel⟩, List.mem_of_getElem? (i := 1114) (by decide +kernel), List.mem_of_getElem? (i := 1721) (by decide +kernel), List.mem_of_getElem? (i := 1722) (by decide +kernel)⟩
theorem lw_p71 : lw_okq (⟨"TenonyardModel", "canGoIn", "(II)Z"⟩, 27) := ⟨⟨by decide +kernel, by decide +kernel⟩, List.mem_of_getElem? (i := 1114) (by decide +kernel), List.mem_of_getElem? (i := 1725) (by decide +kernel), List.mem_of_getElem? (i := 1726) (by decide +kernel)⟩
theorem lw_p72 : lw_okq (⟨"TenonyardModel", "propsFor", "(I)I"⟩, 27) := ⟨⟨by decide +kernel, by decide +kernel⟩, List.mem_of_getElem? (i := 1114) (by decide +kernel), List.mem_of_getElem? (i := 1733) (by decide +kernel), List.mem_of_getElem? (i := 1734) (by decide +kernel)⟩
theorem lw_p73 : lw_okq (⟨"TenonyardModel", "isTakenAway", "(I)Z"⟩, 27) := ⟨⟨by decide +kernel, by decide +kernel⟩, List.mem_of_getElem? (i := 1114) (by decide +kernel), List.mem_of_getElem? (i := 1745) (by decide +kernel), List.mem_of_getElem? (i := 1746) (by decide +kernel)⟩
def lw_privs_5 : List (MethodName × Nat) := [(⟨"TenonyardModel", "areEnough", "(I)Z"⟩, 27), (⟨"TenonyardModel", "isFilled", "(ILTenonyardModel$Stick;)Z"⟩, 27), (⟨"TenonyardModel", "cuts", "(II)Z"⟩, 27), (⟨"TenonyardModel", "isBefore", "()Z"⟩, 27), (⟨"TenonyardModel", "hasOrder", "()Z"⟩, 27), (⟨"TenonyardModel", "raises", "()V"⟩, 27), (⟨"TenonyardModel", "canFollow", "(II)Z"⟩, 27), (⟨"TenonyardModel", "canGoIn", "(II)Z"⟩, 27), (⟨"TenonyardModel", "propsFor", "(I)I"⟩, 27), (⟨"TenonyardModel", "isTakenAway", "(I)Z"⟩, 27)]
theorem lw_r5 : ∀ q ∈ lw_privs_5, lw_okq q := List.forall_mem_cons.mpr ⟨lw_p64, List.forall_mem_cons.mpr ⟨lw_p65, List.forall_mem_cons.mpr ⟨lw_p66, List.forall_mem_cons.mpr ⟨lw_p67, List.forall_mem_cons.mpr ⟨lw_p68, List.forall_mem_cons.mpr ⟨lw_p69, List.forall_mem_cons.mpr ⟨lw_p70, List.forall_mem_cons.mpr ⟨lw_p71, List.forall_mem_cons.mpr ⟨lw_p72, List.forall_mem_cons.mpr ⟨lw_p73, fun _ h => absurd h List.not_mem_nil⟩⟩⟩⟩⟩⟩⟩⟩⟩⟩
def lw_privs : List (MethodName × Nat) := lw_privs_1 ++ (lw_privs_2 ++ (lw_privs_3 ++ (lw_privs_4 ++ (lw_privs_5))))
def lw_tbl : List Cond := k2_sels lw_privs ++ tables_1
theorem lw_privs_ok : ∀ q ∈ lw_privs, lw_okq q := by
  show ∀ q ∈ lw_privs_1 ++ (lw_privs_2 ++ (lw_privs_3 ++ (lw_privs_4 ++ (lw_privs_5)))), lw_okq q
  exact List.forall_mem_append.mpr ⟨lw_r1, List.forall_mem_append.mpr ⟨lw_r2, List.forall_mem_append.mpr ⟨lw_r3, List.forall_mem_append.mpr ⟨lw_r4, lw_r5⟩⟩⟩⟩
/-- the streams that the claim lets the run draw from -/
abbrev lw_cs : List Choice := [Jvm.Choice.named "NaN.bits"]
theorem lw_bits : nanBits ∈ lw_cs := by first | decide | exact List.mem_cons_self | simp [lw_cs, nanBits]
end
section
/-! ===== BEGIN words of one list among another's, by their places ===== -/
theorem goodIn_r {big : List Cond} (ws : List Cond) (ps : List Nat) (hp : ws = ps.filterMap (fun i => big[i]?)) (h : ws.all goodWord = true) : GoodIn big ws := by
  intro w hw
  have h1 := List.all_eq_true.mp h w hw
  rw [hp] at hw
  obtain ⟨i, -, hi⟩ := List.mem_filterMap.mp hw
  have hm : w ∈ big := by first | exact List.mem_of_getElem? hi | exact List.getElem?_mem hi
  exact ⟨hm, good_of_word h1⟩
theorem goodIn_app {big a b : List Cond} (ha : GoodIn big a) (hb : GoodIn big b) : GoodIn big (a ++ b) := fun w h => (List.mem_append.mp h).elim (ha w) (hb w)
theorem goodIn_ca {big a b : List Cond} {c : Cond} (ha : GoodIn big (c :: a)) (hb : GoodIn big b) : GoodIn big (c :: (a ++ b)) := fun w h => (List.mem_cons.mp h).elim (fun e => ha w (List.mem_cons.mpr (Or.inl e))) (fun h => (List.mem_append.mp h).elim (fun h => ha w (List.mem_cons.mpr (Or.inr h))) (hb w))
theorem goodIn_sub {big ws : List Cond} (hm : ∀ w ∈ ws, w ∈ big) (h : ws.all goodWord = true) : GoodIn big ws := fun w hw => ⟨hm w hw, good_of_word (List.all_eq_true.mp h w hw)⟩
/-! ===== END ===== -/

/-! ===== BEGIN exceptions that leave a method, and their catching by the caller (launches without stack traces) ===== -/
section VXA
/-! The laws vx_back, vx_callV, vx_callS, vx_callSW, vx_throw0, vx_throwS follow proofs of the library, with one case more: JvmDerived/Free/Laws.lean (Back.of_free), Shelf42/LK1.lean (callV, callS), Shelf/KitTraced.lean (throwNew0V, throwNewS). -/
/-- where a method has thrown q: the class by its name, the cell, what was written, the world -/
def vx_T (XC : String → State → State → Prop) (st : State) (q : Addr) (t : State) (mc ms : Nat) (free : Addr → Prop) : Prop :=
  ∃ (E : String) (ce : Cell) (L : List Loc), XC E st t ∧ t.heap[q]? = some ce ∧ ce.vm = .none ∧ st.vm.findClass E = some ce.cls ∧ st.WarmedH t.vm ∧ st.sameButNew ({ t with vm := st.vm } : State) L mc ms ∧ ∀ z ∈ L, free z.base
def vx_Q (Qc : Array Value → State → Outcome → State → Prop) (XC : String → State → State → Prop) (mc ms : Nat) (free : Addr → Prop) : Array Value → State → Outcome → State → Prop := fun a st o t =>
  (Qc a st o t ∧ ∃ L, FrameEnd st o t L mc ms ∧ ∀ q ∈ L, free q.base) ∨ ∃ q, o = .threw q ∧ vx_T XC st q t mc ms free
/-- a callee that returns or throws -/
def vx_Met (l : Launch) (y : MethodName) (ws : List Cond) (rm : Room) (Pc : Array Value → State → Prop) (Qc : Array Value → State → Outcome → State → Prop) (XC : String → State → State → Prop) (mc ms : Nat) (free : Addr → Prop) : Prop :=
  MetFree l y (headSpec ws rm) Pc (fun _ _ _ _ _ => True) (vx_Q Qc XC mc ms free)
def vx_Post (XC : String → State → State → Prop) (mc ms : Nat) (free : Addr → Prop) : Pt → Array Value → Addr → Pt → Prop := fun A a q B =>
  ∃ (g : JFrame) (mk : MethodId) (t : State) (L : List Loc) (E : String) (ce : Cell), B.U.heap = t.heap ∧ B.U.vm = t.vm ∧ XC E (A.U.calling g mk a) t ∧ t.heap[q]? = some ce ∧ ce.vm = .none ∧ A.U.vm.findClass E = some ce.cls ∧ B.locs = A.locs ++ L ∧ (∀ z ∈ L, free z.base) ∧ B.cells = A.cells + mc ∧ B.slots = A.slots + ms
def vx_Back (l : Launch) (R : Room) (p : Program) (e : Env) (below : List Frame) (s : State) (sargs : Array Value) (y : MethodName) (len W9 : Nat)
    (Pre : Pt → Array Value → Prop) (Post : Pt → Array Value → Option Value → Pt → Prop) (PostX : Pt → Array Value → Addr → Pt → Prop) : Prop :=
  ∀ (m : MethodId) (meth : Method) (c : Code) (A : Pt) (g : JFrame) (ig : Instr) (mk : MethodId) (a : Array Value),
    Stand p l e R s m sargs below meth c A.U A.locs A.cells A.slots → g.method = m → g.locals.size = c.maxLocals → decode c.code g.pc = .ok (ig, len) →
    2 * g.monitorRoom + (g.stack.map fun v => v.category).sum ≤ W9 → A.U.methodNamed? y = some mk → Pre A a →
    (∃ (v : Option Value) (B : Pt), Stand p l e R s m sargs below meth c B.U B.locs B.cells B.slots ∧ Post A a v B ∧
      Steps p.tables e below (doInvoke e (A.U.setTop g) [] mk a).1 (B.U.setTop { g with pc := g.pc + len, stack := v.toList ++ g.stack })) ∨
    (∃ (q : Addr) (B : Pt), Stand p l e R s m sargs below meth c B.U B.locs B.cells B.slots ∧ PostX A a q B ∧
      Steps p.tables e below (doInvoke e (A.U.setTop g) [] mk a).1 ((B.U.setTop g).pushFrame (.throwing q)))
section Payer
variable {l : Launch} {R : Room} {p : Program} {e : Env} {below : List Frame} {s : State} {sargs : Array Value} {y : MethodName} {len W9 : Nat}
theorem vx_back {ws : List Cond} {rm : Room} {Pc : Array Value → State → Prop} {Qc : Array Value → State → Outcome → State → Prop} {XC : String → State → State → Prop} {mc ms : Nat} {free : Addr → Prop} {bytes : ByteArray} {maxL : Nat} {ret : Option FieldType}
    (hM : vx_Met l y ws rm Pc Qc XC mc ms free) (hblind : FrameBlind Pc) (hrc : rm.cells = mc) (hrs : rm.slots = ms)
    (hframes : rm.frames + 1 ≤ R.frames) (hlocals : W9 + (maxL + 11) + rm.locals ≤ R.locals)
    (hws : ∀ w ∈ ws, ∀ a' U, s.WarmedH U.vm → w.before a' U = true) (hcode : Cond.code y bytes maxL ret ∈ ws) (hinit : ∀ a' U, s.WarmedH U.vm → (Cond.initialized y.cls).before a' U = true) :
    vx_Back l R p e below s sargs y len W9 (PreOf R mc ms Pc) (PostOf Qc mc ms free) (vx_Post XC mc ms free) := by
  intro m meth c A g ig mk a X hg hsize hdg hW hn hp
  have h1 : (headSpec ws rm).pre.before a A.U = true := atoms_intro fun w hw => hws w hw _ _ X.warmed
  have h2 : (Cond.code y bytes maxL ret).before a A.U = true := hws _ hcode _ _ X.warmed
  have h3 : (Cond.initialized y.cls).before a A.U = true := hinit _ _ X.warmed
  have h4 : A.cells + (headSpec ws rm).room.cells ≤ R.cells := by rw [show (headSpec ws rm).room.cells = mc from hrc]; exact hp.1
  have h5 : A.slots + (headSpec ws rm).room.slots ≤ R.slots := by rw [show (headSpec ws rm).room.slots = ms from hrs]; exact hp.2.1
  have hPc : Pc a (A.U.calling g mk a) := hblind _ _ _ _ hp.2.2
  obtain ⟨U, Ls, c0, s0⟩ := A
  dsimp only [Pt.U, Pt.locs, Pt.cells, Pt.slots] at h1 h2 h3 h4 h5 X hn hPc ⊢
  obtain ⟨methY, cY, hmY, hcY, -, hlY, -, -, -, -⟩ := Cond.code_spec hn h2
  obtain ⟨kY, hkY, -⟩ := className_of_methodNamed hn
  have hinitY : kY.init = .initialized := Cond.initialized_spec (findClass_of_methodNamed hn) hkY h3
  have h : At U g.method c below := by rw [hg]; exact X.here
  have hlocals9 : W9 + (maxL + 11) + (headSpec ws rm).room.locals ≤ R.locals := hlocals
  have happ : (headSpec ws rm).appliesLoose y e.platform (U.calling g mk a) = true :=
    Spec.appliesLoose_calling (g := g) h hdg hn hkY hinitY
      (X.room_calling (g := g) (R' := (headSpec ws rm).room) hsize hmY hcY hframes (by rw [hlY]; omega) h4 h5) h1
  obtain ⟨mid, hmid⟩ := h.above
  have hfr : (U.setTop g).frames = (.java g :: mid) ++ below := by rw [State.frames_setTop' g h.top, hmid]; rfl
  obtain ⟨o, s₂, hsteps, -, hend, hq⟩ := Steps.callFree hM p X.admits X.cas X.clock (acts := []) hfr happ hPc trivial
  have hq' : vx_Q Qc XC mc ms free a (U.calling g mk a) o s₂ := hq
  rw [State.frames_setTop' g h.top] at hend
  obtain ⟨g₀, hg0⟩ := Option.isSome_iff_exists.mp h.top
  obtain ⟨r, hr⟩ := State.topJava?_eq_some.mp hg0
  have hr' : (({ U with heap := s₂.heap, slotsUsed := s₂.slotsUsed } : State).setVm s₂.vm).frames = .java g₀ :: r := hr
  rcases hq' with ⟨hqc, L, hfe, hL⟩ | ⟨q, rfl, E, ce, L, hx, hce, hcv, hcl, hW₂, hsm, hL⟩
  · obtain ⟨⟨v, rfl⟩, hW₂, e2, q2, q3, q4, q5, q6⟩ := id hfe
    have e3 : s₂ = ({ (U.calling g mk a).setFrames s₂.frames with heap := s₂.heap, slotsUsed := s₂.slotsUsed } : State).setVm s₂.vm := by
      have : s₂ = ({ s₂ with vm := (U.calling g mk a).vm } : State).setVm s₂.vm := rfl
      rw [e2] at this
      exact this
    obtain ⟨c₂, i₂, len₂, hc₂, hd₂, hf₂⟩ := hend
    have hW' : U.WarmedH s₂.vm := hW₂
    have hcc : c₂ = c := by
      have h1 : s₂.code? g.method = U.code? g.method := by
        rw [State.code?_eq, State.code?_eq, hW'.alike.method?]
      exact Option.some.inj (hc₂.symm.trans (h1.trans h.code))
    subst hcc
    have hlen : len₂ = len := by rw [hdg] at hd₂; cases hd₂; rfl
    subst hlen
    have hs₂ : s₂ = (({ U with heap := s₂.heap, slotsUsed := s₂.slotsUsed } : State).setVm s₂.vm).setTop { g with pc := g.pc + len₂, stack := v.toList ++ g.stack } := by
      refine e3.trans ?_
      rw [hf₂, State.calling_eq h.top, State.setFrames_setFrames, State.setTop_of_frames _ hr', hr]
      rfl
    have hsame : U.sameButNew ({ U with heap := s₂.heap, slotsUsed := s₂.slotsUsed } : State) L mc ms := by
      refine ⟨?_, q2, q3, q4, q5, q6⟩
      obtain ⟨t, ht, -⟩ := State.frames_cons hr
      show ({ U with heap := s₂.heap, slotsUsed := s₂.slotsUsed } : State) = { U.setFrames U.frames with heap := s₂.heap, slotsUsed := s₂.slotsUsed }
      rw [State.setFrames_self ht]
    subst hg
    refine Or.inl ⟨v, ⟨(({ U with heap := s₂.heap, slotsUsed := s₂.slotsUsed } : State).setVm s₂.vm), Ls ++ L, c0 + mc, s0 + ms⟩,
      ⟨X.admits, X.cas, X.clock, X.frames, X.room, X.hears, X.method, X.code, (X.here.setHeapUsed s₂.heap s₂.slotsUsed).setVm hW'.alike, X.tail, State.WarmedH.trans X.warmed hW', X.limits, X.bytes, X.same.trans (hsame.setVm s.vm)⟩,
      ⟨g, mk, s₂, L, rfl, rfl, hqc, rfl, hL, rfl, rfl⟩, ?_⟩
    show Steps p.tables e below _ ((({ U with heap := s₂.heap, slotsUsed := s₂.slotsUsed } : State).setVm s₂.vm).setTop { g with pc := g.pc + len₂, stack := v.toList ++ g.stack })
    rw [← hs₂]
    exact hsteps
  · obtain ⟨e2, q2, q3, q4, q5, q6⟩ := id hsm
    have e3 : s₂ = ({ (U.calling g mk a).setFrames s₂.frames with heap := s₂.heap, slotsUsed := s₂.slotsUsed } : State).setVm s₂.vm := by
      have : s₂ = ({ s₂ with vm := (U.calling g mk a).vm } : State).setVm s₂.vm := rfl
      rw [e2] at this
      exact this
    have hf₂ : s₂.frames = .throwing q :: .java g :: U.frames.tail := hend
    have hW' : U.WarmedH s₂.vm := hW₂
    have hs₂ : s₂ = ((({ U with heap := s₂.heap, slotsUsed := s₂.slotsUsed } : State).setVm s₂.vm).setTop g).pushFrame (.throwing q) := by
      refine e3.trans ?_
      rw [hf₂, State.calling_eq h.top, State.setFrames_setFrames, State.pushFrame, State.frames_setTop _ hr', State.setTop_of_frames _ hr', State.setFrames_setFrames, hr]
      rfl
    have hsame : U.sameButNew ({ U with heap := s₂.heap, slotsUsed := s₂.slotsUsed } : State) L mc ms := by
      refine ⟨?_, q2, q3, q4, q5, q6⟩
      obtain ⟨t, ht, -⟩ := State.frames_cons hr
      show ({ U with heap := s₂.heap, slotsUsed := s₂.slotsUsed } : State) = { U.setFrames U.frames with heap := s₂.heap, slotsUsed := s₂.slotsUsed }
      rw [State.setFrames_self ht]
    subst hg
    refine Or.inr ⟨q, ⟨(({ U with heap := s₂.heap, slotsUsed := s₂.slotsUsed } : State).setVm s₂.vm), Ls ++ L, c0 + mc, s0 + ms⟩,
      ⟨X.admits, X.cas, X.clock, X.frames, X.room, X.hears, X.method, X.code, (X.here.setHeapUsed s₂.heap s₂.slotsUsed).setVm hW'.alike, X.tail, State.WarmedH.trans X.warmed hW', X.limits, X.bytes, X.same.trans (hsame.setVm s.vm)⟩,
      ⟨g, mk, s₂, L, E, ce, rfl, rfl, hx, hce, hcv, hcl, rfl, hL, rfl, rfl⟩, ?_⟩
    show Steps p.tables e below _ (((({ U with heap := s₂.heap, slotsUsed := s₂.slotsUsed } : State).setVm s₂.vm).setTop g).pushFrame (.throwing q))
    rw [← hs₂]
    exact hsteps
end Payer
section Calls
variable {p : Program} {l : Launch} {e : Env} {R : Room} {s : State} {m : MethodId} {args : Array Value} {below : List Frame} {meth : Method} {c : Code} {T : State} {locs : List Loc} {cells slots : Nat}
theorem vx_callV (X : Stand p l e R s m args below meth c T locs cells slots) (hexec : p.tables.exec = Jvm.exec) {own C : String} {index : Nat} {y : MethodName} {bytes : ByteArray} {maxL : Nat} {ret : Option FieldType}
    (hown : s.vm.findClass own = some m.cls) (hlink : (Cond.methodLink own index y).before args s = true) (hinst : (Cond.instanceMethod y).before args s = true) (hsel : (Cond.selects C y y).before args s = true)
    (hcode : (Cond.code y bytes maxL ret).before args s = true) (hy : y.cls ≠ "java/lang/invoke/MethodHandle" ∧ y.cls ≠ "java/lang/invoke/VarHandle")
    {W9 : Nat} {Pre : Pt → Array Value → Prop} {Post : Pt → Array Value → Option Value → Pt → Prop} {PostX : Pt → Array Value → Addr → Pt → Prop} (hK : vx_Back l R p e below s args y 3 W9 Pre Post PostX)
    {b : Addr} {cellB : Cell} (hcell : T.heap[b]? = some cellB) (hobj : cellB.vm.isStatics = false) (hcls : s.vm.findClass C = some cellB.cls)
    {g : JFrame} (hg : g.method = m) (hsize : g.locals.size = c.maxLocals) {argsL rest : List Value} (hlen : ∀ sig, parseMethodDescriptor y.desc = some sig → argsL.length = sig.parameters.length)
    (hstack : g.stack = argsL.reverse ++ .ref b :: rest) (hW : 2 * g.monitorRoom + (rest.map fun v => v.category).sum ≤ W9) (hdg : decode c.code g.pc = .ok (.invokevirtual index, 3))
    (hpre : ∀ vm₁, s.WarmedH vm₁ → Pre ⟨T.setVm vm₁, locs, cells, slots⟩ (Value.ref b :: argsL).toArray) :
    (∃ (v : Option Value) (vm₁ : Vm) (B : Pt), s.WarmedH vm₁ ∧ Stand p l e R s m args below meth c B.U B.locs B.cells B.slots ∧ Post ⟨T.setVm vm₁, locs, cells, slots⟩ (Value.ref b :: argsL).toArray v B ∧
      ∀ target, Steps p.tables e below (B.U.setTop { g with pc := g.pc + 3, stack := v.toList ++ rest }) target → Steps p.tables e below (T.setTop g) target) ∨
    (∃ (q : Addr) (vm₁ : Vm) (B : Pt), s.WarmedH vm₁ ∧ Stand p l e R s m args below meth c B.U B.locs B.cells B.slots ∧ PostX ⟨T.setVm vm₁, locs, cells, slots⟩ (Value.ref b :: argsL).toArray q B ∧
      Steps p.tables e below (T.setTop g) ((B.U.setTop { g with stack := rest }).pushFrame (.throwing q))) := by
  obtain ⟨mk, methM, hnamed, hmethM, hstM, habM⟩ := Cond.instanceMethod_spec hinst
  obtain ⟨methM', cM, hmethM', -, -, -, -, -, -, hsigM⟩ := Cond.code_spec hnamed hcode
  cases hmethM.symm.trans hmethM'
  obtain ⟨c2, r2, m2, q1, q2, q3, q4, kP, hkP, hkPi⟩ := Cond.selects_spec hsel
  cases hcls.symm.trans q1
  cases (State.methodFound?_of_named hnamed hy).symm.trans q2
  cases hnamed.symm.trans q3
  have hselP : selectMethod e.platform s.vm cellB.cls mk = .method mk := by rw [Launch.admits_selectMethod X.admits]; exact q4
  obtain ⟨vm₁, X₁, hstep₁⟩ := X.invokevirtual hexec hown hlink hnamed hmethM hstM hkP hkPi hy (a := b) (cell := cellB) hcell
    (fun z h => by rw [h] at hobj; cases hobj) hselP hmethM habM hkP hkPi (g := g) hg (argsL := argsL) (rest := rest) (hlen _ hsigM) hstack hdg
  rcases hK m meth c ⟨T.setVm vm₁, locs, cells, slots⟩ { g with stack := rest } (.invokevirtual index) mk (Value.ref b :: argsL).toArray X₁ hg hsize hdg hW (X₁.named hnamed) (hpre vm₁ X₁.warmed) with ⟨v, B, X', hpost, hsteps⟩ | ⟨q, B, X', hpost, hsteps⟩
  · exact Or.inl ⟨v, vm₁, B, X₁.warmed, X', hpost, fun target h => hstep₁ _ fun acts => by rw [doInvoke_state]; exact hsteps.trans h⟩
  · exact Or.inr ⟨q, vm₁, B, X₁.warmed, X', hpost, hstep₁ _ fun acts => by rw [doInvoke_state]; exact hsteps⟩
theorem vx_callS (X : Stand p l e R s m args below meth c T locs cells slots) (hexec : p.tables.exec = Jvm.exec) {own : String} {index : Nat} {y : MethodName} {bytes : ByteArray} {maxL : Nat} {ret : Option FieldType}
    (hown : s.vm.findClass own = some m.cls) (hlink : (Cond.methodLink own index y).before args s = true) (hstat : (Cond.static y).before args s = true) (hinit : (Cond.initialized y.cls).before args s = true)
    (hcode : (Cond.code y bytes maxL ret).before args s = true) (hy : y.cls ≠ "java/lang/invoke/MethodHandle" ∧ y.cls ≠ "java/lang/invoke/VarHandle")
    {W9 : Nat} {Pre : Pt → Array Value → Prop} {Post : Pt → Array Value → Option Value → Pt → Prop} {PostX : Pt → Array Value → Addr → Pt → Prop} (hK : vx_Back l R p e below s args y 3 W9 Pre Post PostX)
    {g : JFrame} (hg : g.method = m) (hsize : g.locals.size = c.maxLocals) {argsL rest : List Value} (hlen : ∀ sig, parseMethodDescriptor y.desc = some sig → argsL.length = sig.parameters.length)
    (hstack : g.stack = argsL.reverse ++ rest) (hW : 2 * g.monitorRoom + (rest.map fun v => v.category).sum ≤ W9) (hdg : decode c.code g.pc = .ok (.invokestatic index, 3))
    (hpre : ∀ vm₁, s.WarmedH vm₁ → Pre ⟨T.setVm vm₁, locs, cells, slots⟩ argsL.toArray) :
    (∃ (v : Option Value) (vm₁ : Vm) (B : Pt), s.WarmedH vm₁ ∧ Stand p l e R s m args below meth c B.U B.locs B.cells B.slots ∧ Post ⟨T.setVm vm₁, locs, cells, slots⟩ argsL.toArray v B ∧
      ∀ target, Steps p.tables e below (B.U.setTop { g with pc := g.pc + 3, stack := v.toList ++ rest }) target → Steps p.tables e below (T.setTop g) target) ∨
    (∃ (q : Addr) (vm₁ : Vm) (B : Pt), s.WarmedH vm₁ ∧ Stand p l e R s m args below meth c B.U B.locs B.cells B.slots ∧ PostX ⟨T.setVm vm₁, locs, cells, slots⟩ argsL.toArray q B ∧
      Steps p.tables e below (T.setTop g) ((B.U.setTop { g with stack := rest }).pushFrame (.throwing q))) := by
  obtain ⟨mk, hnamed⟩ := Cond.code_named hcode
  obtain ⟨methM, cM, hmethM, -, -, -, -, -, -, hsigM⟩ := Cond.code_spec hnamed hcode
  have hstatic : methM.isStatic = true := Cond.static_spec hnamed hmethM hstat
  obtain ⟨kP, hkP, -⟩ := className_of_methodNamed hnamed
  have hinitP : kP.init = .initialized := Cond.initialized_spec (findClass_of_methodNamed hnamed) hkP hinit
  obtain ⟨vm₁, X₁, hstep₁⟩ := X.invokestatic hexec hown hlink hnamed hmethM hstatic hkP hinitP hy (g := g) hg (argsL := argsL) (rest := rest) (hlen _ hsigM) hstack hdg
  rcases hK m meth c ⟨T.setVm vm₁, locs, cells, slots⟩ { g with stack := rest } (.invokestatic index) mk argsL.toArray X₁ hg hsize hdg hW (X₁.named hnamed) (hpre vm₁ X₁.warmed) with ⟨v, B, X', hpost, hsteps⟩ | ⟨q, B, X', hpost, hsteps⟩
  · exact Or.inl ⟨v, vm₁, B, X₁.warmed, X', hpost, fun target h => hstep₁ _ fun acts => by rw [doInvoke_state]; exact hsteps.trans h⟩
  · exact Or.inr ⟨q, vm₁, B, X₁.warmed, X', hpost, hstep₁ _ fun acts => by rw [doInvoke_state]; exact hsteps⟩
end Calls
theorem vx_cls {s : State} {T : State} {vm₁ : Vm} {E : String} {k : ClassId} (hW : s.WarmedH vm₁) (h : (T.setVm vm₁).vm.findClass E = some k) : s.vm.findClass E = some k := by
  have h1 : vm₁.findClass E = some k := h
  rw [hW.alike.findClass] at h1
  exact h1
/-- the method's frame g, with q thrown over it -/
def vx_W (p : Program) (l : Launch) (e : Env) (R : Room) (s : State) (m : MethodId) (args : Array Value) (below : List Frame) (meth : Method) (c : Code) (H : Heap) (locs : List Loc) (cells slots : Nat) (Q : State → Prop) (g : JFrame) (q : Addr) : Prop :=
  ∀ T : State, T.heap = H → Stand p l e R s m args below meth c T locs cells slots → ∃ t, Steps p.tables e below ((T.setTop g).pushFrame (.throwing q)) t ∧ Q t
def vx_Run (p : Program) (l : Launch) (e : Env) (R : Room) (s : State) (m : MethodId) (args : Array Value) (below : List Frame) (meth : Method) (c : Code) (H : Heap) (locs : List Loc) (cells slots mc ms : Nat) (g : JFrame) (rest : List Value) (Qa : State → Outcome → State → Prop) (XC : String → State → State → Prop) (free : Addr → Prop) : Prop :=
  ∀ T : State, T.heap = H → Stand p l e R s m args below meth c T locs cells slots →
    (∃ (v : Option Value) (st₀ t T' : State) (L : List Loc), st₀.heap = H ∧ Stand p l e R s m args below meth c T' (locs ++ L) (cells + mc) (slots + ms) ∧ (∀ q ∈ L, free q.base) ∧ T'.heap = t.heap ∧ T'.vm = t.vm ∧ Qa st₀ (.returned v) t ∧
      Goes p e below T g T' { g with pc := g.pc + 3, stack := v.toList ++ rest }) ∨
    (∃ (q : Addr) (st₀ t T' : State) (L : List Loc) (E : String) (ce : Cell), st₀.heap = H ∧ Stand p l e R s m args below meth c T' (locs ++ L) (cells + mc) (slots + ms) ∧ (∀ z ∈ L, free z.base) ∧ T'.heap = t.heap ∧ T'.vm = t.vm ∧ XC E st₀ t ∧ t.heap[q]? = some ce ∧ ce.vm = .none ∧ s.vm.findClass E = some ce.cls ∧
      Steps p.tables e below (T.setTop g) ((T'.setTop { g with stack := rest }).pushFrame (.throwing q)))
def vx_X {S : Type} (px : S → Prop) (B : String → S → State → Prop) (A : Nat → Prop) : String → State → State → Prop := fun E st t => ∃ u : S, px u ∧ B E u t ∧ va_F A st t
section Runs
variable {p : Program} {l : Launch} {e : Env} {R : Room} {s : State} {m : MethodId} {args : Array Value} {below : List Frame} {meth : Method} {c : Code} {H : Heap} {locs : List Loc} {cells slots : Nat}
variable {y : MethodName} {bytes cc : ByteArray} {maxL nL mc ms n index : Nat} {ret : Option FieldType} {ws : List Cond} {rm : Room} {Pc : Array Value → State → Prop} {Qc : Array Value → State → Outcome → State → Prop} {XC : String → State → State → Prop} {free : Addr → Prop} {Ts : List Cond} {own C : String} {b : Addr} {As rest : List Value} {g : JFrame}
theorem vx_callBack (cb : CallB R s args own index y bytes maxL ret ws rm mc ms n) (hM : vx_Met l y ws rm Pc Qc XC mc ms free) (hbl : FrameBlind Pc) : vx_Back l R p e below s args y 3 8 (PreOf R mc ms Pc) (PostOf Qc mc ms free) (vx_Post XC mc ms free) := by
  obtain ⟨hrc, hrs, hfr, hlo, hws, hcw, -, hini, -⟩ := cb
  exact vx_back (bytes := bytes) (maxL := maxL) (ret := ret) hM hbl hrc hrs hfr hlo hws hcw (fun a' U hW => word_at hW (Or.inl (by first | rfl | simp [Cond.onTables, Cond.keeps, Cond.steady])) hini)
theorem vx_runV (S : CallFix p m c cc nL s args Ts own) (hM : vx_Met l y ws rm Pc Qc XC mc ms free) (cw : CallW R s args own C index y bytes maxL ret ws rm mc ms n) (hp : PreV s H C b Pc As)
    (hg : g.method = m) (hn : As.length = n) (hsize : g.locals.size = nL) (hstack : g.stack = As.reverse ++ .ref b :: rest) (hW : 2 * g.monitorRoom + (rest.map fun v => v.category).sum ≤ 8) (hdg : decode cc g.pc = .ok (.invokevirtual index, 3)) (hf : cells + mc ≤ R.cells ∧ slots + ms ≤ R.slots) :
    vx_Run p l e R s m args below meth c H locs cells slots mc ms g rest (Qc (Value.ref b :: As).toArray) XC free := by
  have hK : vx_Back l R p e below s args y 3 8 (PreOf R mc ms Pc) (PostOf Qc mc ms free) (vx_Post XC mc ms free) := vx_callBack cw.1 hM hp.1
  obtain ⟨⟨-, -, -, -, -, -, hcode, -, hy, hlen, hl⟩, hin, hse⟩ := cw
  obtain ⟨hx, hb, hml, ho, -⟩ := S
  obtain ⟨-, ⟨cellB, hcB, hoB, hclB⟩, hPc⟩ := hp
  intro T hT X
  rcases vx_callV X hx (C := C) (bytes := bytes) (maxL := maxL) (ret := ret) ho hl hin hse hcode hy hK (by rw [hT]; exact hcB) hoB hclB hg (hsize.trans hml.symm) (argsL := As) (rest := rest) (fun sig h => hn.trans (hlen sig h)) hstack hW (by rw [hb]; exact hdg)
    (fun vm₁ hW₁ => ⟨hf.1, hf.2, hPc (T.setVm vm₁) hT hW₁⟩) with ⟨v, vm₁, ⟨U', l2, c2, s2⟩, hW₁, X', ⟨g', mk, t, L, e1, e2, hq, h1, hL, h2, h3⟩, st⟩ | ⟨q, vm₁, ⟨U', l2, c2, s2⟩, hW₁, X', ⟨g', mk, t, L, E, ce, e1, e2, hq, hce, hcv, hcl, h1, hL, h2, h3⟩, st⟩
  · dsimp only [Pt.U, Pt.locs, Pt.cells, Pt.slots] at X' e1 e2 h1 h2 h3 st
    subst h1; subst h2; subst h3
    exact Or.inl ⟨v, (T.setVm vm₁).calling g' mk (Value.ref b :: As).toArray, t, U', L, hT, X', hL, e1, e2, hq, st⟩
  · dsimp only [Pt.U, Pt.locs, Pt.cells, Pt.slots] at X' e1 e2 h1 h2 h3 st hcl
    subst h1; subst h2; subst h3
    exact Or.inr ⟨q, (T.setVm vm₁).calling g' mk (Value.ref b :: As).toArray, t, U', L, E, ce, hT, X', hL, e1, e2, hq, hce, hcv, vx_cls hW₁ hcl, st⟩
theorem vx_runS (S : CallFix p m c cc nL s args Ts own) (hM : vx_Met l y ws rm Pc Qc XC mc ms free) (cw : CallB R s args own index y bytes maxL ret ws rm mc ms n ∧ (Cond.static y).before args s = true) (hp : PreS s H Pc As)
    (hg : g.method = m) (hn : As.length = n) (hsize : g.locals.size = nL) (hstack : g.stack = As.reverse ++ rest) (hW : 2 * g.monitorRoom + (rest.map fun v => v.category).sum ≤ 8) (hdg : decode cc g.pc = .ok (.invokestatic index, 3)) (hf : cells + mc ≤ R.cells ∧ slots + ms ≤ R.slots) :
    vx_Run p l e R s m args below meth c H locs cells slots mc ms g rest (Qc As.toArray) XC free := by
  have hK : vx_Back l R p e below s args y 3 8 (PreOf R mc ms Pc) (PostOf Qc mc ms free) (vx_Post XC mc ms free) := vx_callBack cw.1 hM hp.1
  obtain ⟨⟨-, -, -, -, -, -, hcode, hini, hy, hlen, hl⟩, hstt⟩ := cw
  obtain ⟨hx, hb, hml, ho, -⟩ := S
  intro T hT X
  rcases vx_callS X hx (bytes := bytes) (maxL := maxL) (ret := ret) ho hl hstt hini hcode hy hK hg (hsize.trans hml.symm) (argsL := As) (rest := rest) (fun sig h => hn.trans (hlen sig h)) hstack hW (by rw [hb]; exact hdg)
    (fun vm₁ hW₁ => ⟨hf.1, hf.2, hp.2 (T.setVm vm₁) hT hW₁⟩) with ⟨v, vm₁, ⟨U', l2, c2, s2⟩, hW₁, X', ⟨g', mk, t, L, e1, e2, hq, h1, hL, h2, h3⟩, st⟩ | ⟨q, vm₁, ⟨U', l2, c2, s2⟩, hW₁, X', ⟨g', mk, t, L, E, ce, e1, e2, hq, hce, hcv, hcl, h1, hL, h2, h3⟩, st⟩
  · dsimp only [Pt.U, Pt.locs, Pt.cells, Pt.slots] at X' e1 e2 h1 h2 h3 st
    subst h1; subst h2; subst h3
    exact Or.inl ⟨v, (T.setVm vm₁).calling g' mk As.toArray, t, U', L, hT, X', hL, e1, e2, hq, st⟩
  · dsimp only [Pt.U, Pt.locs, Pt.cells, Pt.slots] at X' e1 e2 h1 h2 h3 st hcl
    subst h1; subst h2; subst h3
    exact Or.inr ⟨q, (T.setVm vm₁).calling g' mk As.toArray, t, U', L, E, ce, hT, X', hL, e1, e2, hq, hce, hcv, vx_cls hW₁ hcl, st⟩
end Runs
section Rows
variable {p : Program} {l : Launch} {e : Env} {R : Room} {s : State} {m : MethodId} {args : Array Value} {below : List Frame} {meth : Method} {c : Code} {H : Heap} {locs : List Loc} {cells slots : Nat} {Q : State → Prop}
variable {mc ms : Nat} {free : Addr → Prop} {A0 A1 : Nat → Prop} {H0 : Heap} {a : Array Value} {pc : Nat} {ls : Array Slot} {st0 rest : List Value}
theorem vx_keep {st₀ t T' : State} {L : List Loc} (h0 : st₀.heap = H) (e1 : T'.heap = t.heap) (hS : va_S A0 H0 H locs) (hA : ∀ q, q < H.size → A1 q → A0 q) (hf : ∀ q, free q → A0 q) (hL : ∀ q ∈ L, free q.base) (hF : va_F A1 st₀ t) :
    H.size ≤ T'.heap.size ∧ (∀ q : Nat, q < H.size → ¬ A1 q → T'.heap[q]? = H[q]?) ∧ va_S A0 H0 T'.heap (locs ++ L) := by
  obtain ⟨hz, hk⟩ := hF
  rw [h0] at hz hk
  exact ⟨by rw [e1]; exact hz, fun q h1 h2 => by rw [e1]; exact hk q h1 h2,
    ⟨Nat.le_trans hS.1 (by rw [e1]; exact hz), fun q h1 h2 => by rw [e1, hk q (Nat.lt_of_lt_of_le h1 hS.1) (fun z => h2 (hA q (Nat.lt_of_lt_of_le h1 hS.1) z))]; exact hS.2.1 q h1 h2, fun q hq => by
      rcases List.mem_append.mp hq with h | h
      · exact hS.2.2 q h
      · exact hf _ (hL q h)⟩⟩
theorem vx_calli {S SX : Type} {post : Int32 → S → Prop} {px : SX → Prop} {B : S → State → Prop} {BX : String → SX → State → Prop} {AX : Nat → Prop} (hr : vx_Run p l e R s m args below meth c H locs cells slots mc ms (F0 m pc ls st0) rest (va_Qi post B A1 a) (vx_X px BX AX) free) (hS : va_S A0 H0 H locs) (hA : ∀ q, q < H.size → A1 q → A0 q) (hf : ∀ q, free q → A0 q) (hAX : ∀ q, q < H.size → AX q → A0 q)
    (kx : ∀ (E : String) (ce : Cell) (q9 : Addr) (u : SX) (t : State) (H1 : Heap) (locs1 : List Loc), t.heap = H1 → s.vm.Alike t.vm → px u → BX E u t → H.size ≤ H1.size → (∀ q : Nat, q < H.size → ¬ AX q → H1[q]? = H[q]?) → va_S A0 H0 H1 locs1 → H1[q9]? = some ce → ce.vm = .none → s.vm.findClass E = some ce.cls → vx_W p l e R s m args below meth c H1 locs1 (cells + mc) (slots + ms) Q (F0 m pc ls rest) q9)
    (kk : ∀ (r : Int32) (u : S) (t : State) (H1 : Heap) (locs1 : List Loc), t.heap = H1 → s.vm.Alike t.vm → post r u → B u t → H.size ≤ H1.size → (∀ q : Nat, q < H.size → ¬ A1 q → H1[q]? = H[q]?) → va_S A0 H0 H1 locs1 → W p l e R s m args below meth c H1 locs1 (cells + mc) (slots + ms) Q (F0 m (pc + 3) ls (.int r :: rest))) : W p l e R s m args below meth c H locs cells slots Q (F0 m pc ls st0) := by
  intro T hT X
  rcases hr T hT X with ⟨v, st₀, t, T', L, h0, X', hL, e1, e2, ⟨⟨r, u, hv, hp, hb⟩, hF⟩, st⟩ | ⟨q, st₀, t, T', L, E, ce, h0, X', hL, e1, e2, ⟨u, hp, hb, hF⟩, hce, hcv, hcl, st⟩
  · cases hv
    obtain ⟨k1, k2, k3⟩ := vx_keep h0 e1 hS hA hf hL hF
    obtain ⟨t2, a1, b1⟩ := kk r u t T'.heap (locs ++ L) e1.symm (by rw [← e2]; exact X'.warmed.alike) hp hb k1 k2 k3 T' rfl X'
    exact ⟨t2, st t2 a1, b1⟩
  · obtain ⟨k1, k2, k3⟩ := vx_keep h0 e1 hS hAX hf hL hF
    obtain ⟨t2, a1, b1⟩ := kx E ce q u t T'.heap (locs ++ L) e1.symm (by rw [← e2]; exact X'.warmed.alike) hp hb k1 k2 k3 (by rw [e1]; exact hce) hcv hcl T' rfl X'
    exact ⟨t2, st.trans a1, b1⟩
theorem vx_calll {S SX : Type} {post : Int64 → S → Prop} {px : SX → Prop} {B : S → State → Prop} {BX : String → SX → State → Prop} {AX : Nat → Prop} (hr : vx_Run p l e R s m args below meth c H locs cells slots mc ms (F0 m pc ls st0) rest (va_Ql post B A1 a) (vx_X px BX AX) free) (hS : va_S A0 H0 H locs) (hA : ∀ q, q < H.size → A1 q → A0 q) (hf : ∀ q, free q → A0 q) (hAX : ∀ q, q < H.size → AX q → A0 q)
    (kx : ∀ (E : String) (ce : Cell) (q9 : Addr) (u : SX) (t : State) (H1 : Heap) (locs1 : List Loc), t.heap = H1 → s.vm.Alike t.vm → px u → BX E u t → H.size ≤ H1.size → (∀ q : Nat, q < H.size → ¬ AX q → H1[q]? = H[q]?) → va_S A0 H0 H1 locs1 → H1[q9]? = some ce → ce.vm = .none → s.vm.findClass E = some ce.cls → vx_W p l e R s m args below meth c H1 locs1 (cells + mc) (slots + ms) Q (F0 m pc ls rest) q9)
    (kk : ∀ (r : Int64) (u : S) (t : State) (H1 : Heap) (locs1 : List Loc), t.heap = H1 → s.vm.Alike t.vm → post r u → B u t → H.size ≤ H1.size → (∀ q : Nat, q < H.size → ¬ A1 q → H1[q]? = H[q]?) → va_S A0 H0 H1 locs1 → W p l e R s m args below meth c H1 locs1 (cells + mc) (slots + ms) Q (F0 m (pc + 3) ls (.long r :: rest))) : W p l e R s m args below meth c H locs cells slots Q (F0 m pc ls st0) := by
  intro T hT X
  rcases hr T hT X with ⟨v, st₀, t, T', L, h0, X', hL, e1, e2, ⟨⟨r, u, hv, hp, hb⟩, hF⟩, st⟩ | ⟨q, st₀, t, T', L, E, ce, h0, X', hL, e1, e2, ⟨u, hp, hb, hF⟩, hce, hcv, hcl, st⟩
  · cases hv
    obtain ⟨k1, k2, k3⟩ := vx_keep h0 e1 hS hA hf hL hF
    obtain ⟨t2, a1, b1⟩ := kk r u t T'.heap (locs ++ L) e1.symm (by rw [← e2]; exact X'.warmed.alike) hp hb k1 k2 k3 T' rfl X'
    exact ⟨t2, st t2 a1, b1⟩
  · obtain ⟨k1, k2, k3⟩ := vx_keep h0 e1 hS hAX hf hL hF
    obtain ⟨t2, a1, b1⟩ := kx E ce q u t T'.heap (locs ++ L) e1.symm (by rw [← e2]; exact X'.warmed.alike) hp hb k1 k2 k3 (by rw [e1]; exact hce) hcv hcl T' rfl X'
    exact ⟨t2, st.trans a1, b1⟩
theorem vx_callf {S SX : Type} {post : UInt32 → S → Prop} {px : SX → Prop} {B : S → State → Prop} {BX : String → SX → State → Prop} {AX : Nat → Prop} (hr : vx_Run p l e R s m args below meth c H locs cells slots mc ms (F0 m pc ls st0) rest (va_Qf post B A1 a) (vx_X px BX AX) free) (hS : va_S A0 H0 H locs) (hA : ∀ q, q < H.size → A1 q → A0 q) (hf : ∀ q, free q → A0 q) (hAX : ∀ q, q < H.size → AX q → A0 q)
    (kx : ∀ (E : String) (ce : Cell) (q9 : Addr) (u : SX) (t : State) (H1 : Heap) (locs1 : List Loc), t.heap = H1 → s.vm.Alike t.vm → px u → BX E u t → H.size ≤ H1.size → (∀ q : Nat, q < H.size → ¬ AX q → H1[q]? = H[q]?) → va_S A0 H0 H1 locs1 → H1[q9]? = some ce → ce.vm = .none → s.vm.findClass E = some ce.cls → vx_W p l e R s m args below meth c H1 locs1 (cells + mc) (slots + ms) Q (F0 m pc ls rest) q9)
    (kk : ∀ (r : UInt32) (u : S) (t : State) (H1 : Heap) (locs1 : List Loc), t.heap = H1 → s.vm.Alike t.vm → post r u → B u t → H.size ≤ H1.size → (∀ q : Nat, q < H.size → ¬ A1 q → H1[q]? = H[q]?) → va_S A0 H0 H1 locs1 → W p l e R s m args below meth c H1 locs1 (cells + mc) (slots + ms) Q (F0 m (pc + 3) ls (.float r :: rest))) : W p l e R s m args below meth c H locs cells slots Q (F0 m pc ls st0) := by
  intro T hT X
  rcases hr T hT X with ⟨v, st₀, t, T', L, h0, X', hL, e1, e2, ⟨⟨r, u, hv, hp, hb⟩, hF⟩, st⟩ | ⟨q, st₀, t, T', L, E, ce, h0, X', hL, e1, e2, ⟨u, hp, hb, hF⟩, hce, hcv, hcl, st⟩
  · cases hv
    obtain ⟨k1, k2, k3⟩ := vx_keep h0 e1 hS hA hf hL hF
    obtain ⟨t2, a1, b1⟩ := kk r u t T'.heap (locs ++ L) e1.symm (by rw [← e2]; exact X'.warmed.alike) hp hb k1 k2 k3 T' rfl X'
    exact ⟨t2, st t2 a1, b1⟩
  · obtain ⟨k1, k2, k3⟩ := vx_keep h0 e1 hS hAX hf hL hF
    obtain ⟨t2, a1, b1⟩ := kx E ce q u t T'.heap (locs ++ L) e1.symm (by rw [← e2]; exact X'.warmed.alike) hp hb k1 k2 k3 (by rw [e1]; exact hce) hcv hcl T' rfl X'
    exact ⟨t2, st.trans a1, b1⟩
theorem vx_calld {S SX : Type} {post : UInt64 → S → Prop} {px : SX → Prop} {B : S → State → Prop} {BX : String → SX → State → Prop} {AX : Nat → Prop} (hr : vx_Run p l e R s m args below meth c H locs cells slots mc ms (F0 m pc ls st0) rest (va_Qd post B A1 a) (vx_X px BX AX) free) (hS : va_S A0 H0 H locs) (hA : ∀ q, q < H.size → A1 q → A0 q) (hf : ∀ q, free q → A0 q) (hAX : ∀ q, q < H.size → AX q → A0 q)
    (kx : ∀ (E : String) (ce : Cell) (q9 : Addr) (u : SX) (t : State) (H1 : Heap) (locs1 : List Loc), t.heap = H1 → s.vm.Alike t.vm → px u → BX E u t → H.size ≤ H1.size → (∀ q : Nat, q < H.size → ¬ AX q → H1[q]? = H[q]?) → va_S A0 H0 H1 locs1 → H1[q9]? = some ce → ce.vm = .none → s.vm.findClass E = some ce.cls → vx_W p l e R s m args below meth c H1 locs1 (cells + mc) (slots + ms) Q (F0 m pc ls rest) q9)
    (kk : ∀ (r : UInt64) (u : S) (t : State) (H1 : Heap) (locs1 : List Loc), t.heap = H1 → s.vm.Alike t.vm → post r u → B u t → H.size ≤ H1.size → (∀ q : Nat, q < H.size → ¬ A1 q → H1[q]? = H[q]?) → va_S A0 H0 H1 locs1 → W p l e R s m args below meth c H1 locs1 (cells + mc) (slots + ms) Q (F0 m (pc + 3) ls (.double r :: rest))) : W p l e R s m args below meth c H locs cells slots Q (F0 m pc ls st0) := by
  intro T hT X
  rcases hr T hT X with ⟨v, st₀, t, T', L, h0, X', hL, e1, e2, ⟨⟨r, u, hv, hp, hb⟩, hF⟩, st⟩ | ⟨q, st₀, t, T', L, E, ce, h0, X', hL, e1, e2, ⟨u, hp, hb, hF⟩, hce, hcv, hcl, st⟩
  · cases hv
    obtain ⟨k1, k2, k3⟩ := vx_keep h0 e1 hS hA hf hL hF
    obtain ⟨t2, a1, b1⟩ := kk r u t T'.heap (locs ++ L) e1.symm (by rw [← e2]; exact X'.warmed.alike) hp hb k1 k2 k3 T' rfl X'
    exact ⟨t2, st t2 a1, b1⟩
  · obtain ⟨k1, k2, k3⟩ := vx_keep h0 e1 hS hAX hf hL hF
    obtain ⟨t2, a1, b1⟩ := kx E ce q u t T'.heap (locs ++ L) e1.symm (by rw [← e2]; exact X'.warmed.alike) hp hb k1 k2 k3 (by rw [e1]; exact hce) hcv hcl T' rfl X'
    exact ⟨t2, st.trans a1, b1⟩
theorem vx_callv {S SX : Type} {post : S → Prop} {px : SX → Prop} {B : S → State → Prop} {BX : String → SX → State → Prop} {AX : Nat → Prop} (hr : vx_Run p l e R s m args below meth c H locs cells slots mc ms (F0 m pc ls st0) rest (va_Qv post B A1 a) (vx_X px BX AX) free) (hS : va_S A0 H0 H locs) (hA : ∀ q, q < H.size → A1 q → A0 q) (hf : ∀ q, free q → A0 q) (hAX : ∀ q, q < H.size → AX q → A0 q)
    (kx : ∀ (E : String) (ce : Cell) (q9 : Addr) (u : SX) (t : State) (H1 : Heap) (locs1 : List Loc), t.heap = H1 → s.vm.Alike t.vm → px u → BX E u t → H.size ≤ H1.size → (∀ q : Nat, q < H.size → ¬ AX q → H1[q]? = H[q]?) → va_S A0 H0 H1 locs1 → H1[q9]? = some ce → ce.vm = .none → s.vm.findClass E = some ce.cls → vx_W p l e R s m args below meth c H1 locs1 (cells + mc) (slots + ms) Q (F0 m pc ls rest) q9)
    (kk : ∀ (u : S) (t : State) (H1 : Heap) (locs1 : List Loc), t.heap = H1 → s.vm.Alike t.vm → post u → B u t → H.size ≤ H1.size → (∀ q : Nat, q < H.size → ¬ A1 q → H1[q]? = H[q]?) → va_S A0 H0 H1 locs1 → W p l e R s m args below meth c H1 locs1 (cells + mc) (slots + ms) Q (F0 m (pc + 3) ls (rest))) : W p l e R s m args below meth c H locs cells slots Q (F0 m pc ls st0) := by
  intro T hT X
  rcases hr T hT X with ⟨v, st₀, t, T', L, h0, X', hL, e1, e2, ⟨⟨u, hv, hp, hb⟩, hF⟩, st⟩ | ⟨q, st₀, t, T', L, E, ce, h0, X', hL, e1, e2, ⟨u, hp, hb, hF⟩, hce, hcv, hcl, st⟩
  · cases hv
    obtain ⟨k1, k2, k3⟩ := vx_keep h0 e1 hS hA hf hL hF
    obtain ⟨t2, a1, b1⟩ := kk u t T'.heap (locs ++ L) e1.symm (by rw [← e2]; exact X'.warmed.alike) hp hb k1 k2 k3 T' rfl X'
    exact ⟨t2, st t2 a1, b1⟩
  · obtain ⟨k1, k2, k3⟩ := vx_keep h0 e1 hS hAX hf hL hF
    obtain ⟨t2, a1, b1⟩ := kx E ce q u t T'.heap (locs ++ L) e1.symm (by rw [← e2]; exact X'.warmed.alike) hp hb k1 k2 k3 (by rw [e1]; exact hce) hcv hcl T' rfl X'
    exact ⟨t2, st.trans a1, b1⟩
/-- caught by the row x of this method's table; the rows ahead don't take it -/
theorem vx_catch {own name : String} {E : String} {ce : Cell} {q : Addr} (hown : s.vm.findClass own = some m.cls) (pre : List ExceptionTableEntry) (x : ExceptionTableEntry) (suf : List ExceptionTableEntry) (hsplit : c.exceptionTable.toList = pre ++ x :: suf)
    (hpass : ∀ z ∈ pre, covers z pc = false ∨ (z.catchType ≠ 0 ∧ ∃ nm : String, (Cond.classLink own z.catchType nm).before args s = true ∧ va_Nc E nm s)) (hx : covers x pc = true) (h0 : x.catchType ≠ 0)
    (hlink : (Cond.classLink own x.catchType name).before args s = true) (hcast : (Cond.castable E name).before args s = true) (hcell : H[q]? = some ce) (hv : ce.vm = .none) (hcl : s.vm.findClass E = some ce.cls)
    (kk : W p l e R s m args below meth c H locs cells slots Q (F0 m x.handlerPc ls [.ref q])) : vx_W p l e R s m args below meth c H locs cells slots Q (F0 m pc ls rest) q := by
  intro T hT X
  have hpl : e.platform.magicAccessors = ({} : Platform).magicAccessors := by rw [X.admits.platform]
  obtain ⟨c3, c4, hc3, hc4, hasg⟩ := Cond.castable_spec hcast
  cases Option.some.inj (hc3.symm.trans hcl)
  obtain ⟨c5, hc5, hcl5⟩ := Cond.classLink_spec hown hlink e.platform hpl
  cases Option.some.inj (hc4.symm.trans hc5)
  obtain ⟨vm', X', st⟩ := X.thenCaughtThrough q (g := F0 m pc ls rest) rfl (Steps.refl _) (by rw [hT]; exact hcell) (by rw [hv]; rfl) (by obtain ⟨k9, h9, -⟩ := Vm.findClass_spec hcl; exact ⟨k9, h9⟩) pre x suf hsplit
    (fun z hz => by
      rcases hpass z hz with h | ⟨hz0, nm, hl1, hn1⟩
      · exact Or.inl h
      · obtain ⟨c6, hc6, hcl6⟩ := Cond.classLink_spec hown hl1 e.platform hpl
        obtain ⟨a8, b8, h1, h2, h3⟩ := hn1
        cases Option.some.inj (h1.symm.trans hcl)
        cases Option.some.inj (h2.symm.trans hc6)
        exact Or.inr ⟨hz0, _, hcl6, h3⟩) hx (Or.inr ⟨h0, c4, hcl5, hasg⟩)
  obtain ⟨t, a1, b1⟩ := kk (T.setVm vm') hT X'
  exact ⟨t, st.trans a1, b1⟩
end Rows
section Ends
variable {p : Program} {l : Launch} {e : Env} {R : Room} {s : State} {m : MethodId} {args : Array Value} {below : List Frame} {meth : Method} {c : Code} {H : Heap} {locs : List Loc} {cells slots : Nat} {Q : State → Prop}
variable {mc ms : Nat} {free : Addr → Prop} {A0 A1 : Nat → Prop} {H0 : Heap} {a : Array Value} {ls : Array Slot} {st0 rest : List Value}
variable {Qc : Array Value → State → Outcome → State → Prop} {XC : String → State → State → Prop}
/-- what a body that may throw owes at its end -/
def vx_MQ (below : List Frame) (Qc : Array Value → State → Outcome → State → Prop) (XC : String → State → State → Prop) (a : Array Value) (s : State) (mc ms : Nat) (free : Addr → Prop) : State → Prop := fun t =>
  ∃ o, t.status = .running ∧ Ended t below o ∧ vx_Q Qc XC mc ms free a s o t
theorem vx_ret {g : JFrame} {mc ms : Nat} (k : W p l e R s m args below meth c H locs cells slots (MQ below Qc args s mc ms free) g) : W p l e R s m args below meth c H locs cells slots (vx_MQ below Qc XC args s mc ms free) g := by
  intro T hT X
  obtain ⟨t, a1, o, b1, b2, b3, b4⟩ := k T hT X
  exact ⟨t, a1, o, b1, b2, Or.inl ⟨b3, b4⟩⟩
/-- not caught here: it goes on to the caller -/
theorem vx_widen {g : JFrame} {q : Addr} {k n : Nat} (h1 : cells ≤ k) (h2 : slots ≤ n) (kk : vx_W p l e R s m args below meth c H locs k n Q g q) : vx_W p l e R s m args below meth c H locs cells slots Q g q := fun T hT X => kk T hT (stand_widen X h1 h2)
theorem vx_out {pc : Nat} {E : String} {ce : Cell} {q : Addr} {mc ms : Nat} (hout : ∀ x ∈ c.exceptionTable.toList, covers x pc = false) (hlocks : meth.locks = false) (hcell : H[q]? = some ce) (hv : ce.vm = .none) (hcl : s.vm.findClass E = some ce.cls)
    (hx : ∀ t : State, t.heap = H → s.vm.Alike t.vm → XC E s t) (hf : ∀ z ∈ locs, free z.base) (hc : cells ≤ mc) (hs : slots ≤ ms) :
    vx_W p l e R s m args below meth c H locs cells slots (vx_MQ below Qc XC args s mc ms free) (F0 m pc ls rest) q := by
  intro T hT X
  obtain ⟨st1, hrun, hend, hW, hsm⟩ := X.leaveThrown q (g := F0 m pc ls rest) rfl rfl rfl hout hlocks
  have hcell9 : (T.setFrames (.throwing q :: below)).heap[q]? = some ce := by
    show T.heap[q]? = some ce
    rw [hT]; exact hcell
  exact ⟨_, st1, .threw q, hrun, hend, Or.inr ⟨q, rfl, E, ce, locs, hx _ hT hW.alike, hcell9, hv, hcl, hW, hsm.mono hc hs, hf⟩⟩
theorem vx_frame {U : State} {k n : Nat} (h : s.sameButNew ({ U with vm := s.vm } : State) locs k n) : s.heap.size ≤ U.heap.size ∧ ∀ q : Nat, q < s.heap.size → (∀ z ∈ locs, z.base ≠ q) → U.heap[q]? = s.heap[q]? := by
  obtain ⟨-, h2, -, -, -, h6⟩ := h
  refine ⟨h2, fun q hq hz => ?_⟩
  obtain ⟨c9, e1, e2, e3, e4⟩ := h6 q _ (Array.getElem?_eq_getElem hq)
  have hs : c9.slots = (s.heap[q]).slots := Array.ext_getElem? fun i => e4 i fun hm => hz _ hm rfl
  have h9 : c9 = s.heap[q] := by
    rw [hs] at e2
    exact e2
  have e5 : U.heap[q]? = some c9 := e1
  rw [e5, h9, Array.getElem?_eq_getElem hq]
/-- the words of a throw but the four that speak of the heap -/
def vx_no (w : Cond) : Bool := decide (w ≠ .isRef (.static Bundle.tN "UNASSIGNED_STACK" Bundle.steD)) && decide (w ≠ .isRef (.static Bundle.tN "SUPPRESSED_SENTINEL" Bundle.listD)) && decide (w ≠ .laysStatic Bundle.tN "UNASSIGNED_STACK" Bundle.steD) && decide (w ≠ .laysStatic Bundle.tN "SUPPRESSED_SENTINEL" Bundle.listD)
def vx_at0 (own : String) (ic : Nat) (X : String) (names : List String) : List Cond := (Bundle.ownAtoms0 own ic X names).filter vx_no
def vx_atS (own : String) (ic : Nat) (X : String) (names : List String) : List Cond := (Bundle.ownAtoms own ic X names).filter vx_no
/-- a word that the tables alone decide, or a good one -/
def vx_ot (w : Cond) : Bool := w.onTables || goodWord w
theorem vx_ot_at {args a' : Array Value} {s U : State} {w : Cond} (hW : s.WarmedH U.vm) (hvm : s.vm = U.vm) (hg : vx_ot w = true) (h : w.before args s = true) : w.before a' U = true := by
  simp only [vx_ot, Bool.or_eq_true] at hg
  rcases hg with hg | hg
  · exact va_tabs hg hvm h
  · exact word_at hW (good_of_word hg) h
/-- a list's words: the good ones out of the method's own list, the others by premises of their own -/
theorem vx_hat {args : Array Value} {s : State} {L B : List Cond} (h1 : ∀ w ∈ L.filter goodWord, w.before args s = true) (h2 : ∀ w ∈ L.filter (fun w => !goodWord w), w ∈ B) (h3 : ∀ w ∈ B, w.before args s = true) : ∀ w ∈ L, w.before args s = true := by
  intro w hw
  by_cases g : goodWord w = true
  · exact h1 w (List.mem_filter.mpr ⟨hw, g⟩)
  · refine h3 w (h2 w (List.mem_filter.mpr ⟨hw, ?_⟩))
    show (!goodWord w) = true
    cases hgw : goodWord w
    · rfl
    · exact absurd hgw g
theorem vx_c {args : Array Value} {s : State} {w : Cond} {B : List Cond} (h : w.before args s = true) (t : ∀ w ∈ B, w.before args s = true) : ∀ w' ∈ w :: B, w'.before args s = true := fun w' h' => (List.mem_cons.mp h').elim (fun e => by rw [e]; exact h) (t w')
theorem vx_n {args : Array Value} {s : State} : ∀ w ∈ ([] : List Cond), w.before args s = true := fun _ h => nomatch h
theorem vx_own {args : Array Value} {s : State} {L : List Cond} (h1 : ∀ w ∈ L.filter vx_no, w.before args s = true)
    (hU : (Cond.isRef (.static Bundle.tN "UNASSIGNED_STACK" Bundle.steD)).before args s = true) (hN : (Cond.isRef (.static Bundle.tN "SUPPRESSED_SENTINEL" Bundle.listD)).before args s = true)
    (lU : (Cond.laysStatic Bundle.tN "UNASSIGNED_STACK" Bundle.steD).before args s = true) (lN : (Cond.laysStatic Bundle.tN "SUPPRESSED_SENTINEL" Bundle.listD).before args s = true) : ∀ w ∈ L, w.before args s = true := by
  intro w hw
  by_cases e1 : w = .isRef (.static Bundle.tN "UNASSIGNED_STACK" Bundle.steD)
  · rw [e1]; exact hU
  · by_cases e2 : w = .isRef (.static Bundle.tN "SUPPRESSED_SENTINEL" Bundle.listD)
    · rw [e2]; exact hN
    · by_cases e3 : w = .laysStatic Bundle.tN "UNASSIGNED_STACK" Bundle.steD
      · rw [e3]; exact lU
      · by_cases e4 : w = .laysStatic Bundle.tN "SUPPRESSED_SENTINEL" Bundle.listD
        · rw [e4]; exact lN
        · exact h1 w (List.mem_filter.mpr ⟨hw, by unfold vx_no; rw [decide_eq_true e1, decide_eq_true e2, decide_eq_true e3, decide_eq_true e4]; rfl⟩)
/-- where a static field lies, its class's statics cell in H -/
def vx_L (C n d : String) (A : Nat → Prop) (U : State) (H : Heap) : Prop := ∃ (c : ClassId) (k : Class) (i : Nat) (f : Field) (a : Nat) (cell : Cell), U.vm.findClass C = some c ∧ U.fieldFound? C n d = some (c, k, i, f) ∧ f.isStatic = true ∧ k.statics = some a ∧ H[a]? = some cell ∧ cell.vm.isStatics = true ∧ cell.cls = c ∧ f.slot < cell.slots.size ∧ k.staticTypes[f.slot]? = some f.type ∧ ¬ A a
theorem vx_L.moved {C n d : String} {A : Nat → Prop} {u U : State} {H : Heap} (hvm : u.vm.Alike U.vm) (h : vx_L C n d A u H) : vx_L C n d A U H := by
  obtain ⟨c, k, i, f, a, cell, h1, h2, h3, h4, h5, h6, h7, h8, h9, h10⟩ := h
  obtain ⟨k', hi', he⟩ := State.fieldFound?_setVm hvm h2
  exact ⟨c, k', i, f, a, cell, by rw [hvm.findClass]; exact h1, hi', h3, by rw [he]; exact h4, h5, h6, h7, h8, by rw [he]; exact h9, h10⟩
theorem vx_L.kept {C n d : String} {A : Nat → Prop} {U : State} {H H1 : Heap} (h : vx_L C n d A U H) (hq : ∀ a : Nat, a < H.size → ¬ A a → H1[a]? = H[a]?) : vx_L C n d A U H1 := by
  obtain ⟨c, k, i, f, a, cell, h1, h2, h3, h4, h5, h6, h7, h8, h9, h10⟩ := h
  exact ⟨c, k, i, f, a, cell, h1, h2, h3, h4, by rw [hq a (Array.getElem?_eq_some_iff.mp h5).1 h10]; exact h5, h6, h7, h8, h9, h10⟩
theorem vx_L.narrow {C n d : String} {A B : Nat → Prop} {U : State} {H : Heap} (h : vx_L C n d A U H) (hAB : ∀ q, B q → A q) : vx_L C n d B U H := by
  obtain ⟨c, k, i, f, a, cell, h1, h2, h3, h4, h5, h6, h7, h8, h9, h10⟩ := h
  exact ⟨c, k, i, f, a, cell, h1, h2, h3, h4, h5, h6, h7, h8, h9, fun z => h10 (hAB _ z)⟩
theorem vx_L.word {C n d : String} {A : Nat → Prop} {s : State} {args : Array Value} (h : vx_L C n d A s s.heap) : (Cond.laysStatic C n d).before args s = true := by
  obtain ⟨c, k, i, f, a, cell, h1, h2, h3, h4, h5, h6, h7, h8, h9, -⟩ := h
  show (Cond.laysStatic C n d).holds args s none s [] = true
  exact Cond.laysStatic_of h1 h2 h3 h4 h5 h6 h7 h8 h9
/-- .. and what it holds: null or some reference -/
def vx_Zq (C n d : String) (A : Nat → Prop) (U : State) (H : Heap) : Prop := va_Zq C n d A U H ∧ vx_L C n d A U H
theorem vx_Zq.moved {C n d : String} {A : Nat → Prop} {u U : State} {H : Heap} (hvm : u.vm.Alike U.vm) (h : vx_Zq C n d A u H) : vx_Zq C n d A U H := ⟨va_Zq.moved hvm h.1, vx_L.moved hvm h.2⟩
theorem vx_Zq.kept {C n d : String} {A : Nat → Prop} {U : State} {H H1 : Heap} (h : vx_Zq C n d A U H) (hq : ∀ a : Nat, a < H.size → ¬ A a → H1[a]? = H[a]?) : vx_Zq C n d A U H1 := ⟨va_Zq.kept h.1 hq, vx_L.kept h.2 hq⟩
theorem vx_Zq.narrow {C n d : String} {A B : Nat → Prop} {U : State} {H : Heap} (h : vx_Zq C n d A U H) (hAB : ∀ q, B q → A q) : vx_Zq C n d B U H := ⟨va_Zq.narrow h.1 hAB, vx_L.narrow h.2 hAB⟩
theorem vx_Zqof {args : Array Value} {s : State} {C n d : String} {A : Nat → Prop} (hl : (Cond.laysStatic C n d).before args s = true) (hini : (Cond.initialized C).before args s = true) (h : (Cond.isRef (.static C n d)).before args s = true) (hA : ∀ a : Nat, a < s.heap.size → ¬ A a) : vx_Zq C n d A s s.heap := by
  refine ⟨va_Zqof hl hini h hA, ?_⟩
  obtain ⟨c, k, i, f, a, cell, h1, h2, h3, h4, h5, h6, h7, h8, h9⟩ := Cond.laysStatic_spec hl
  exact ⟨c, k, i, f, a, cell, h1, h2, h3, h4, h5, h6, h7, h8, h9, hA a (Array.getElem?_eq_some_iff.mp h5).1⟩
theorem vx_isRef {C n d : String} {v : Value} {A : Nat → Prop} {s : State} {args : Array Value} (h : va_Z C n d v A s s.heap) (hv : v.isRef = true) : (Cond.isRef (.static C n d)).before args s = true := by
  obtain ⟨cf, kf, fi, f, a, cell, h1, h2, h3, h4, h5, h6, h7, -⟩ := h
  have he : (Term.static C n d).eval args s none [] s = some v := by
    simp [Term.eval, State.fieldNamed?, h1, h2, h4, h5, h6, h7]
  simp only [Cond.before, Cond.holds, Cond.value, he]
  cases v <;> simp_all [Value.isRef]
theorem vx_isRefq {C n d : String} {A : Nat → Prop} {s : State} {args : Array Value} (h : va_Zq C n d A s s.heap) : (Cond.isRef (.static C n d)).before args s = true := by
  rcases h with h | ⟨t, h⟩
  · exact vx_isRef h rfl
  · exact vx_isRef h rfl
/-- the same frame, seen from here: as if the method were called anew in this heap -/
theorem vx_rebase {T : State} (X : Stand p l e R s m args below meth c T locs cells slots) {R' : Room} (hf : R'.frames ≤ R.frames) (hl : R'.locals ≤ R.locals) (hc : cells + R'.cells ≤ R.cells) (hs : slots + R'.slots ≤ R.slots) :
    Stand p l e R' ((T.setVm s.vm).setFrames (.invoking m args :: below)) m args below meth c T [] 0 0 := by
  have htop : (T.setVm s.vm).topJava?.isSome := X.here.top
  have hF : ((T.setVm s.vm).setFrames (.invoking m args :: below)).frames = .invoking m args :: below := State.frames_setFrames _ (State.cur_lt_of_top htop)
  obtain ⟨g₀, hg0⟩ := Option.isSome_iff_exists.mp htop
  obtain ⟨r, hr⟩ := State.topJava?_eq_some.mp hg0
  have hl9 : e.platform.stackLimits (T.setVm s.vm).me = e.platform.stackLimits s.me := X.limits
  have hb9 : (T.setVm s.vm).me.stackBytes = s.me.stackBytes := X.bytes
  refine ⟨X.admits, X.cas, X.clock, hF, ?_, X.hears, X.method, X.code, X.here, X.tail, X.warmed, ?_, ?_, ?_⟩
  · have h := X.room
    have hU : ((T.setVm s.vm).setFrames (.invoking m args :: below)).localsInUse = s.localsInUse := by
      rw [State.localsInUse_invoking hF (meth := meth) (c := c) X.method X.code, State.localsInUse_invoking X.frames X.method X.code]
    simp only [State.hasRoom, Bool.and_eq_true, decide_eq_true_eq] at h ⊢
    obtain ⟨⟨⟨⟨h1, h2, h3, h4, h5, h6⟩, h7⟩, h8⟩, h9⟩ := h
    rw [X.frames, List.length_cons] at h2 h3
    have q1 := X.heapSize
    have q2 := X.used
    simp only [hF, hU, List.length_cons, State.stackLimits_setFrames, State.stackBytes_setFrames, hl9, hb9]
    refine ⟨⟨⟨⟨by omega, by omega, by omega, by omega, by omega, h6⟩, ?_⟩, ?_⟩, X.book⟩
    · show T.heap.size + R'.cells ≤ e.platform.maxCells
      omega
    · show T.slotsUsed + R'.slots ≤ e.platform.maxSlots
      omega
  · rw [State.stackLimits_setFrames]; rfl
  · rw [State.stackBytes_setFrames]; rfl
  · refine ⟨?_, Nat.le_refl _, Nat.le_refl _, ?_, ?_, fun a c9 h9 => ⟨c9, h9, rfl, rfl, fun _ _ => rfl⟩⟩
    · obtain ⟨t, ht, -⟩ := State.frames_cons hr
      show T.setVm s.vm = { ((T.setVm s.vm).setFrames (.invoking m args :: below)).setFrames (T.setVm s.vm).frames with heap := T.heap, slotsUsed := T.slotsUsed }
      rw [State.setFrames_setFrames, State.setFrames_self ht]
      rfl
    · show T.slotsUsed = T.slotsUsed + ((T.heap.toList.drop T.heap.size).map (·.slots.size)).sum
      rw [List.drop_eq_nil_of_le (Nat.le_of_eq Array.length_toList)]
      rfl
    · show ((T.heap.toList.drop T.heap.size).map (·.slots.size)).sum ≤ 0
      rw [List.drop_eq_nil_of_le (Nat.le_of_eq Array.length_toList)]
      exact Nat.le_refl _
/-- 'throw new E()': new; dup; invokespecial; athrow -/
theorem vx_throw0 {cc : ByteArray} {pc : Nat} (hexec : p.tables.exec = Jvm.exec) (hb : c.code = cc) (hl : l.stackTraces = false) {own cls : String} {names : List String} {ik ic mc ms : Nat} {A : Nat → Prop}
    (hown : s.vm.findClass own = some m.cls) (hcls : Bundle.fit cls = true) (hnames : ∀ n ∈ names, Bundle.fit n = true)
    (hk : (Cond.classLink own ik cls).before args s = true) (hini : (Cond.initialized cls).before args s = true) (hat : ∀ w ∈ vx_at0 own ic cls names, w.before args s = true)
    (hgood : ∀ w ∈ Cond.classLink own ik cls :: Cond.initialized cls :: vx_at0 own ic cls names, vx_ot w = true)
    (hU : vx_Zq Bundle.tN "UNASSIGNED_STACK" Bundle.steD A s s.heap) (hN : vx_Zq Bundle.tN "SUPPRESSED_SENTINEL" Bundle.listD A s s.heap) (hS : va_S A s.heap H locs) (hsize : ls.size = c.maxLocals)
    (d0 : decode cc pc = .ok (.new ik, 3)) (d3 : decode cc (pc + 3) = .ok (.dup, 1)) (d4 : decode cc (pc + 4) = .ok (.invokespecial ic, 3)) (d7 : decode cc (pc + 7) = .ok (.athrow, 1))
    (hout : ∀ x ∈ c.exceptionTable.toList, covers x (pc + 7) = false)
    (hRframes : names.length + 3 < R.frames) (hRlocals : (rest.map fun v => v.category).sum + (13 * (names.length + 1) + 42) ≤ R.locals) (hRcells : cells + 1 ≤ R.cells) (hRslots : slots + 6 ≤ R.slots) (hlocks : meth.locks = false)
    (hx : ∀ t : State, s.vm.Alike t.vm → H.size ≤ t.heap.size → (∀ q : Nat, q < H.size → t.heap[q]? = H[q]?) → XC cls s t)
    (hf : ∀ z ∈ locs, free z.base) (hc : cells + 1 ≤ mc) (hs : slots + 6 ≤ ms) :
    W p l e R s m args below meth c H locs cells slots (vx_MQ below Qc XC args s mc ms free) (F0 m pc ls rest) := by
  intro T hT X
  have htr : e.platform.stackTraces = false := (show e.platform.stackTraces = l.stackTraces by rw [X.admits.platform]).trans hl
  have Y := vx_rebase X (R' := { frames := R.frames, locals := R.locals, cells := 1, slots := 6 }) (Nat.le_refl _) (Nat.le_refl _) hRcells hRslots
  obtain ⟨s', hA⟩ : ∃ z, z = (T.setVm s.vm).setFrames (.invoking m args :: below) := ⟨_, rfl⟩
  rw [← hA] at Y
  have hvm : s'.vm = s.vm := by rw [hA]; rfl
  have hhp : s'.heap = H := by rw [hA]; exact hT
  have hW0 : s.WarmedH s'.vm := by rw [hvm]; exact State.WarmedH.refl s
  have hat' : ∀ w ∈ vx_at0 own ic cls names, w.before args s' = true := fun w hw => vx_ot_at hW0 hvm.symm (hgood w (List.mem_cons_of_mem _ (List.mem_cons_of_mem _ hw))) (hat w hw)
  have hk' : (Cond.classLink own ik cls).before args s' = true := vx_ot_at hW0 hvm.symm (hgood _ List.mem_cons_self) hk
  have hini' : (Cond.initialized cls).before args s' = true := vx_ot_at hW0 hvm.symm (hgood _ (List.mem_cons_of_mem _ List.mem_cons_self)) hini
  have hU' : vx_Zq Bundle.tN "UNASSIGNED_STACK" Bundle.steD A s' s'.heap := by rw [hhp]; exact vx_Zq.moved hW0.alike (hU.kept hS.2.1)
  have hN' : vx_Zq Bundle.tN "SUPPRESSED_SENTINEL" Bundle.listD A s' s'.heap := by rw [hhp]; exact vx_Zq.moved hW0.alike (hN.kept hS.2.1)
  have h : ∀ w ∈ Bundle.ownAtoms0 own ic cls names, w.before args s' = true := vx_own hat' (vx_isRefq hU'.1) (vx_isRefq hN'.1) hU'.2.word hN'.2.word
  have hown' : s'.vm.findClass own = some m.cls := by rw [hvm]; exact hown
  have hins : (Cond.instantiable cls 6).before args s' = true := h _ (by simp [Bundle.ownAtoms0])
  obtain ⟨vm₁, cX, kX, hfX, hkX, -, -, X₁, st1⟩ := Y.newCold hexec (own := own) (C := cls) (index := ik) (n := 6) hown' hk' hins hini'
    (g := F0 m pc ls rest) rfl (by rw [hb]; exact d0) (Nat.le_refl _) (Nat.le_refl _)
  generalize hT1 : (T.setVm vm₁).pushCell { cls := cX, slots := kX.instanceTypes.map defaultValue, vm := .none } = T1 at X₁ st1
  have hcat : (Value.ref T.heap.size).category = 1 := rfl
  have hcellA : T1.heap[T.heap.size]? = some (freshCell cX kX) := by rw [← hT1]; exact State.heap_pushCell_size _ _
  have d3' : decode c.code (pc + 3) = .ok (.dup, 1) := by rw [hb]; exact d3
  obtain ⟨U, hsteps, hrun, hend, hW, hsame, ce, hce, hO⟩ := X₁.ctorThrow0 hexec htr (own := own) (cls := cls) (names := names) (ic := ic) hown' hcls hnames h (fun x hx => nomatch hx) hfX hkX hcellA (by rw [hhp, hT]; exact Nat.le_refl _)
    (g := { method := m, pc := pc + 4, locals := ls, stack := .ref T.heap.size :: .ref T.heap.size :: rest, locked := none }) rfl hsize rfl rfl (rest := rest) rfl
    (by rw [hb]; exact d4) (by rw [hb]; exact d7) hout hRframes (by simp only [List.map_cons, List.sum_cons, hcat]; omega) hlocks
  obtain ⟨f1, f2⟩ := vx_frame hsame
  rw [hhp] at f1 f2
  have hWs : s.WarmedH U.vm := State.WarmedH.trans hW0 hW
  have hcl : s.vm.findClass cls = some ce.cls := by
    have h9 := hO.cls
    rw [hvm] at h9
    exact h9
  have hall : s.sameButNew ({ U with vm := s.vm } : State) locs mc ms := by
    subst hA
    obtain ⟨e1, e2⟩ := hsame
    rw [State.setFrames_setFrames] at e1
    have h2 : (T.setVm s.vm).sameButNew ({ U with vm := s.vm } : State) [] (0 + 1) (0 + 6) := ⟨e1, e2⟩
    have h3 := X.same.trans h2
    rw [List.append_nil] at h3
    exact h3.mono hc hs
  refine ⟨U, ?_, .threw T.heap.size, hrun, hend, Or.inr ⟨T.heap.size, rfl, cls, ce, locs, hx U hWs.alike f1 (fun q hq => f2 q hq (fun z hz => nomatch hz)), hce, hO.vm, hcl, hWs, hall, hf⟩⟩
  refine st1 _ ?_
  show Steps p.tables e below (T1.setTop { method := m, pc := pc + 3, locals := ls, stack := .ref T.heap.size :: rest, locked := none }) _
  jvm_step X₁.here [X₁.here.top, hexec, d3', Value.category]
  exact hsteps
/-- 'throw new E("text")': new; dup; ldc; invokespecial; athrow -/
theorem vx_throwS {cc : ByteArray} {pc : Nat} (hexec : p.tables.exec = Jvm.exec) (hb : c.code = cc) (hl : l.stackTraces = false) {own cls text : String} {names : List String} {ik is ic mc ms sa : Nat} {A : Nat → Prop}
    (hown : s.vm.findClass own = some m.cls) (hcls : Bundle.fit cls = true) (hnames : ∀ n ∈ names, Bundle.fit n = true)
    (hk : (Cond.classLink own ik cls).before args s = true) (hini : (Cond.initialized cls).before args s = true) (hstr : vk_R own is text sa s) (hat : ∀ w ∈ vx_atS own ic cls names, w.before args s = true)
    (hgood : ∀ w ∈ Cond.classLink own ik cls :: Cond.initialized cls :: vx_atS own ic cls names, vx_ot w = true)
    (hU : vx_Zq Bundle.tN "UNASSIGNED_STACK" Bundle.steD A s s.heap) (hN : vx_Zq Bundle.tN "SUPPRESSED_SENTINEL" Bundle.listD A s s.heap) (hS : va_S A s.heap H locs) (hsize : ls.size = c.maxLocals)
    (d0 : decode cc pc = .ok (.new ik, 3)) (d3 : decode cc (pc + 3) = .ok (.dup, 1)) (d4 : decode cc (pc + 4) = .ok (.ldc is, 2)) (d6 : decode cc (pc + 6) = .ok (.invokespecial ic, 3)) (d9 : decode cc (pc + 9) = .ok (.athrow, 1))
    (hout : ∀ x ∈ c.exceptionTable.toList, covers x (pc + 9) = false)
    (hRframes : names.length + 3 < R.frames) (hRlocals : (rest.map fun v => v.category).sum + (13 * (names.length + 1) + 43) ≤ R.locals) (hRcells : cells + 1 ≤ R.cells) (hRslots : slots + 6 ≤ R.slots) (hlocks : meth.locks = false)
    (hx : ∀ t : State, s.vm.Alike t.vm → H.size ≤ t.heap.size → (∀ q : Nat, q < H.size → t.heap[q]? = H[q]?) → XC cls s t)
    (hf : ∀ z ∈ locs, free z.base) (hc : cells + 1 ≤ mc) (hs : slots + 6 ≤ ms) :
    W p l e R s m args below meth c H locs cells slots (vx_MQ below Qc XC args s mc ms free) (F0 m pc ls rest) := by
  intro T hT X
  have htr : e.platform.stackTraces = false := (show e.platform.stackTraces = l.stackTraces by rw [X.admits.platform]).trans hl
  have Y := vx_rebase X (R' := { frames := R.frames, locals := R.locals, cells := 1, slots := 6 }) (Nat.le_refl _) (Nat.le_refl _) hRcells hRslots
  obtain ⟨s', hA⟩ : ∃ z, z = (T.setVm s.vm).setFrames (.invoking m args :: below) := ⟨_, rfl⟩
  rw [← hA] at Y
  have hvm : s'.vm = s.vm := by rw [hA]; rfl
  have hhp : s'.heap = H := by rw [hA]; exact hT
  have hW0 : s.WarmedH s'.vm := by rw [hvm]; exact State.WarmedH.refl s
  have hat' : ∀ w ∈ vx_atS own ic cls names, w.before args s' = true := fun w hw => vx_ot_at hW0 hvm.symm (hgood w (List.mem_cons_of_mem _ (List.mem_cons_of_mem _ hw))) (hat w hw)
  have hk' : (Cond.classLink own ik cls).before args s' = true := vx_ot_at hW0 hvm.symm (hgood _ List.mem_cons_self) hk
  have hini' : (Cond.initialized cls).before args s' = true := vx_ot_at hW0 hvm.symm (hgood _ (List.mem_cons_of_mem _ List.mem_cons_self)) hini
  have hU' : vx_Zq Bundle.tN "UNASSIGNED_STACK" Bundle.steD A s' s'.heap := by rw [hhp]; exact vx_Zq.moved hW0.alike (hU.kept hS.2.1)
  have hN' : vx_Zq Bundle.tN "SUPPRESSED_SENTINEL" Bundle.listD A s' s'.heap := by rw [hhp]; exact vx_Zq.moved hW0.alike (hN.kept hS.2.1)
  have h : ∀ w ∈ Bundle.ownAtoms own ic cls names, w.before args s' = true := vx_own hat' (vx_isRefq hU'.1) (vx_isRefq hN'.1) hU'.2.word hN'.2.word
  have hown' : s'.vm.findClass own = some m.cls := by rw [hvm]; exact hown
  have hins : (Cond.instantiable cls 6).before args s' = true := h _ (by simp [Bundle.ownAtoms])
  obtain ⟨vm₁, cX, kX, hfX, hkX, -, -, X₁, st1⟩ := Y.newCold hexec (own := own) (C := cls) (index := ik) (n := 6) hown' hk' hins hini'
    (g := F0 m pc ls rest) rfl (by rw [hb]; exact d0) (Nat.le_refl _) (Nat.le_refl _)
  generalize hT1 : (T.setVm vm₁).pushCell { cls := cX, slots := kX.instanceTypes.map defaultValue, vm := .none } = T1 at X₁ st1
  have hcat : (Value.ref T.heap.size).category = 1 := rfl
  have hcellA : T1.heap[T.heap.size]? = some (freshCell cX kX) := by rw [← hT1]; exact State.heap_pushCell_size _ _
  have d3' : decode c.code (pc + 3) = .ok (.dup, 1) := by rw [hb]; exact d3
  have d4' : decode c.code (pc + 4) = .ok (.ldc is, 2) := by rw [hb]; exact d4
  have hstr' : vk_R own is text sa s' := vk_R.warm hW0 hstr
  obtain ⟨U, hsteps, hrun, hend, hW, hsame, ce, hce, hO⟩ := X₁.ctorThrowS hexec htr (own := own) (cls := cls) (names := names) (ic := ic) hown' hcls hnames h (fun x hx => nomatch hx) hfX hkX hcellA (by rw [hhp, hT]; exact Nat.le_refl _) (msg := .ref sa) rfl
    (g := { method := m, pc := pc + 6, locals := ls, stack := .ref sa :: .ref T.heap.size :: .ref T.heap.size :: rest, locked := none }) rfl hsize rfl rfl (rest := rest) rfl
    (by rw [hb]; exact d6) (by rw [hb]; exact d9) hout hRframes (by simp only [List.map_cons, List.sum_cons, hcat]; omega) hlocks
  obtain ⟨f1, f2⟩ := vx_frame hsame
  rw [hhp] at f1 f2
  have hWs : s.WarmedH U.vm := State.WarmedH.trans hW0 hW
  have hcl : s.vm.findClass cls = some ce.cls := by
    have h9 := hO.cls
    rw [hvm] at h9
    exact h9
  have hall : s.sameButNew ({ U with vm := s.vm } : State) locs mc ms := by
    subst hA
    obtain ⟨e1, e2⟩ := hsame
    rw [State.setFrames_setFrames] at e1
    have h2 : (T.setVm s.vm).sameButNew ({ U with vm := s.vm } : State) [] (0 + 1) (0 + 6) := ⟨e1, e2⟩
    have h3 := X.same.trans h2
    rw [List.append_nil] at h3
    exact h3.mono hc hs
  refine ⟨U, ?_, .threw T.heap.size, hrun, hend, Or.inr ⟨T.heap.size, rfl, cls, ce, locs, hx U hWs.alike f1 (fun q hq => f2 q hq (fun z hz => nomatch hz)), hce, hO.vm, hcl, hWs, hall, hf⟩⟩
  refine st1 _ ?_
  show Steps p.tables e below (T1.setTop { method := m, pc := pc + 3, locals := ls, stack := .ref T.heap.size :: rest, locked := none }) _
  jvm_step X₁.here [X₁.here.top, hexec, d3', Value.category]
  exact X₁.ldcString hexec (own := own) (text := text) (index := is) (a := sa) hown' hstr'.1 hstr'.2
    (g := { method := m, pc := pc + 4, locals := ls, stack := .ref T.heap.size :: .ref T.heap.size :: rest, locked := none }) rfl d4' _ hsteps
/-- 'throw new E("text")', the text by a wide index -/
theorem vx_throwSW {cc : ByteArray} {pc : Nat} (hexec : p.tables.exec = Jvm.exec) (hb : c.code = cc) (hl : l.stackTraces = false) {own cls text : String} {names : List String} {ik is ic mc ms sa : Nat} {A : Nat → Prop}
    (hown : s.vm.findClass own = some m.cls) (hcls : Bundle.fit cls = true) (hnames : ∀ n ∈ names, Bundle.fit n = true)
    (hk : (Cond.classLink own ik cls).before args s = true) (hini : (Cond.initialized cls).before args s = true) (hstr : vk_R own is text sa s) (hat : ∀ w ∈ vx_atS own ic cls names, w.before args s = true)
    (hgood : ∀ w ∈ Cond.classLink own ik cls :: Cond.initialized cls :: vx_atS own ic cls names, vx_ot w = true)
    (hU : vx_Zq Bundle.tN "UNASSIGNED_STACK" Bundle.steD A s s.heap) (hN : vx_Zq Bundle.tN "SUPPRESSED_SENTINEL" Bundle.listD A s s.heap) (hS : va_S A s.heap H locs) (hsize : ls.size = c.maxLocals)
    (d0 : decode cc pc = .ok (.new ik, 3)) (d3 : decode cc (pc + 3) = .ok (.dup, 1)) (d4 : decode cc (pc + 4) = .ok (.ldc_w is, 3)) (d7 : decode cc (pc + 7) = .ok (.invokespecial ic, 3)) (d10 : decode cc (pc + 10) = .ok (.athrow, 1))
    (hout : ∀ x ∈ c.exceptionTable.toList, covers x (pc + 10) = false)
    (hRframes : names.length + 3 < R.frames) (hRlocals : (rest.map fun v => v.category).sum + (13 * (names.length + 1) + 43) ≤ R.locals) (hRcells : cells + 1 ≤ R.cells) (hRslots : slots + 6 ≤ R.slots) (hlocks : meth.locks = false)
    (hx : ∀ t : State, s.vm.Alike t.vm → H.size ≤ t.heap.size → (∀ q : Nat, q < H.size → t.heap[q]? = H[q]?) → XC cls s t)
    (hf : ∀ z ∈ locs, free z.base) (hc : cells + 1 ≤ mc) (hs : slots + 6 ≤ ms) :
    W p l e R s m args below meth c H locs cells slots (vx_MQ below Qc XC args s mc ms free) (F0 m pc ls rest) := by
  intro T hT X
  have htr : e.platform.stackTraces = false := (show e.platform.stackTraces = l.stackTraces by rw [X.admits.platform]).trans hl
  have Y := vx_rebase X (R' := { frames := R.frames, locals := R.locals, cells := 1, slots := 6 }) (Nat.le_refl _) (Nat.le_refl _) hRcells hRslots
  obtain ⟨s', hA⟩ : ∃ z, z = (T.setVm s.vm).setFrames (.invoking m args :: below) := ⟨_, rfl⟩
  rw [← hA] at Y
  have hvm : s'.vm = s.vm := by rw [hA]; rfl
  have hhp : s'.heap = H := by rw [hA]; exact hT
  have hW0 : s.WarmedH s'.vm := by rw [hvm]; exact State.WarmedH.refl s
  have hat' : ∀ w ∈ vx_atS own ic cls names, w.before args s' = true := fun w hw => vx_ot_at hW0 hvm.symm (hgood w (List.mem_cons_of_mem _ (List.mem_cons_of_mem _ hw))) (hat w hw)
  have hk' : (Cond.classLink own ik cls).before args s' = true := vx_ot_at hW0 hvm.symm (hgood _ List.mem_cons_self) hk
  have hini' : (Cond.initialized cls).before args s' = true := vx_ot_at hW0 hvm.symm (hgood _ (List.mem_cons_of_mem _ List.mem_cons_self)) hini
  have hU' : vx_Zq Bundle.tN "UNASSIGNED_STACK" Bundle.steD A s' s'.heap := by rw [hhp]; exact vx_Zq.moved hW0.alike (hU.kept hS.2.1)
  have hN' : vx_Zq Bundle.tN "SUPPRESSED_SENTINEL" Bundle.listD A s' s'.heap := by rw [hhp]; exact vx_Zq.moved hW0.alike (hN.kept hS.2.1)
  have h : ∀ w ∈ Bundle.ownAtoms own ic cls names, w.before args s' = true := vx_own hat' (vx_isRefq hU'.1) (vx_isRefq hN'.1) hU'.2.word hN'.2.word
  have hown' : s'.vm.findClass own = some m.cls := by rw [hvm]; exact hown
  have hins : (Cond.instantiable cls 6).before args s' = true := h _ (by simp [Bundle.ownAtoms])
  obtain ⟨vm₁, cX, kX, hfX, hkX, -, -, X₁, st1⟩ := Y.newCold hexec (own := own) (C := cls) (index := ik) (n := 6) hown' hk' hins hini'
    (g := F0 m pc ls rest) rfl (by rw [hb]; exact d0) (Nat.le_refl _) (Nat.le_refl _)
  generalize hT1 : (T.setVm vm₁).pushCell { cls := cX, slots := kX.instanceTypes.map defaultValue, vm := .none } = T1 at X₁ st1
  have hcat : (Value.ref T.heap.size).category = 1 := rfl
  have hcellA : T1.heap[T.heap.size]? = some (freshCell cX kX) := by rw [← hT1]; exact State.heap_pushCell_size _ _
  have d3' : decode c.code (pc + 3) = .ok (.dup, 1) := by rw [hb]; exact d3
  have d4' : decode c.code (pc + 4) = .ok (.ldc_w is, 3) := by rw [hb]; exact d4
  have hstr' : vk_R own is text sa s' := vk_R.warm hW0 hstr
  obtain ⟨U, hsteps, hrun, hend, hW, hsame, ce, hce, hO⟩ := X₁.ctorThrowS hexec htr (own := own) (cls := cls) (names := names) (ic := ic) hown' hcls hnames h (fun x hx => nomatch hx) hfX hkX hcellA (by rw [hhp, hT]; exact Nat.le_refl _) (msg := .ref sa) rfl
    (g := { method := m, pc := pc + 7, locals := ls, stack := .ref sa :: .ref T.heap.size :: .ref T.heap.size :: rest, locked := none }) rfl hsize rfl rfl (rest := rest) rfl
    (by rw [hb]; exact d7) (by rw [hb]; exact d10) hout hRframes (by simp only [List.map_cons, List.sum_cons, hcat]; omega) hlocks
  obtain ⟨f1, f2⟩ := vx_frame hsame
  rw [hhp] at f1 f2
  have hWs : s.WarmedH U.vm := State.WarmedH.trans hW0 hW
  have hcl : s.vm.findClass cls = some ce.cls := by
    have h9 := hO.cls
    rw [hvm] at h9
    exact h9
  have hall : s.sameButNew ({ U with vm := s.vm } : State) locs mc ms := by
    subst hA
    obtain ⟨e1, e2⟩ := hsame
    rw [State.setFrames_setFrames] at e1
    have h2 : (T.setVm s.vm).sameButNew ({ U with vm := s.vm } : State) [] (0 + 1) (0 + 6) := ⟨e1, e2⟩
    have h3 := X.same.trans h2
    rw [List.append_nil] at h3
    exact h3.mono hc hs
  refine ⟨U, ?_, .threw T.heap.size, hrun, hend, Or.inr ⟨T.heap.size, rfl, cls, ce, locs, hx U hWs.alike f1 (fun q hq => f2 q hq (fun z hz => nomatch hz)), hce, hO.vm, hcl, hWs, hall, hf⟩⟩
  refine st1 _ ?_
  show Steps p.tables e below (T1.setTop { method := m, pc := pc + 3, locals := ls, stack := .ref T.heap.size :: rest, locked := none }) _
  jvm_step X₁.here [X₁.here.top, hexec, d3', Value.category]
  exact X₁.ldcStringW hexec (own := own) (text := text) (index := is) (a := sa) hown' hstr'.1 hstr'.2
    (g := { method := m, pc := pc + 4, locals := ls, stack := .ref T.heap.size :: .ref T.heap.size :: rest, locked := none }) rfl d4' _ hsteps
end Ends
section Bodies
variable {l : Launch}
theorem vx_ofW {y : MethodName} {ws ws' : List Cond} {rm : Room} {Pc : Array Value → State → Prop} {Qc : Array Value → State → Outcome → State → Prop} {XC : String → State → State → Prop} {mc ms : Nat} {free : Addr → Prop} {cc : ByteArray} {maxL : Nat} {ret : Option FieldType}
    (hy : plainName y.cls = true) (hw : ws = Cond.code y cc maxL ret :: ws')
    (body : ∀ p e s m args below meth c s₁, BodyLoose p l y (headSpec ws rm) cc maxL ret e s m args below meth c s₁ → c.maxLocals = maxL → (∀ x ∈ c.exceptionTable.toList, False) → Pc args s →
      W p l e (headSpec ws rm).room s m args below meth c s.heap [] 0 0 (vx_MQ below Qc XC args s mc ms free) (entryFrame m args maxL)) : vx_Met l y ws rm Pc Qc XC mc ms free := by
  refine MetFree.of_bodyS (code := cc) (maxLocals := maxL) (ret := ret) hy ?_ ?_
  · intro args s m h hn
    obtain ⟨meth, c, h1, h2, h3, h4, h5, h6, -, -⟩ := Cond.code_spec hn (atoms_spec (ws := ws) h _ (by rw [hw]; exact List.mem_cons_self))
    exact ⟨meth, c, h1, h2, h3, h4, h5, h6⟩
  · intro p e s m args below meth c s₁ B hml hP _
    have hh0 : s₁.heap = s.heap := by rw [B.state]; rfl
    have ht : ∀ x ∈ c.exceptionTable.toList, False := by
      obtain ⟨meth9, c9, h1, h2, -, -, -, -, h7, -⟩ := Cond.code_spec B.named (atoms_spec (ws := ws) B.pre _ (by rw [hw]; exact List.mem_cons_self))
      cases Option.some.inj (h1.symm.trans B.method)
      cases Option.some.inj (h2.symm.trans (Stand.of_body B).code)
      intro x hx
      rw [Array.isEmpty_iff.mp h7] at hx
      cases hx
    obtain ⟨t, a1, o, b1, b2, b3⟩ := body p e s m args below meth c s₁ B hml ht hP s₁ hh0 (Stand.of_body B)
    exact ⟨t, o, a1, b1, b2, b3⟩
/-- the table of a body with handlers -/
theorem vx_table {p : Program} {x y : MethodName} {S : Spec} {cc bytes : ByteArray} {maxL maxL' : Nat} {ret ret' : Option FieldType} {e : Env} {s s₁ : State} {m : MethodId} {args : Array Value} {below : List Frame} {meth : Method} {c : Code} {hh : List (Nat × Nat × Nat × Nat)}
    (B : BodyLoose p l y S cc maxL ret e s m args below meth c s₁) (h : (Cond.codeWith y bytes maxL' ret' hh).before args s = true) : c.exceptionTable.toList = tableOf hh := by
  obtain ⟨m9, meth9, c9, hn9, h1, h2, -, -, h6, -⟩ := Cond.codeWith_spec h
  cases Option.some.inj (hn9.symm.trans B.named)
  cases Option.some.inj (h1.symm.trans B.method)
  cases Option.some.inj (h2.symm.trans (Stand.of_body B).code)
  rw [← h6, table_eq]
end Bodies
end VXA
/-! ===== END ===== -/
/-! ===== BEGIN a static call of a method with an exception table ===== -/
section VXS
variable {p : Program} {l : Launch} {e : Env} {R : Room} {s : State} {m : MethodId} {args : Array Value} {below : List Frame} {meth : Method} {c : Code} {T : State} {H : Heap} {locs : List Loc} {cells slots : Nat}
abbrev vx_CSW (R : Room) (s : State) (args : Array Value) (own : String) (index : Nat) (y : MethodName) (bytes : ByteArray) (maxL : Nat) (ret : Option FieldType) (hh : List (Nat × Nat × Nat × Nat)) (ws : List Cond) (rm : Room) (mc ms n : Nat) : Prop :=
  (rm.cells = mc ∧ rm.slots = ms ∧ rm.frames + 1 ≤ R.frames ∧ 8 + (maxL + 11) + rm.locals ≤ R.locals ∧ (∀ w ∈ ws, ∀ (a' : Array Value) (U : State), s.WarmedH U.vm → w.before a' U = true) ∧ Cond.codeWith y bytes maxL ret hh ∈ ws) ∧
  (Cond.codeWith y bytes maxL ret hh).before args s = true ∧ (Cond.initialized y.cls).before args s = true ∧ (y.cls ≠ "java/lang/invoke/MethodHandle" ∧ y.cls ≠ "java/lang/invoke/VarHandle") ∧
  (∀ sig, parseMethodDescriptor y.desc = some sig → n = sig.parameters.length) ∧ (Cond.methodLink own index y).before args s = true ∧ (Cond.static y).before args s = true
theorem vx_cwSW {own : String} {index maxL mc ms : Nat} {y : MethodName} {bytes : ByteArray} {ret : Option FieldType} {hh : List (Nat × Nat × Nat × Nat)} {Ts ws ws' : List Cond} {rm : Room} (n : Nat) (ht : ∀ w ∈ Ts, w.before args s = true) (hT : GoodIn Ts (va_wsS own index y ws)) (hw : ws = Cond.codeWith y bytes maxL ret hh :: ws') (hrc : rm.cells = mc) (hrs : rm.slots = ms)
    (hd : y.cls ≠ "java/lang/invoke/MethodHandle" ∧ y.cls ≠ "java/lang/invoke/VarHandle" ∧ (parseMethodDescriptor y.desc).map (fun d => d.parameters.length) = some n) (hR : rm.frames + 1 ≤ R.frames ∧ 8 + (maxL + 11) + rm.locals ≤ R.locals) :
    vx_CSW R s args own index y bytes maxL ret hh ws rm mc ms n := by
  have ok : ∀ w ∈ va_wsS own index y ws, w.before args s = true := fun w h => ht w (hT w h).1
  have hG : GoodIn Ts ws := fun w h => hT w (by unfold va_wsS; exact List.mem_append_right _ h)
  have hc : Cond.codeWith y bytes maxL ret hh ∈ ws := by rw [hw]; exact List.mem_cons_self
  refine ⟨⟨hrc, hrs, hR.1, hR.2, pay_in ht hG, hc⟩, ht _ (hG _ hc).1, ok _ (by simp [va_wsS]), ⟨hd.1, hd.2.1⟩, fun sig h => ?_, ok _ (by simp [va_wsS]), ok _ (by simp [va_wsS])⟩
  have h2 := hd.2.2
  rw [h] at h2
  exact (Option.some.inj h2).symm
theorem vx_callSW (X : Stand p l e R s m args below meth c T locs cells slots) (hexec : p.tables.exec = Jvm.exec) {own : String} {index : Nat} {y : MethodName} {bytes : ByteArray} {maxL : Nat} {ret : Option FieldType} {hh : List (Nat × Nat × Nat × Nat)}
    (hown : s.vm.findClass own = some m.cls) (hlink : (Cond.methodLink own index y).before args s = true) (hstat : (Cond.static y).before args s = true) (hinit : (Cond.initialized y.cls).before args s = true)
    (hcode : (Cond.codeWith y bytes maxL ret hh).before args s = true) (hy : y.cls ≠ "java/lang/invoke/MethodHandle" ∧ y.cls ≠ "java/lang/invoke/VarHandle")
    {W9 : Nat} {Pre : Pt → Array Value → Prop} {Post : Pt → Array Value → Option Value → Pt → Prop} (hK : Back l R p e below s args y 3 W9 Pre Post)
    {g : JFrame} (hg : g.method = m) (hsize : g.locals.size = c.maxLocals) {argsL rest : List Value} (hlen : ∀ sig, parseMethodDescriptor y.desc = some sig → argsL.length = sig.parameters.length)
    (hstack : g.stack = argsL.reverse ++ rest) (hW : 2 * g.monitorRoom + (rest.map fun v => v.category).sum ≤ W9) (hdg : decode c.code g.pc = .ok (.invokestatic index, 3))
    (hpre : ∀ vm₁, s.WarmedH vm₁ → Pre ⟨T.setVm vm₁, locs, cells, slots⟩ argsL.toArray) :
    ∃ (v : Option Value) (vm₁ : Vm) (B : Pt), s.WarmedH vm₁ ∧ Stand p l e R s m args below meth c B.U B.locs B.cells B.slots ∧ Post ⟨T.setVm vm₁, locs, cells, slots⟩ argsL.toArray v B ∧
      ∀ target, Steps p.tables e below (B.U.setTop { g with pc := g.pc + 3, stack := v.toList ++ rest }) target → Steps p.tables e below (T.setTop g) target := by
  obtain ⟨mk, methM, cM, hnamed, hmethM, -, -, -, -, -, -, hsigM⟩ := Cond.codeWith_spec hcode
  have hstatic : methM.isStatic = true := Cond.static_spec hnamed hmethM hstat
  obtain ⟨kP, hkP, -⟩ := className_of_methodNamed hnamed
  have hinitP : kP.init = .initialized := Cond.initialized_spec (findClass_of_methodNamed hnamed) hkP hinit
  obtain ⟨vm₁, X₁, hstep₁⟩ := X.invokestatic hexec hown hlink hnamed hmethM hstatic hkP hinitP hy (g := g) hg (argsL := argsL) (rest := rest) (hlen _ hsigM) hstack hdg
  obtain ⟨v, B, X', hpost, hsteps⟩ := hK m meth c ⟨T.setVm vm₁, locs, cells, slots⟩ { g with stack := rest } (.invokestatic index) mk argsL.toArray X₁ hg hsize hdg hW (X₁.named hnamed) (hpre vm₁ X₁.warmed)
  exact ⟨v, vm₁, B, X₁.warmed, X', hpost, fun target h => hstep₁ _ fun acts => by rw [doInvoke_state]; exact hsteps.trans h⟩
theorem vx_runSW {y : MethodName} {bytes cc : ByteArray} {maxL nL mc ms n index : Nat} {ret : Option FieldType} {hh : List (Nat × Nat × Nat × Nat)} {ws : List Cond} {rm : Room} {Pc : Array Value → State → Prop} {Qc : Array Value → State → Outcome → State → Prop} {free : Addr → Prop} {Ts : List Cond} {own : String} {As rest : List Value} {g : JFrame}
    (S : CallFix p m c cc nL s args Ts own) (hM : Met l y ws rm Pc Qc mc ms free) (cw : vx_CSW R s args own index y bytes maxL ret hh ws rm mc ms n) (hp : PreS s H Pc As)
    (hg : g.method = m) (hn : As.length = n) (hsize : g.locals.size = nL) (hstack : g.stack = As.reverse ++ rest) (hW : 2 * g.monitorRoom + (rest.map fun v => v.category).sum ≤ 8) (hdg : decode cc g.pc = .ok (.invokestatic index, 3)) (hf : cells + mc ≤ R.cells ∧ slots + ms ≤ R.slots) :
    va_Run p l e R s m args below meth c H locs cells slots mc ms g rest (Qc As.toArray) (free) := by
  obtain ⟨⟨hrc, hrs, hfr, hlo, hws, hcw⟩, hcode, hini, hy, hlen, hl, hstt⟩ := cw
  have hK : Back l R p e below s args y 3 8 (PreOf R mc ms Pc) (PostOf Qc mc ms free) := va_backW (hh := hh) (bytes := bytes) (maxL := maxL) (ret := ret) hM hp.1 hrc hrs hfr hlo hws hcw (fun a' U hW => word_at hW (Or.inl (by first | rfl | simp [Cond.onTables, Cond.keeps, Cond.steady])) hini)
  obtain ⟨hx, hb, hml, ho, -⟩ := S
  intro T hT X
  obtain ⟨v, vm₁, ⟨U', l2, c2, s2⟩, hW₁, X', ⟨g', mk, t, L, e1, e2, hq, h1, hL, h2, h3⟩, st⟩ := vx_callSW X hx (hh := hh) (bytes := bytes) (maxL := maxL) (ret := ret) ho hl hstt hini hcode hy hK hg (hsize.trans hml.symm) (argsL := As) (rest := rest) (fun sig h => hn.trans (hlen sig h)) hstack hW (by rw [hb]; exact hdg)
    (fun vm₁ hW₁ => ⟨hf.1, hf.2, hp.2 (T.setVm vm₁) hT hW₁⟩)
  dsimp only [Pt.U, Pt.locs, Pt.cells, Pt.slots] at X' e1 e2 h1 h2 h3 st
  subst h1; subst h2; subst h3
  exact ⟨v, (T.setVm vm₁).calling g' mk As.toArray, t, U', L, hT, X', hL, e1, e2, hq, st⟩
/-- not caught here, past rows that name other classes: it goes on to the caller -/
theorem vx_outP {p : Program} {l : Launch} {e : Env} {R : Room} {s : State} {m : MethodId} {args : Array Value} {below : List Frame} {meth : Method} {c : Code} {H : Heap} {locs : List Loc} {cells slots : Nat} {free : Addr → Prop} {ls : Array Slot} {rest : List Value} {Qc : Array Value → State → Outcome → State → Prop} {XC : String → State → State → Prop}
    {pc : Nat} {own E : String} {ce : Cell} {q : Addr} {mc ms : Nat} (hown : s.vm.findClass own = some m.cls) (hlocks : meth.locks = false)
    (hpass : ∀ z ∈ c.exceptionTable.toList, covers z pc = false ∨ (z.catchType ≠ 0 ∧ ∃ nm : String, (Cond.classLink own z.catchType nm).before args s = true ∧ va_Nc E nm s)) (hcell : H[q]? = some ce) (hv : ce.vm = .none) (hcl : s.vm.findClass E = some ce.cls)
    (hx : ∀ t : State, t.heap = H → s.vm.Alike t.vm → XC E s t) (hf : ∀ z ∈ locs, free z.base) (hc : cells ≤ mc) (hs : slots ≤ ms) :
    vx_W p l e R s m args below meth c H locs cells slots (vx_MQ below Qc XC args s mc ms free) (F0 m pc ls rest) q := by
  intro T hT X
  have hpl : e.platform.magicAccessors = ({} : Platform).magicAccessors := by rw [X.admits.platform]
  obtain ⟨vm', hW', X', st⟩ := X.outThrough hlocks q (g := F0 m pc ls rest) rfl rfl rfl (cell := ce) (by rw [hT]; exact hcell) (by rw [hv]; rfl)
    (by obtain ⟨k9, h9, -⟩ := Vm.findClass_spec hcl; exact ⟨k9, h9⟩) (fun z hz => by
      rcases hpass z hz with h | ⟨hz0, nm, hl1, hn1⟩
      · exact Or.inl h
      · obtain ⟨c6, hc6, hcl6⟩ := Cond.classLink_spec hown hl1 e.platform hpl
        obtain ⟨a8, b8, h1, h2, h3⟩ := hn1
        cases Option.some.inj (h1.symm.trans hcl)
        cases Option.some.inj (h2.symm.trans hc6)
        exact Or.inr ⟨hz0, _, hcl6, h3⟩)
  obtain ⟨g₀, hfr⟩ := X'.frames_eq
  have hcell9 : ((T.setVm vm').setFrames (.throwing q :: below)).heap[q]? = some ce := by
    show T.heap[q]? = some ce
    rw [hT]; exact hcell
  have hend : Ended ((T.setVm vm').setFrames (.throwing q :: below)) below (.threw q) := State.frames_setFrames _ (State.cur_lt_of_frames hfr)
  refine ⟨(T.setVm vm').setFrames (.throwing q :: below), ?_, .threw q, X'.here.running, hend, Or.inr ⟨q, rfl, E, ce, locs, hx _ hT (X'.ends _).1.alike, hcell9, hv, hcl, (X'.ends _).1, (X'.ends _).2.mono hc hs, hf⟩⟩
  rw [X.pushThrowing_eq]
  exact st
/-- a thing of a world lies in the heap -/
theorem vx_lt {D : va_G} {cl : List vw_C} {ws : va_W} {H1 : Heap} (h : va_P D cl ws H1) {k : Nat} {q : Nat × va_E} (hk : ws[k]? = some q) : q.1 < H1.size := (h k q hk).lt
end VXS
/-! ===== END ===== -/
/-! ===== BEGIN methods with a table of their own: called by a name, returning or throwing ===== -/
section VXH
/-! vx_backW, vx_callVX, vx_callSX, vx_callVW, vx_runVW, vx_runVX, vx_runSX, vx_ofWH follow the same proofs as their sisters above (Free/Laws.lean, Shelf42/LK1.lean); vx_outP calls Shelf42/NT130.lean (outThrough). -/
section
variable {l : Launch} {R : Room} {p : Program} {e : Env} {below : List Frame} {s : State} {sargs : Array Value} {y : MethodName} {len W9 : Nat}
theorem vx_backW {ws : List Cond} {rm : Room} {Pc : Array Value → State → Prop} {Qc : Array Value → State → Outcome → State → Prop} {XC : String → State → State → Prop} {mc ms : Nat} {free : Addr → Prop} {bytes : ByteArray} {maxL : Nat} {ret : Option FieldType} {hh : List (Nat × Nat × Nat × Nat)}
    (hM : vx_Met l y ws rm Pc Qc XC mc ms free) (hblind : FrameBlind Pc) (hrc : rm.cells = mc) (hrs : rm.slots = ms)
    (hframes : rm.frames + 1 ≤ R.frames) (hlocals : W9 + (maxL + 11) + rm.locals ≤ R.locals)
    (hws : ∀ w ∈ ws, ∀ a' U, s.WarmedH U.vm → w.before a' U = true) (hcode : Cond.codeWith y bytes maxL ret hh ∈ ws) (hinit : ∀ a' U, s.WarmedH U.vm → (Cond.initialized y.cls).before a' U = true) :
    vx_Back l R p e below s sargs y len W9 (PreOf R mc ms Pc) (PostOf Qc mc ms free) (vx_Post XC mc ms free) := by
  intro m meth c A g ig mk a X hg hsize hdg hW hn hp
  have h1 : (headSpec ws rm).pre.before a A.U = true := atoms_intro fun w hw => hws w hw _ _ X.warmed
  have h2 : (Cond.codeWith y bytes maxL ret hh).before a A.U = true := hws _ hcode _ _ X.warmed
  have h3 : (Cond.initialized y.cls).before a A.U = true := hinit _ _ X.warmed
  have h4 : A.cells + (headSpec ws rm).room.cells ≤ R.cells := by rw [show (headSpec ws rm).room.cells = mc from hrc]; exact hp.1
  have h5 : A.slots + (headSpec ws rm).room.slots ≤ R.slots := by rw [show (headSpec ws rm).room.slots = ms from hrs]; exact hp.2.1
  have hPc : Pc a (A.U.calling g mk a) := hblind _ _ _ _ hp.2.2
  obtain ⟨U, Ls, c0, s0⟩ := A
  dsimp only [Pt.U, Pt.locs, Pt.cells, Pt.slots] at h1 h2 h3 h4 h5 X hn hPc ⊢
  obtain ⟨m9, methY, cY, hn9, hmY, hcY, -, hlY, -⟩ := Cond.codeWith_spec h2
  cases Option.some.inj (hn9.symm.trans hn)
  obtain ⟨kY, hkY, -⟩ := className_of_methodNamed hn
  have hinitY : kY.init = .initialized := Cond.initialized_spec (findClass_of_methodNamed hn) hkY h3
  have h : At U g.method c below := by rw [hg]; exact X.here
  have hlocals9 : W9 + (maxL + 11) + (headSpec ws rm).room.locals ≤ R.locals := hlocals
  have happ : (headSpec ws rm).appliesLoose y e.platform (U.calling g mk a) = true :=
    Spec.appliesLoose_calling (g := g) h hdg hn hkY hinitY
      (X.room_calling (g := g) (R' := (headSpec ws rm).room) hsize hmY hcY hframes (by rw [hlY]; omega) h4 h5) h1
  obtain ⟨mid, hmid⟩ := h.above
  have hfr : (U.setTop g).frames = (.java g :: mid) ++ below := by rw [State.frames_setTop' g h.top, hmid]; rfl
  obtain ⟨o, s₂, hsteps, -, hend, hq⟩ := Steps.callFree hM p X.admits X.cas X.clock (acts := []) hfr happ hPc trivial
  have hq' : vx_Q Qc XC mc ms free a (U.calling g mk a) o s₂ := hq
  rw [State.frames_setTop' g h.top] at hend
  obtain ⟨g₀, hg0⟩ := Option.isSome_iff_exists.mp h.top
  obtain ⟨r, hr⟩ := State.topJava?_eq_some.mp hg0
  have hr' : (({ U with heap := s₂.heap, slotsUsed := s₂.slotsUsed } : State).setVm s₂.vm).frames = .java g₀ :: r := hr
  rcases hq' with ⟨hqc, L, hfe, hL⟩ | ⟨q, rfl, E, ce, L, hx, hce, hcv, hcl, hW₂, hsm, hL⟩
  · obtain ⟨⟨v, rfl⟩, hW₂, e2, q2, q3, q4, q5, q6⟩ := id hfe
    have e3 : s₂ = ({ (U.calling g mk a).setFrames s₂.frames with heap := s₂.heap, slotsUsed := s₂.slotsUsed } : State).setVm s₂.vm := by
      have : s₂ = ({ s₂ with vm := (U.calling g mk a).vm } : State).setVm s₂.vm := rfl
      rw [e2] at this
      exact this
    obtain ⟨c₂, i₂, len₂, hc₂, hd₂, hf₂⟩ := hend
    have hW' : U.WarmedH s₂.vm := hW₂
    have hcc : c₂ = c := by
      have h1 : s₂.code? g.method = U.code? g.method := by
        rw [State.code?_eq, State.code?_eq, hW'.alike.method?]
      exact Option.some.inj (hc₂.symm.trans (h1.trans h.code))
    subst hcc
    have hlen : len₂ = len := by rw [hdg] at hd₂; cases hd₂; rfl
    subst hlen
    have hs₂ : s₂ = (({ U with heap := s₂.heap, slotsUsed := s₂.slotsUsed } : State).setVm s₂.vm).setTop { g with pc := g.pc + len₂, stack := v.toList ++ g.stack } := by
      refine e3.trans ?_
      rw [hf₂, State.calling_eq h.top, State.setFrames_setFrames, State.setTop_of_frames _ hr', hr]
      rfl
    have hsame : U.sameButNew ({ U with heap := s₂.heap, slotsUsed := s₂.slotsUsed } : State) L mc ms := by
      refine ⟨?_, q2, q3, q4, q5, q6⟩
      obtain ⟨t, ht, -⟩ := State.frames_cons hr
      show ({ U with heap := s₂.heap, slotsUsed := s₂.slotsUsed } : State) = { U.setFrames U.frames with heap := s₂.heap, slotsUsed := s₂.slotsUsed }
      rw [State.setFrames_self ht]
    subst hg
    refine Or.inl ⟨v, ⟨(({ U with heap := s₂.heap, slotsUsed := s₂.slotsUsed } : State).setVm s₂.vm), Ls ++ L, c0 + mc, s0 + ms⟩,
      ⟨X.admits, X.cas, X.clock, X.frames, X.room, X.hears, X.method, X.code, (X.here.setHeapUsed s₂.heap s₂.slotsUsed).setVm hW'.alike, X.tail, State.WarmedH.trans X.warmed hW', X.limits, X.bytes, X.same.trans (hsame.setVm s.vm)⟩,
      ⟨g, mk, s₂, L, rfl, rfl, hqc, rfl, hL, rfl, rfl⟩, ?_⟩
    show Steps p.tables e below _ ((({ U with heap := s₂.heap, slotsUsed := s₂.slotsUsed } : State).setVm s₂.vm).setTop { g with pc := g.pc + len₂, stack := v.toList ++ g.stack })
    rw [← hs₂]
    exact hsteps
  · obtain ⟨e2, q2, q3, q4, q5, q6⟩ := id hsm
    have e3 : s₂ = ({ (U.calling g mk a).setFrames s₂.frames with heap := s₂.heap, slotsUsed := s₂.slotsUsed } : State).setVm s₂.vm := by
      have : s₂ = ({ s₂ with vm := (U.calling g mk a).vm } : State).setVm s₂.vm := rfl
      rw [e2] at this
      exact this
    have hf₂ : s₂.frames = .throwing q :: .java g :: U.frames.tail := hend
    have hW' : U.WarmedH s₂.vm := hW₂
    have hs₂ : s₂ = ((({ U with heap := s₂.heap, slotsUsed := s₂.slotsUsed } : State).setVm s₂.vm).setTop g).pushFrame (.throwing q) := by
      refine e3.trans ?_
      rw [hf₂, State.calling_eq h.top, State.setFrames_setFrames, State.pushFrame, State.frames_setTop _ hr', State.setTop_of_frames _ hr', State.setFrames_setFrames, hr]
      rfl
    have hsame : U.sameButNew ({ U with heap := s₂.heap, slotsUsed := s₂.slotsUsed } : State) L mc ms := by
      refine ⟨?_, q2, q3, q4, q5, q6⟩
      obtain ⟨t, ht, -⟩ := State.frames_cons hr
      show ({ U with heap := s₂.heap, slotsUsed := s₂.slotsUsed } : State) = { U.setFrames U.frames with heap := s₂.heap, slotsUsed := s₂.slotsUsed }
      rw [State.setFrames_self ht]
    subst hg
    refine Or.inr ⟨q, ⟨(({ U with heap := s₂.heap, slotsUsed := s₂.slotsUsed } : State).setVm s₂.vm), Ls ++ L, c0 + mc, s0 + ms⟩,
      ⟨X.admits, X.cas, X.clock, X.frames, X.room, X.hears, X.method, X.code, (X.here.setHeapUsed s₂.heap s₂.slotsUsed).setVm hW'.alike, X.tail, State.WarmedH.trans X.warmed hW', X.limits, X.bytes, X.same.trans (hsame.setVm s.vm)⟩,
      ⟨g, mk, s₂, L, E, ce, rfl, rfl, hx, hce, hcv, hcl, rfl, hL, rfl, rfl⟩, ?_⟩
    show Steps p.tables e below _ (((({ U with heap := s₂.heap, slotsUsed := s₂.slotsUsed } : State).setVm s₂.vm).setTop g).pushFrame (.throwing q))
    rw [← hs₂]
    exact hsteps
end
variable {p : Program} {l : Launch} {e : Env} {R : Room} {s : State} {m : MethodId} {args : Array Value} {below : List Frame} {meth : Method} {c : Code} {T : State} {H : Heap} {locs : List Loc} {cells slots : Nat}
theorem vx_callVX (X : Stand p l e R s m args below meth c T locs cells slots) (hexec : p.tables.exec = Jvm.exec) {own C : String} {index : Nat} {y : MethodName} {bytes : ByteArray} {maxL : Nat} {ret : Option FieldType} {hh : List (Nat × Nat × Nat × Nat)}
    (hown : s.vm.findClass own = some m.cls) (hlink : (Cond.methodLink own index y).before args s = true) (hinst : (Cond.instanceMethod y).before args s = true) (hsel : (Cond.selects C y y).before args s = true)
    (hcode : (Cond.codeWith y bytes maxL ret hh).before args s = true) (hy : y.cls ≠ "java/lang/invoke/MethodHandle" ∧ y.cls ≠ "java/lang/invoke/VarHandle")
    {W9 : Nat} {Pre : Pt → Array Value → Prop} {Post : Pt → Array Value → Option Value → Pt → Prop} {PostX : Pt → Array Value → Addr → Pt → Prop} (hK : vx_Back l R p e below s args y 3 W9 Pre Post PostX)
    {b : Addr} {cellB : Cell} (hcell : T.heap[b]? = some cellB) (hobj : cellB.vm.isStatics = false) (hcls : s.vm.findClass C = some cellB.cls)
    {g : JFrame} (hg : g.method = m) (hsize : g.locals.size = c.maxLocals) {argsL rest : List Value} (hlen : ∀ sig, parseMethodDescriptor y.desc = some sig → argsL.length = sig.parameters.length)
    (hstack : g.stack = argsL.reverse ++ .ref b :: rest) (hW : 2 * g.monitorRoom + (rest.map fun v => v.category).sum ≤ W9) (hdg : decode c.code g.pc = .ok (.invokevirtual index, 3))
    (hpre : ∀ vm₁, s.WarmedH vm₁ → Pre ⟨T.setVm vm₁, locs, cells, slots⟩ (Value.ref b :: argsL).toArray) :
    (∃ (v : Option Value) (vm₁ : Vm) (B : Pt), s.WarmedH vm₁ ∧ Stand p l e R s m args below meth c B.U B.locs B.cells B.slots ∧ Post ⟨T.setVm vm₁, locs, cells, slots⟩ (Value.ref b :: argsL).toArray v B ∧
      ∀ target, Steps p.tables e below (B.U.setTop { g with pc := g.pc + 3, stack := v.toList ++ rest }) target → Steps p.tables e below (T.setTop g) target) ∨
    (∃ (q : Addr) (vm₁ : Vm) (B : Pt), s.WarmedH vm₁ ∧ Stand p l e R s m args below meth c B.U B.locs B.cells B.slots ∧ PostX ⟨T.setVm vm₁, locs, cells, slots⟩ (Value.ref b :: argsL).toArray q B ∧
      Steps p.tables e below (T.setTop g) ((B.U.setTop { g with stack := rest }).pushFrame (.throwing q))) := by
  obtain ⟨mk, methM, hnamed, hmethM, hstM, habM⟩ := Cond.instanceMethod_spec hinst
  obtain ⟨m8, methM', cM, hn8, hmethM', -, -, -, -, -, -, hsigM⟩ := Cond.codeWith_spec hcode
  cases Option.some.inj (hn8.symm.trans hnamed)
  cases hmethM.symm.trans hmethM'
  obtain ⟨c2, r2, m2, q1, q2, q3, q4, kP, hkP, hkPi⟩ := Cond.selects_spec hsel
  cases hcls.symm.trans q1
  cases (State.methodFound?_of_named hnamed hy).symm.trans q2
  cases hnamed.symm.trans q3
  have hselP : selectMethod e.platform s.vm cellB.cls mk = .method mk := by rw [Launch.admits_selectMethod X.admits]; exact q4
  obtain ⟨vm₁, X₁, hstep₁⟩ := X.invokevirtual hexec hown hlink hnamed hmethM hstM hkP hkPi hy (a := b) (cell := cellB) hcell
    (fun z h => by rw [h] at hobj; cases hobj) hselP hmethM habM hkP hkPi (g := g) hg (argsL := argsL) (rest := rest) (hlen _ hsigM) hstack hdg
  rcases hK m meth c ⟨T.setVm vm₁, locs, cells, slots⟩ { g with stack := rest } (.invokevirtual index) mk (Value.ref b :: argsL).toArray X₁ hg hsize hdg hW (X₁.named hnamed) (hpre vm₁ X₁.warmed) with ⟨v, B, X', hpost, hsteps⟩ | ⟨q, B, X', hpost, hsteps⟩
  · exact Or.inl ⟨v, vm₁, B, X₁.warmed, X', hpost, fun target h => hstep₁ _ fun acts => by rw [doInvoke_state]; exact hsteps.trans h⟩
  · exact Or.inr ⟨q, vm₁, B, X₁.warmed, X', hpost, hstep₁ _ fun acts => by rw [doInvoke_state]; exact hsteps⟩
theorem vx_callSX (X : Stand p l e R s m args below meth c T locs cells slots) (hexec : p.tables.exec = Jvm.exec) {own : String} {index : Nat} {y : MethodName} {bytes : ByteArray} {maxL : Nat} {ret : Option FieldType} {hh : List (Nat × Nat × Nat × Nat)}
    (hown : s.vm.findClass own = some m.cls) (hlink : (Cond.methodLink own index y).before args s = true) (hstat : (Cond.static y).before args s = true) (hinit : (Cond.initialized y.cls).before args s = true)
    (hcode : (Cond.codeWith y bytes maxL ret hh).before args s = true) (hy : y.cls ≠ "java/lang/invoke/MethodHandle" ∧ y.cls ≠ "java/lang/invoke/VarHandle")
    {W9 : Nat} {Pre : Pt → Array Value → Prop} {Post : Pt → Array Value → Option Value → Pt → Prop} {PostX : Pt → Array Value → Addr → Pt → Prop} (hK : vx_Back l R p e below s args y 3 W9 Pre Post PostX)
    {g : JFrame} (hg : g.method = m) (hsize : g.locals.size = c.maxLocals) {argsL rest : List Value} (hlen : ∀ sig, parseMethodDescriptor y.desc = some sig → argsL.length = sig.parameters.length)
    (hstack : g.stack = argsL.reverse ++ rest) (hW : 2 * g.monitorRoom + (rest.map fun v => v.category).sum ≤ W9) (hdg : decode c.code g.pc = .ok (.invokestatic index, 3))
    (hpre : ∀ vm₁, s.WarmedH vm₁ → Pre ⟨T.setVm vm₁, locs, cells, slots⟩ argsL.toArray) :
    (∃ (v : Option Value) (vm₁ : Vm) (B : Pt), s.WarmedH vm₁ ∧ Stand p l e R s m args below meth c B.U B.locs B.cells B.slots ∧ Post ⟨T.setVm vm₁, locs, cells, slots⟩ argsL.toArray v B ∧
      ∀ target, Steps p.tables e below (B.U.setTop { g with pc := g.pc + 3, stack := v.toList ++ rest }) target → Steps p.tables e below (T.setTop g) target) ∨
    (∃ (q : Addr) (vm₁ : Vm) (B : Pt), s.WarmedH vm₁ ∧ Stand p l e R s m args below meth c B.U B.locs B.cells B.slots ∧ PostX ⟨T.setVm vm₁, locs, cells, slots⟩ argsL.toArray q B ∧
      Steps p.tables e below (T.setTop g) ((B.U.setTop { g with stack := rest }).pushFrame (.throwing q))) := by
  obtain ⟨mk, methM, cM, hnamed, hmethM, -, -, -, -, -, -, hsigM⟩ := Cond.codeWith_spec hcode
  have hstatic : methM.isStatic = true := Cond.static_spec hnamed hmethM hstat
  obtain ⟨kP, hkP, -⟩ := className_of_methodNamed hnamed
  have hinitP : kP.init = .initialized := Cond.initialized_spec (findClass_of_methodNamed hnamed) hkP hinit
  obtain ⟨vm₁, X₁, hstep₁⟩ := X.invokestatic hexec hown hlink hnamed hmethM hstatic hkP hinitP hy (g := g) hg (argsL := argsL) (rest := rest) (hlen _ hsigM) hstack hdg
  rcases hK m meth c ⟨T.setVm vm₁, locs, cells, slots⟩ { g with stack := rest } (.invokestatic index) mk argsL.toArray X₁ hg hsize hdg hW (X₁.named hnamed) (hpre vm₁ X₁.warmed) with ⟨v, B, X', hpost, hsteps⟩ | ⟨q, B, X', hpost, hsteps⟩
  · exact Or.inl ⟨v, vm₁, B, X₁.warmed, X', hpost, fun target h => hstep₁ _ fun acts => by rw [doInvoke_state]; exact hsteps.trans h⟩
  · exact Or.inr ⟨q, vm₁, B, X₁.warmed, X', hpost, hstep₁ _ fun acts => by rw [doInvoke_state]; exact hsteps⟩
theorem vx_callVW (X : Stand p l e R s m args below meth c T locs cells slots) (hexec : p.tables.exec = Jvm.exec) {own C : String} {index : Nat} {y : MethodName} {bytes : ByteArray} {maxL : Nat} {ret : Option FieldType} {hh : List (Nat × Nat × Nat × Nat)}
    (hown : s.vm.findClass own = some m.cls) (hlink : (Cond.methodLink own index y).before args s = true) (hinst : (Cond.instanceMethod y).before args s = true) (hsel : (Cond.selects C y y).before args s = true)
    (hcode : (Cond.codeWith y bytes maxL ret hh).before args s = true) (hy : y.cls ≠ "java/lang/invoke/MethodHandle" ∧ y.cls ≠ "java/lang/invoke/VarHandle")
    {W9 : Nat} {Pre : Pt → Array Value → Prop} {Post : Pt → Array Value → Option Value → Pt → Prop} (hK : Back l R p e below s args y 3 W9 Pre Post)
    {b : Addr} {cellB : Cell} (hcell : T.heap[b]? = some cellB) (hobj : cellB.vm.isStatics = false) (hcls : s.vm.findClass C = some cellB.cls)
    {g : JFrame} (hg : g.method = m) (hsize : g.locals.size = c.maxLocals) {argsL rest : List Value} (hlen : ∀ sig, parseMethodDescriptor y.desc = some sig → argsL.length = sig.parameters.length)
    (hstack : g.stack = argsL.reverse ++ .ref b :: rest) (hW : 2 * g.monitorRoom + (rest.map fun v => v.category).sum ≤ W9) (hdg : decode c.code g.pc = .ok (.invokevirtual index, 3))
    (hpre : ∀ vm₁, s.WarmedH vm₁ → Pre ⟨T.setVm vm₁, locs, cells, slots⟩ (Value.ref b :: argsL).toArray) :
    ∃ (v : Option Value) (vm₁ : Vm) (B : Pt), s.WarmedH vm₁ ∧ Stand p l e R s m args below meth c B.U B.locs B.cells B.slots ∧ Post ⟨T.setVm vm₁, locs, cells, slots⟩ (Value.ref b :: argsL).toArray v B ∧
      ∀ target, Steps p.tables e below (B.U.setTop { g with pc := g.pc + 3, stack := v.toList ++ rest }) target → Steps p.tables e below (T.setTop g) target := by
  obtain ⟨mk, methM, hnamed, hmethM, hstM, habM⟩ := Cond.instanceMethod_spec hinst
  obtain ⟨m8, methM', cM, hn8, hmethM', -, -, -, -, -, -, hsigM⟩ := Cond.codeWith_spec hcode
  cases Option.some.inj (hn8.symm.trans hnamed)
  cases hmethM.symm.trans hmethM'
  obtain ⟨c2, r2, m2, q1, q2, q3, q4, kP, hkP, hkPi⟩ := Cond.selects_spec hsel
  cases hcls.symm.trans q1
  cases (State.methodFound?_of_named hnamed hy).symm.trans q2
  cases hnamed.symm.trans q3
  have hselP : selectMethod e.platform s.vm cellB.cls mk = .method mk := by rw [Launch.admits_selectMethod X.admits]; exact q4
  obtain ⟨vm₁, X₁, hstep₁⟩ := X.invokevirtual hexec hown hlink hnamed hmethM hstM hkP hkPi hy (a := b) (cell := cellB) hcell
    (fun z h => by rw [h] at hobj; cases hobj) hselP hmethM habM hkP hkPi (g := g) hg (argsL := argsL) (rest := rest) (hlen _ hsigM) hstack hdg
  obtain ⟨v, B, X', hpost, hsteps⟩ := hK m meth c ⟨T.setVm vm₁, locs, cells, slots⟩ { g with stack := rest } (.invokevirtual index) mk (Value.ref b :: argsL).toArray X₁ hg hsize hdg hW (X₁.named hnamed) (hpre vm₁ X₁.warmed)
  exact ⟨v, vm₁, B, X₁.warmed, X', hpost, fun target h => hstep₁ _ fun acts => by rw [doInvoke_state]; exact hsteps.trans h⟩
abbrev vx_CVW (R : Room) (s : State) (args : Array Value) (own C : String) (index : Nat) (y : MethodName) (bytes : ByteArray) (maxL : Nat) (ret : Option FieldType) (hh : List (Nat × Nat × Nat × Nat)) (ws : List Cond) (rm : Room) (mc ms n : Nat) : Prop :=
  (rm.cells = mc ∧ rm.slots = ms ∧ rm.frames + 1 ≤ R.frames ∧ 8 + (maxL + 11) + rm.locals ≤ R.locals ∧ (∀ w ∈ ws, ∀ (a' : Array Value) (U : State), s.WarmedH U.vm → w.before a' U = true) ∧ Cond.codeWith y bytes maxL ret hh ∈ ws) ∧
  (Cond.codeWith y bytes maxL ret hh).before args s = true ∧ (Cond.initialized y.cls).before args s = true ∧ (y.cls ≠ "java/lang/invoke/MethodHandle" ∧ y.cls ≠ "java/lang/invoke/VarHandle") ∧
  (∀ sig, parseMethodDescriptor y.desc = some sig → n = sig.parameters.length) ∧ (Cond.methodLink own index y).before args s = true ∧ (Cond.instanceMethod y).before args s = true ∧ (Cond.selects C y y).before args s = true
theorem vx_cwVW {own C : String} {index maxL mc ms : Nat} {y : MethodName} {bytes : ByteArray} {ret : Option FieldType} {hh : List (Nat × Nat × Nat × Nat)} {Ts ws ws' : List Cond} {rm : Room} (n : Nat) (ht : ∀ w ∈ Ts, w.before args s = true) (hT : GoodIn Ts (wsV own index C y ws)) (hw : ws = Cond.codeWith y bytes maxL ret hh :: ws') (hrc : rm.cells = mc) (hrs : rm.slots = ms)
    (hd : y.cls = C ∧ y.cls ≠ "java/lang/invoke/MethodHandle" ∧ y.cls ≠ "java/lang/invoke/VarHandle" ∧ (parseMethodDescriptor y.desc).map (fun d => d.parameters.length) = some n) (hR : rm.frames + 1 ≤ R.frames ∧ 8 + (maxL + 11) + rm.locals ≤ R.locals) :
    vx_CVW R s args own C index y bytes maxL ret hh ws rm mc ms n := by
  obtain ⟨hC, hd⟩ := hd
  subst hC
  have ok : ∀ w ∈ wsV own index y.cls y ws, w.before args s = true := fun w h => ht w (hT w h).1
  have hG : GoodIn Ts ws := fun w h => hT w (by unfold wsV; exact List.mem_append_right _ h)
  have hc : Cond.codeWith y bytes maxL ret hh ∈ ws := by rw [hw]; exact List.mem_cons_self
  refine ⟨⟨hrc, hrs, hR.1, hR.2, pay_in ht hG, hc⟩, ht _ (hG _ hc).1, ok _ (by simp [wsV]), ⟨hd.1, hd.2.1⟩, fun sig h => ?_, ok _ (by simp [wsV]), ok _ (by simp [wsV]), ok _ (by simp [wsV])⟩
  have h2 := hd.2.2
  rw [h] at h2
  exact (Option.some.inj h2).symm
theorem vx_runVW {y : MethodName} {bytes cc : ByteArray} {maxL nL mc ms n index : Nat} {ret : Option FieldType} {hh : List (Nat × Nat × Nat × Nat)} {ws : List Cond} {rm : Room} {Pc : Array Value → State → Prop} {Qc : Array Value → State → Outcome → State → Prop} {free : Addr → Prop} {Ts : List Cond} {own C : String} {b : Addr} {As rest : List Value} {g : JFrame}
    (S : CallFix p m c cc nL s args Ts own) (hM : Met l y ws rm Pc Qc mc ms free) (cw : vx_CVW R s args own C index y bytes maxL ret hh ws rm mc ms n) (hp : PreV s H C b Pc As)
    (hg : g.method = m) (hn : As.length = n) (hsize : g.locals.size = nL) (hstack : g.stack = As.reverse ++ .ref b :: rest) (hW : 2 * g.monitorRoom + (rest.map fun v => v.category).sum ≤ 8) (hdg : decode cc g.pc = .ok (.invokevirtual index, 3)) (hf : cells + mc ≤ R.cells ∧ slots + ms ≤ R.slots) :
    va_Run p l e R s m args below meth c H locs cells slots mc ms g rest (Qc (Value.ref b :: As).toArray) free := by
  obtain ⟨⟨hrc, hrs, hfr, hlo, hws, hcw⟩, hcode, hini, hy, hlen, hl, hin, hse⟩ := cw
  have hK : Back l R p e below s args y 3 8 (PreOf R mc ms Pc) (PostOf Qc mc ms free) := va_backW (hh := hh) (bytes := bytes) (maxL := maxL) (ret := ret) hM hp.1 hrc hrs hfr hlo hws hcw (fun a' U hW => word_at hW (Or.inl (by first | rfl | simp [Cond.onTables, Cond.keeps, Cond.steady])) hini)
  obtain ⟨hx, hb, hml, ho, -⟩ := S
  obtain ⟨-, ⟨cellB, hcB, hoB, hclB⟩, hPc⟩ := hp
  intro T hT X
  obtain ⟨v, vm₁, ⟨U', l2, c2, s2⟩, hW₁, X', ⟨g', mk, t, L, e1, e2, hq, h1, hL, h2, h3⟩, st⟩ := vx_callVW X hx (C := C) (hh := hh) (bytes := bytes) (maxL := maxL) (ret := ret) ho hl hin hse hcode hy hK (by rw [hT]; exact hcB) hoB hclB hg (hsize.trans hml.symm) (argsL := As) (rest := rest) (fun sig h => hn.trans (hlen sig h)) hstack hW (by rw [hb]; exact hdg)
    (fun vm₁ hW₁ => ⟨hf.1, hf.2, hPc (T.setVm vm₁) hT hW₁⟩)
  dsimp only [Pt.U, Pt.locs, Pt.cells, Pt.slots] at X' e1 e2 h1 h2 h3 st
  subst h1; subst h2; subst h3
  exact ⟨v, (T.setVm vm₁).calling g' mk (Value.ref b :: As).toArray, t, U', L, hT, X', hL, e1, e2, hq, st⟩
section
variable {y : MethodName} {bytes cc : ByteArray} {maxL nL mc ms n index : Nat} {ret : Option FieldType} {ws : List Cond} {rm : Room} {Pc : Array Value → State → Prop} {Qc : Array Value → State → Outcome → State → Prop} {XC : String → State → State → Prop} {free : Addr → Prop} {Ts : List Cond} {own C : String} {b : Addr} {As rest : List Value} {g : JFrame}
theorem vx_runVX {hh : List (Nat × Nat × Nat × Nat)} (S : CallFix p m c cc nL s args Ts own) (hM : vx_Met l y ws rm Pc Qc XC mc ms free) (cw : vx_CVW R s args own C index y bytes maxL ret hh ws rm mc ms n) (hp : PreV s H C b Pc As)
    (hg : g.method = m) (hn : As.length = n) (hsize : g.locals.size = nL) (hstack : g.stack = As.reverse ++ .ref b :: rest) (hW : 2 * g.monitorRoom + (rest.map fun v => v.category).sum ≤ 8) (hdg : decode cc g.pc = .ok (.invokevirtual index, 3)) (hf : cells + mc ≤ R.cells ∧ slots + ms ≤ R.slots) :
    vx_Run p l e R s m args below meth c H locs cells slots mc ms g rest (Qc (Value.ref b :: As).toArray) XC free := by
  obtain ⟨⟨hrc, hrs, hfr, hlo, hws, hcw⟩, hcode, hini, hy, hlen, hl, hin, hse⟩ := cw
  have hK : vx_Back l R p e below s args y 3 8 (PreOf R mc ms Pc) (PostOf Qc mc ms free) (vx_Post XC mc ms free) := vx_backW (hh := hh) (bytes := bytes) (maxL := maxL) (ret := ret) hM hp.1 hrc hrs hfr hlo hws hcw (fun a' U hW => word_at hW (Or.inl (by first | rfl | simp [Cond.onTables, Cond.keeps, Cond.steady])) hini)
  obtain ⟨hx, hb, hml, ho, -⟩ := S
  obtain ⟨-, ⟨cellB, hcB, hoB, hclB⟩, hPc⟩ := hp
  intro T hT X
  rcases vx_callVX X hx (C := C) (hh := hh) (bytes := bytes) (maxL := maxL) (ret := ret) ho hl hin hse hcode hy hK (by rw [hT]; exact hcB) hoB hclB hg (hsize.trans hml.symm) (argsL := As) (rest := rest) (fun sig h => hn.trans (hlen sig h)) hstack hW (by rw [hb]; exact hdg)
    (fun vm₁ hW₁ => ⟨hf.1, hf.2, hPc (T.setVm vm₁) hT hW₁⟩) with ⟨v, vm₁, ⟨U', l2, c2, s2⟩, hW₁, X', ⟨g', mk, t, L, e1, e2, hq, h1, hL, h2, h3⟩, st⟩ | ⟨q, vm₁, ⟨U', l2, c2, s2⟩, hW₁, X', ⟨g', mk, t, L, E, ce, e1, e2, hq, hce, hcv, hcl, h1, hL, h2, h3⟩, st⟩
  · dsimp only [Pt.U, Pt.locs, Pt.cells, Pt.slots] at X' e1 e2 h1 h2 h3 st
    subst h1; subst h2; subst h3
    exact Or.inl ⟨v, (T.setVm vm₁).calling g' mk (Value.ref b :: As).toArray, t, U', L, hT, X', hL, e1, e2, hq, st⟩
  · dsimp only [Pt.U, Pt.locs, Pt.cells, Pt.slots] at X' e1 e2 h1 h2 h3 st hcl
    subst h1; subst h2; subst h3
    exact Or.inr ⟨q, (T.setVm vm₁).calling g' mk (Value.ref b :: As).toArray, t, U', L, E, ce, hT, X', hL, e1, e2, hq, hce, hcv, vx_cls hW₁ hcl, st⟩
theorem vx_runSX {hh : List (Nat × Nat × Nat × Nat)} (S : CallFix p m c cc nL s args Ts own) (hM : vx_Met l y ws rm Pc Qc XC mc ms free) (cw : vx_CSW R s args own index y bytes maxL ret hh ws rm mc ms n) (hp : PreS s H Pc As)
    (hg : g.method = m) (hn : As.length = n) (hsize : g.locals.size = nL) (hstack : g.stack = As.reverse ++ rest) (hW : 2 * g.monitorRoom + (rest.map fun v => v.category).sum ≤ 8) (hdg : decode cc g.pc = .ok (.invokestatic index, 3)) (hf : cells + mc ≤ R.cells ∧ slots + ms ≤ R.slots) :
    vx_Run p l e R s m args below meth c H locs cells slots mc ms g rest (Qc As.toArray) XC free := by
  obtain ⟨⟨hrc, hrs, hfr, hlo, hws, hcw⟩, hcode, hini, hy, hlen, hl, hstt⟩ := cw
  have hK : vx_Back l R p e below s args y 3 8 (PreOf R mc ms Pc) (PostOf Qc mc ms free) (vx_Post XC mc ms free) := vx_backW (hh := hh) (bytes := bytes) (maxL := maxL) (ret := ret) hM hp.1 hrc hrs hfr hlo hws hcw (fun a' U hW => word_at hW (Or.inl (by first | rfl | simp [Cond.onTables, Cond.keeps, Cond.steady])) hini)
  obtain ⟨hx, hb, hml, ho, -⟩ := S
  intro T hT X
  rcases vx_callSX X hx (hh := hh) (bytes := bytes) (maxL := maxL) (ret := ret) ho hl hstt hini hcode hy hK hg (hsize.trans hml.symm) (argsL := As) (rest := rest) (fun sig h => hn.trans (hlen sig h)) hstack hW (by rw [hb]; exact hdg)
    (fun vm₁ hW₁ => ⟨hf.1, hf.2, hp.2 (T.setVm vm₁) hT hW₁⟩) with ⟨v, vm₁, ⟨U', l2, c2, s2⟩, hW₁, X', ⟨g', mk, t, L, e1, e2, hq, h1, hL, h2, h3⟩, st⟩ | ⟨q, vm₁, ⟨U', l2, c2, s2⟩, hW₁, X', ⟨g', mk, t, L, E, ce, e1, e2, hq, hce, hcv, hcl, h1, hL, h2, h3⟩, st⟩
  · dsimp only [Pt.U, Pt.locs, Pt.cells, Pt.slots] at X' e1 e2 h1 h2 h3 st
    subst h1; subst h2; subst h3
    exact Or.inl ⟨v, (T.setVm vm₁).calling g' mk As.toArray, t, U', L, hT, X', hL, e1, e2, hq, st⟩
  · dsimp only [Pt.U, Pt.locs, Pt.cells, Pt.slots] at X' e1 e2 h1 h2 h3 st hcl
    subst h1; subst h2; subst h3
    exact Or.inr ⟨q, (T.setVm vm₁).calling g' mk As.toArray, t, U', L, E, ce, hT, X', hL, e1, e2, hq, hce, hcv, vx_cls hW₁ hcl, st⟩
end
end VXH
theorem vx_ofWH {l : Launch} {y : MethodName} {ws ws' : List Cond} {rm : Room} {Pc : Array Value → State → Prop} {Qc : Array Value → State → Outcome → State → Prop} {XC : String → State → State → Prop} {mc ms : Nat} {free : Addr → Prop} {cc : ByteArray} {maxL : Nat} {ret : Option FieldType} {hh : List (Nat × Nat × Nat × Nat)}
    (hy : plainName y.cls = true) (hw : ws = Cond.codeWith y cc maxL ret hh :: ws')
    (body : ∀ p e s m args below meth c s₁, BodyLoose p l y (headSpec ws rm) cc maxL ret e s m args below meth c s₁ → c.maxLocals = maxL → Pc args s →
      W p l e (headSpec ws rm).room s m args below meth c s.heap [] 0 0 (vx_MQ below Qc XC args s mc ms free) (entryFrame m args maxL)) : vx_Met l y ws rm Pc Qc XC mc ms free := by
  refine MetFree.of_bodyS (code := cc) (maxLocals := maxL) (ret := ret) hy ?_ ?_
  · intro args s m h hn
    obtain ⟨m9, meth, c, hn9, h1, h2, h3, h4, -, h5, h6, -⟩ := Cond.codeWith_spec (atoms_spec (ws := ws) h _ (by rw [hw]; exact List.mem_cons_self))
    cases hn.symm.trans hn9
    exact ⟨meth, c, h1, h2, h3, h4, h5, h6⟩
  · intro p e s m args below meth c s₁ B hml hP _
    have hh0 : s₁.heap = s.heap := by rw [B.state]; rfl
    obtain ⟨t, a1, o, b1, b2, b3⟩ := body p e s m args below meth c s₁ B hml hP s₁ hh0 (Stand.of_body B)
    exact ⟨t, o, a1, b1, b2, b3⟩
/-! ===== END ===== -/

/-! ===== BEGIN what the machine throws by itself, no traces kept ===== -/
section VXM
set_option maxHeartbeats 1000000 in
/-- the machine throws cls with the message text, no traces kept: from its note over the frame g to 'throwing' over the same frame (follows the proofs of Stand.vmThrowsMessage, Shelf/KitTracedVmS.lean, and Stand.throwsMessageColdBareV, StandMessageColdV.lean, without the step out of the frame) -/
theorem vx_vmAt {p : Program} {l : Launch} {e : Env} {R : Room} {s : State} {m₀ : MethodId} {args : Array Value} {below : List Frame} {meth : Method} {c : Code} {W : State} {locs : List Loc} {cells slots : Nat}
    (X : Stand p l e R s m₀ args below meth c W locs cells slots) (hexec : p.tables.exec = Jvm.exec) (htr : e.platform.stackTraces = false) {cls : String} {names : List String} {text : String}
    (hcls : Bundle.fit cls = true) (hnames : ∀ n ∈ names, Bundle.fit n = true) (hsoe : (cls == "java/lang/StackOverflowError") = false) (hoom : (cls == "java/lang/OutOfMemoryError") = false)
    (h : ∀ a ∈ Bundle.messageArmAtoms cls names, a.before args s = true)
    (hlocs : ∀ x ∈ locs, ∀ cell, s.heap[x.base]? = some cell → cell.vm.isStatics = false)
    (htext : (text == notModelled) = false) (hlimit : ¬ (stringBytes (stringToUtf16 text)).size > e.platform.arrayLengthLimit) (hheap : ¬ (stringBytes (stringToUtf16 text)).size * componentBytes .byte > e.platform.maxHeapBytes)
    {g : JFrame} (hg : g.method = m₀) (hsize : g.locals.size = c.maxLocals)
    (hRframes : names.length + 4 < R.frames) (hRlocals : 2 * g.monitorRoom + (g.stack.map fun v => v.category).sum + 10240 ≤ R.locals) (hshort : 13 * names.length + 55 ≤ 10240)
    (hRcells : cells + 3 ≤ R.cells) (hRslots : slots + ((stringBytes (stringToUtf16 text)).size + 4 + 6) ≤ R.slots) (hlocks : meth.locks = false) :
    ∃ (S : State) (q : Addr) (ce : Cell), (∀ target, Steps p.tables e below ((S.setTop g).pushFrame (.throwing q)) target → Steps p.tables e below ((W.setTop g).pushFrame (.throwNew cls (some text) none)) target) ∧
      Stand p l e R s m₀ args below meth c S locs (cells + 3) (slots + ((stringBytes (stringToUtf16 text)).size + 4 + 6)) ∧ S.heap[q]? = some ce ∧ s.vm.findClass cls = some ce.cls ∧ ce.vm = .none := by
  have howns : e.platform.frameOwnsMonitors = true := by rw [X.admits.platform]
  have hfin : e.platform.finalization = false := by rw [X.admits.platform]
  have hpl : e.platform.magicAccessors = ({} : Platform).magicAccessors := by rw [X.admits.platform]
  have a : ∀ x, x ∈ Bundle.messageArmAtoms cls names → x.holds args s none s [] = true := fun x hx => h x hx
  obtain ⟨T, Z0, L, -, Y⟩ := ThrowableC.of_atoms (args := args) howns hfin hpl (fun x hx => h x (by simp [Bundle.messageArmAtoms, hx]))
  obtain ⟨Z, M, LZ, LM, hnZ⟩ := Init0T.ofS_atoms (args := args) hpl L Y (fun x hx => h x (by simp [Bundle.messageArmAtoms, hx]))
  obtain ⟨P1, Ps, hlen, L1, hL, hP1m, hlink1, hlink⟩ := Bundle.chainS (args := args) hpl hnZ names cls hcls hnames (fun x hx => h x (by simp [Bundle.messageArmAtoms, hx]))
  obtain ⟨Zs, LZs, hn4, hfitv, hfitc⟩ := StringT.of_atoms (args := args) (fun x hx => h x (by simp [Bundle.messageArmAtoms, hx]))
  have hfound : s.vm.findClass cls = some P1.m.cls := findClass_of_methodNamed hP1m
  obtain ⟨c1, kX, hc1, hk, hord, -, -, hn6⟩ := Cond.instantiable_spec (a (.instantiable cls 6) (by simp [Bundle.messageArmAtoms]))
  cases Option.some.inj (hc1.symm.trans hfound)
  have hinit := Cond.initialized_spec hfound hk (a (.initialized cls) (by simp [Bundle.messageArmAtoms]))
  have hctor : kX.findMethod "<init>" "(Ljava/lang/String;)V" = some P1.m.idx := findMethod_of_methodNamed hP1m hk
  have hsel0 : selectMethod e.platform s.vm P1.m.cls T.fill0 = .method T.fill0 := by
    obtain ⟨c2, r2, m2, q1, q2, q3, q4, -⟩ := Cond.selects_spec (a (.selects cls Bundle.tFill0 Bundle.tFill0) (by simp [Bundle.messageArmAtoms]))
    cases Option.some.inj (q1.symm.trans hfound)
    cases Option.some.inj (q2.symm.trans (State.methodFound?_of_named Y.fill0 (by decide)))
    cases Option.some.inj (q3.symm.trans Y.fill0)
    rw [Launch.admits_selectMethod X.admits]; exact q4
  have hselF : selectMethod e.platform s.vm P1.m.cls T.fill = .method T.fill := by
    obtain ⟨c2, r2, m2, q1, q2, q3, q4, -⟩ := Cond.selects_spec (a (.selects cls Bundle.tFill Bundle.tFill) (by simp [Bundle.messageArmAtoms]))
    cases Option.some.inj (q1.symm.trans hfound)
    cases Option.some.inj (q2.symm.trans (State.methodFound?_of_named Y.fill (by decide)))
    cases Option.some.inj (q3.symm.trans Y.fill)
    rw [Launch.admits_selectMethod X.admits]; exact q4
  obtain ⟨cellS0, hcS0, hiss⟩ := Y.statics
  obtain ⟨u0, hu0⟩ := Cond.staticRefV Y.unassigned L.unassignedStatic L.statics hcS0 hiss (a (.isRef (.static Bundle.tN "UNASSIGNED_STACK" Bundle.steD)) (by simp [Bundle.messageArmAtoms]))
  obtain ⟨sen, hsen⟩ := Cond.staticRefV Y.sentinel L.sentinelStatic L.statics hcS0 hiss (a (.isRef (.static Bundle.tN "SUPPRESSED_SENTINEL" Bundle.listD)) (by simp [Bundle.messageArmAtoms]))
  obtain ⟨ci198, i198, fB, hk198, hg198, ha198, hsB, -, hnB, htB, hffB⟩ := Cond.ownField (t := .object "java/lang/Object") Y.found L.cls (by decide +kernel) (a (.fieldLink Bundle.tN 198 Bundle.tN "backtrace" "Ljava/lang/Object;") (by simp [Bundle.messageArmAtoms])) (a (.lays Bundle.tN Bundle.tN "backtrace" "Ljava/lang/Object;") (by simp [Bundle.messageArmAtoms])) e.platform hpl
  obtain ⟨cellS, hcS', heS, -, hkeep⟩ := X.same.2.2.2.2.2 T.aS cellS0 hcS0
  have hcellS : W.heap[T.aS]? = some cellS := hcS'
  have hout' : ∀ i, (⟨T.aS, i⟩ : Loc) ∉ locs := fun i hmem => by
    have := hlocs _ hmem cellS0 hcS0
    rw [hiss] at this; cases this
  have hknownS : cellS.vm ≠ .unknown := by
    rw [heS]; intro hu
    rw [show cellS0.vm = .unknown from hu] at hiss
    cases hiss
  have hvU : cellS.slots[T.fUnassigned.slot]? = some u0.v := by rw [hkeep _ (hout' _)]; exact hu0
  have hvSen : cellS.slots[T.fSentinel.slot]? = some sen.v := by rw [hkeep _ (hout' _)]; exact hsen
  obtain ⟨iM, hffM⟩ := Y.msg
  obtain ⟨tyC, dC, hdC, hdnC⟩ := Cond.laysAt hfound hk Y.cause (a (.lays cls Bundle.tN "cause" "Ljava/lang/Throwable;") (by simp [Bundle.messageArmAtoms]))
  obtain ⟨tyS, dS, hdS, hdnS⟩ := Cond.laysAt hfound hk Y.stack (a (.lays cls Bundle.tN "stackTrace" Bundle.steD) (by simp [Bundle.messageArmAtoms]))
  obtain ⟨tyP, dP, hdP, hdnP⟩ := Cond.laysAt hfound hk Y.supp (a (.lays cls Bundle.tN "suppressedExceptions" Bundle.listD) (by simp [Bundle.messageArmAtoms]))
  obtain ⟨tyM, dM, hdM, hdnM⟩ := Cond.laysAt hfound hk hffM (a (.lays cls Bundle.tN "detailMessage" "Ljava/lang/String;") (by simp [Bundle.messageArmAtoms]))
  obtain ⟨tyB, dB, hdB, hdnB⟩ := Cond.laysAt hfound hk hffB (a (.lays cls Bundle.tN "backtrace" "Ljava/lang/Object;") (by simp [Bundle.messageArmAtoms]))
  have bC := Cond.laysApart hdB hdC hdnB hdnC (by rw [hnB, Y.causeName]; decide)
  have bS := Cond.laysApart hdB hdS hdnB hdnS (by rw [hnB, Y.stackName]; decide)
  have bP := Cond.laysApart hdB hdP hdnB hdnP (by rw [hnB, Y.suppName]; decide)
  have hbk : ((preparedCellV T.toThrowableT (freshCell P1.m.cls kX) (W.heap.size + 2) u0 sen).withEntry W.cur).slots[fB.slot]? = some .null := by
    have := fresh_default (c := P1.m.cls) tyB
    rw [htB] at this
    simpa [preparedCellV, Cell.setSlot, Cell.withEntry, Array.getElem?_setIfInBounds, bC, bS, bP, bC.symm, bS.symm, bP.symm, defaultValue] using this
  have tkC := Takes.of_laid (v := .ref (W.heap.size + 2)) hk hord tyC (by rw [Y.causeType]; rfl)
  have tkS := Takes.of_laid (v := u0.v) hk hord tyS (by rw [Y.stackType]; exact fits_refV_array _ u0)
  have tkP := Takes.of_laid (v := sen.v) hk hord tyP (by rw [Y.suppType]; exact fits_refV_object _ sen)
  have tkM := Takes.of_laid (v := .ref (W.heap.size + 1)) hk hord tyM (by rw [Y.msgType]; rfl)
  have hskip : SkipFacts T e.platform s (fun u => u) u0 ((preparedCellV T.toThrowableT (freshCell P1.m.cls kX) (W.heap.size + 2) u0 sen).withEntry W.cur) := ⟨{ ci198 := ci198, i198 := i198, fBack := fB }, ⟨hk198, hg198, ha198, hsB⟩, hbk, fun _ _ => rfl⟩
  have h0 : At W g.method c below := by rw [hg]; exact X.here
  obtain ⟨hbeyond, hfreeW⟩ := X.vmMayThrow hsize (.throwNew cls (some text) none) (fun f hf => by cases hf) rfl hRlocals
  have hfr' : W.frames.length + Ps.length + 4 < (e.platform.stackLimits W.me).1 := by have := X.framesAbove hRframes; omega
  have hwd' : (stackUse (.java g :: W.frames.tail)).2 + 13 * Ps.length + 55 ≤ (e.platform.stackLimits W.me).2 := by have := X.stackAbove hsize (K := 13 * Ps.length + 55) (by omega); omega
  have hslots : W.slotsUsed + (stringBytes (stringToUtf16 text)).size + Zs.kS.instanceTypes.size + kX.instanceTypes.size ≤ e.platform.maxSlots := by
    have := X.slotsAbove hRslots
    rw [hn4, hn6]
    omega
  obtain ⟨vm', hW', st⟩ := Steps.vmThrowsMessageColdByV p (s₀ := s) (S := W) (g := g) h0 hexec T L Z LZ M LM X.warmed (t := W.cur) rfl Zs LZs P1 L1 Ps hL hlink1 hlink hsoe hoom hfound hk hinit hord hctor
    (Launch.admits_hotImplicitExceptions X.admits) hbeyond hfreeW htext hlimit hheap (X.cellsAbove hRcells) hslots (hfitv _) (hfitc _)
    (Nn := fun u => u) heapOnly_id (fun _ _ => rfl) (fun _ => rfl) (fun u x y => setCell_twice _ _ _ _) (fun _ => Nat.le_refl _) (cN := ((preparedCellV T.toThrowableT (freshCell P1.m.cls kX) (W.heap.size + 2) u0 sen).withEntry W.cur))
    hsel0 hcellS hknownS hvU tkS (fun _ hu => hu) (fun _ hu => hu) rfl rfl rfl (by simp [preparedCellV, Cell.setSlot, Cell.withEntry]) hskip (fun _ _ hA hW _ hroom _ hrest => L.nativeOff p htr hA hW hroom hrest) hselF hvSen tkC tkP tkM Y.objLocals rfl hfr' hwd'
  rw [plainBareV_eq T.toThrowableT (W.heap.size + 2) u0 sen (.ref (W.heap.size + 1)) W.cur rfl rfl] at st
  obtain ⟨-, -, w3, w4, -, -, -⟩ := withThrown_facts e.platform W Zs text P1.m.cls kX
  have X3 := ((X.pushed (bytesOf Zs.cB (stringToUtf16 text))).pushed (stringAt Zs.cS Zs.kS Zs.fv Zs.fc (stringToUtf16 text) W.heap.size)).pushed (freshCell P1.m.cls kX)
  rw [← withString_eq] at X3
  have X4 := X3.noted hW'
  have ha : (W.heap.size + 2) < ((withThrown W Zs text P1.m.cls kX).setVm vm').heap.size := by show _ < (withThrown W Zs text P1.m.cls kX).heap.size; rw [w3]; omega
  have hcell : ((withThrown W Zs text P1.m.cls kX).setVm vm').heap[(W.heap.size + 2)]? = some (freshCell P1.m.cls kX) := w4
  have X5 := ((((X4.stored hcell T.fCause.slot (.ref (W.heap.size + 2))).storedAgain ha T.fStack.slot u0.v).storedAgain ha T.fSupp.slot sen.v).storedAgain ha T.fStack.slot u0.v).storedAgain ha T.fMsg.slot (.ref (W.heap.size + 1))
  obtain ⟨g₁, hfrM⟩ := X5.frames_eq
  have hU : ((((withThrown W Zs text P1.m.cls kX).setVm vm').setCell (W.heap.size + 2) (plainBareV T.toThrowableT (freshCell P1.m.cls kX) (W.heap.size + 2) u0 sen (.ref (W.heap.size + 1)))).setTop g).pushFrame (.throwing (W.heap.size + 2)) = (((withThrown W Zs text P1.m.cls kX).setVm vm').setCell (W.heap.size + 2) (plainBareV T.toThrowableT (freshCell P1.m.cls kX) (W.heap.size + 2) u0 sen (.ref (W.heap.size + 1)))).setFrames (.throwing (W.heap.size + 2) :: .java g :: below) := by
    rw [State.pushFrame, State.frames_setTop _ hfrM, State.setTop_of_frames _ hfrM, State.setFrames_setFrames]
  have b1 : (bytesOf Zs.cB (stringToUtf16 text)).slots.size = (stringBytes (stringToUtf16 text)).size := by
    rw [(Cell.writeAll_facts _ _).2.2]; simp [bytes0]
  have b2 : (stringAt Zs.cS Zs.kS Zs.fv Zs.fc (stringToUtf16 text) W.heap.size).slots.size = 4 := by simp [string0, Cell.setSlot, hn4]
  have b3 : (freshCell P1.m.cls kX).slots.size = 6 := by simp [hn6]
  rw [b1, b2, b3] at X5
  have e9 : slots + (stringBytes (stringToUtf16 text)).size + 4 + 6 = slots + ((stringBytes (stringToUtf16 text)).size + 4 + 6) := by omega
  rw [e9] at X5
  simp only [List.append_assoc, List.cons_append, List.nil_append] at X5
  refine ⟨((withThrown W Zs text P1.m.cls kX).setVm vm').setCell (W.heap.size + 2) (plainBareV T.toThrowableT (freshCell P1.m.cls kX) (W.heap.size + 2) u0 sen (.ref (W.heap.size + 1))), W.heap.size + 2, _, fun target ht => st _ (by rw [X.tail, ← hU]; exact ht),
    X5.forget (fun y hy => ?_), heapAt_setCell_self _ ha, hfound, rfl⟩
  simp only [List.mem_cons, List.not_mem_nil, or_false] at hy
  have hge : s.heap.size ≤ W.heap.size := X.same.2.1
  rcases hy with rfl | rfl | rfl | rfl | rfl <;> exact Nat.le_trans hge (Nat.le_add_right _ 2)
set_option maxHeartbeats 1000000 in
/-- the machine throws NullPointerException, no traces kept: from its note over the frame g to 'throwing' over the same frame (follows the proof of Stand.vmThrowsNpe, Shelf42/KT2.lean; throwsNpeColdBareVAt, Shelf42/NT91.lean, called) -/
theorem vx_npeAt {p : Program} {l : Launch} {e : Env} {R : Room} {s : State} {m₀ : MethodId} {args : Array Value} {below : List Frame} {meth : Method} {c : Code} {W : State} {locs : List Loc} {cells slots : Nat}
    (X : Stand p l e R s m₀ args below meth c W locs cells slots) (hexec : p.tables.exec = Jvm.exec) (htr : e.platform.stackTraces = false) {n : Nat}
    (h : ∀ a ∈ Bundle.npeArmAtoms n, a.before args s = true)
    (hlocs : ∀ x ∈ locs, ∀ cell, s.heap[x.base]? = some cell → cell.vm.isStatics = false)
    {g : JFrame} (hg : g.method = m₀) (hsize : g.locals.size = c.maxLocals)
    (hRframes : 7 < R.frames) (hRlocals : 2 * g.monitorRoom + (g.stack.map fun v => v.category).sum + 10240 ≤ R.locals)
    (hRcells : cells + 1 ≤ R.cells) (hRslots : slots + n ≤ R.slots) (hlocks : meth.locks = false) :
    ∃ (S : State) (q : Addr) (ce : Cell), (∀ target, Steps p.tables e below ((S.setTop g).pushFrame (.throwing q)) target → Steps p.tables e below ((W.setTop g).pushFrame (.throwNew "java/lang/NullPointerException" none none)) target) ∧
      Stand p l e R s m₀ args below meth c S locs (cells + 1) (slots + n) ∧ S.heap[q]? = some ce ∧ s.vm.findClass "java/lang/NullPointerException" = some ce.cls ∧ ce.vm = .none := by
  have howns : e.platform.frameOwnsMonitors = true := by rw [X.admits.platform]
  have hfin : e.platform.finalization = false := by rw [X.admits.platform]
  have hpl : e.platform.magicAccessors = ({} : Platform).magicAccessors := by rw [X.admits.platform]
  have hpl2 : e.platform.arrayCloneIsPublic = true := by rw [X.admits.platform]
  have a' : ∀ x, x ∈ Bundle.npeArmAtoms n → x.holds args s none s [] = true := fun x hx => h x hx
  obtain ⟨T, Z, L, LZ, Y⟩ := ThrowableC.of_atoms (args := args) howns hfin hpl (fun x hx => h x (by simp [Bundle.npeArmAtoms, hx]))
  obtain ⟨N, LN, hcN, hnNF, hordN, hffS⟩ := NpeC.of_atoms (args := args) hpl hpl2 L Y (fun x hx => h x (by simp [Bundle.npeArmAtoms, hx]))
  obtain ⟨P1, L1, hP1m, hP1s⟩ := PassC.of_atoms (args := args) (s := s) hpl (X := Bundle.nN) (Y := Bundle.rN) (by decide) (by decide) LibCode.NullPointerException.Init0.at_0 LibCode.NullPointerException.Init0.at_1 LibCode.NullPointerException.Init0.at_4 (fun x hx => h x (by simp [Bundle.npeArmAtoms, hx]))
  obtain ⟨PR, LR, hPRm, hPRs⟩ := PassC.of_atoms (args := args) (s := s) hpl (X := Bundle.rN) (Y := Bundle.eN) (by decide) (by decide) LibCode.RuntimeException.Init0.at_0 LibCode.RuntimeException.Init0.at_1 LibCode.RuntimeException.Init0.at_4 (fun x hx => h x (by simp [Bundle.npeArmAtoms, hx]))
  obtain ⟨PE, LEx, hPEm, hPEs⟩ := PassC.of_atoms (args := args) (s := s) hpl (X := Bundle.eN) (Y := Bundle.tN) (by decide) (by decide) LibCode.Exception.Init0.at_0 LibCode.Exception.Init0.at_1 LibCode.Exception.Init0.at_4 (fun x hx => h x (by simp [Bundle.npeArmAtoms, hx]))
  have hfound : s.vm.findClass Bundle.nN = some P1.m.cls := findClass_of_methodNamed hP1m
  have ecls : N.cN = P1.m.cls := Option.some.inj (hcN.symm.trans hfound)
  have hk : s.vm.classes[P1.m.cls]? = some N.kN := by rw [← ecls]; exact LN.cls
  have hinit := Cond.initialized_spec hfound hk (a' (.initialized Bundle.nN) (by simp [Bundle.npeArmAtoms]))
  have hctor : N.kN.findMethod "<init>" "()V" = some P1.m.idx := findMethod_of_methodNamed hP1m hk
  obtain ⟨c1, k1, hc1, hk1, -, -, -, hn⟩ := Cond.instantiable_spec (a' (.instantiable Bundle.nN n) (by simp [Bundle.npeArmAtoms]))
  cases Option.some.inj (hc1.symm.trans hfound)
  cases Option.some.inj (hk1.symm.trans hk)
  have hfsz : (freshCell P1.m.cls N.kN).slots.size = n := by simp [hn]
  have hlink1 : P1.sup = PR.m := Option.some.inj (hP1s.symm.trans hPRm)
  have hlinkR : PR.sup = PE.m := Option.some.inj (hPRs.symm.trans hPEm)
  have hlinkE : PE.sup = Z.m T.toThrowableT := Option.some.inj (hPEs.symm.trans Y.init0)
  have hLs : ∀ P, P ∈ [PR, PE] → P.Links0 e.platform s := fun P hP => by
    simp only [List.mem_cons, List.not_mem_nil, or_false] at hP
    rcases hP with rfl | rfl
    · exact LR
    · exact LEx
  have hsel0 : selectMethod e.platform s.vm P1.m.cls T.fill0 = .method T.fill0 := by
    obtain ⟨c2, r2, m2, q1, q2, q3, q4, -⟩ := Cond.selects_spec (a' (.selects Bundle.nN Bundle.tFill0 Bundle.tFill0) (by simp [Bundle.npeArmAtoms]))
    cases Option.some.inj (q1.symm.trans hfound)
    cases Option.some.inj (q2.symm.trans (State.methodFound?_of_named Y.fill0 (by decide)))
    cases Option.some.inj (q3.symm.trans Y.fill0)
    rw [Launch.admits_selectMethod X.admits]; exact q4
  have hselF : selectMethod e.platform s.vm P1.m.cls T.fill = .method N.fill := by
    obtain ⟨c2, r2, m2, q1, q2, q3, q4, -⟩ := Cond.selects_spec (a' (.selects Bundle.nN Bundle.tFill Bundle.nFill) (by simp [Bundle.npeArmAtoms]))
    cases Option.some.inj (q1.symm.trans hfound)
    cases Option.some.inj (q2.symm.trans (State.methodFound?_of_named Y.fill (by decide)))
    cases Option.some.inj (q3.symm.trans hnNF)
    rw [Launch.admits_selectMethod X.admits]; exact q4
  obtain ⟨cellS0, hcS0, hiss⟩ := Y.statics
  obtain ⟨u0, hu0⟩ := Cond.staticRefV Y.unassigned L.unassignedStatic L.statics hcS0 hiss (a' (.isRef (.static Bundle.tN "UNASSIGNED_STACK" Bundle.steD)) (by simp [Bundle.npeArmAtoms]))
  obtain ⟨sen, hsen⟩ := Cond.staticRefV Y.sentinel L.sentinelStatic L.statics hcS0 hiss (a' (.isRef (.static Bundle.tN "SUPPRESSED_SENTINEL" Bundle.listD)) (by simp [Bundle.npeArmAtoms]))
  obtain ⟨ci198, i198, fB, hk198, hg198, ha198, hsB, -, hnB, htB, hffB⟩ := Cond.ownField (t := .object "java/lang/Object") Y.found L.cls (by decide +kernel) (a' (.fieldLink Bundle.tN 198 Bundle.tN "backtrace" Bundle.objD) (by simp [Bundle.npeArmAtoms])) (a' (.lays Bundle.tN Bundle.tN "backtrace" Bundle.objD) (by simp [Bundle.npeArmAtoms])) e.platform hpl
  obtain ⟨cellS, hcS', heS, -, hkeep⟩ := X.same.2.2.2.2.2 T.aS cellS0 hcS0
  have hcellS : W.heap[T.aS]? = some cellS := hcS'
  have hout' : ∀ i, (⟨T.aS, i⟩ : Loc) ∉ locs := fun i hmem => by
    have := hlocs _ hmem cellS0 hcS0
    rw [hiss] at this; cases this
  have hknownS : cellS.vm ≠ .unknown := by
    rw [heS]; intro hu
    rw [show cellS0.vm = .unknown from hu] at hiss
    cases hiss
  have hvU : cellS.slots[T.fUnassigned.slot]? = some u0.v := by rw [hkeep _ (hout' _)]; exact hu0
  have hvSen : cellS.slots[T.fSentinel.slot]? = some sen.v := by rw [hkeep _ (hout' _)]; exact hsen
  obtain ⟨tyC, dC, hdC, hdnC⟩ := Cond.laysAt hfound hk Y.cause (a' (.lays Bundle.nN Bundle.tN "cause" "Ljava/lang/Throwable;") (by simp [Bundle.npeArmAtoms]))
  obtain ⟨tyS, dS, hdS, hdnS⟩ := Cond.laysAt hfound hk Y.stack (a' (.lays Bundle.nN Bundle.tN "stackTrace" Bundle.steD) (by simp [Bundle.npeArmAtoms]))
  obtain ⟨tyP, dP, hdP, hdnP⟩ := Cond.laysAt hfound hk Y.supp (a' (.lays Bundle.nN Bundle.tN "suppressedExceptions" Bundle.listD) (by simp [Bundle.npeArmAtoms]))
  obtain ⟨tyX, dX, hdX, hdnX⟩ := Cond.laysAt hfound hk hffS (a' (.lays Bundle.nN Bundle.nN "extendedMessageState" "I") (by simp [Bundle.npeArmAtoms, Bundle.npeAtoms]))
  obtain ⟨hnX, htX⟩ := State.fieldFound?_type hffS (t := .int) (by decide +kernel)
  have xC := Cond.laysApart hdC hdX hdnC hdnX (by rw [hnX, Y.causeName]; decide)
  have xS := Cond.laysApart hdS hdX hdnS hdnX (by rw [hnX, Y.stackName]; decide)
  have xP := Cond.laysApart hdP hdX hdnP hdnX (by rw [hnX, Y.suppName]; decide)
  have hv0 : (freshCell P1.m.cls N.kN).slots[N.fState.slot]? = some (.int 0) := by
    have := fresh_default (c := P1.m.cls) tyX
    rw [htX] at this; exact this
  obtain ⟨tyB, dB, hdB, hdnB⟩ := Cond.laysAt hfound hk hffB (a' (.lays Bundle.nN Bundle.tN "backtrace" Bundle.objD) (by simp [Bundle.npeArmAtoms]))
  have bC := Cond.laysApart hdB hdC hdnB hdnC (by rw [hnB, Y.causeName]; decide)
  have bS := Cond.laysApart hdB hdS hdnB hdnS (by rw [hnB, Y.stackName]; decide)
  have bP := Cond.laysApart hdB hdP hdnB hdnP (by rw [hnB, Y.suppName]; decide)
  have bX := Cond.laysApart hdB hdX hdnB hdnX (by rw [hnB, hnX]; decide)
  have hbk : ((npeCell N.toNpeT (preparedCellV T.toThrowableT (freshCell P1.m.cls N.kN) W.heap.size u0 sen) W.cur).withEntry W.cur).slots[fB.slot]? = some .null := by
    have := fresh_default (c := P1.m.cls) tyB
    rw [htB] at this
    simpa [npeCell, preparedCellV, Cell.setSlot, Cell.withEntry, Array.getElem?_setIfInBounds, bC, bS, bP, bX, bC.symm, bS.symm, bP.symm, bX.symm, defaultValue] using this
  have tkC := Takes.of_laid (v := .ref W.heap.size) hk hordN tyC (by rw [Y.causeType]; rfl)
  have tkS := Takes.of_laid (v := u0.v) hk hordN tyS (by rw [Y.stackType]; exact fits_refV_array _ u0)
  have tkP := Takes.of_laid (v := sen.v) hk hordN tyP (by rw [Y.suppType]; exact fits_refV_object _ sen)
  have tkX := Takes.of_laid (v := .int 1) hk hordN tyX (by rw [htX]; rfl)
  have hskip : SkipFacts T e.platform s (fun u => u) u0 ((npeCell N.toNpeT (preparedCellV T.toThrowableT (freshCell P1.m.cls N.kN) W.heap.size u0 sen) W.cur).withEntry W.cur) := ⟨{ ci198 := ci198, i198 := i198, fBack := fB }, ⟨hk198, hg198, ha198, hsB⟩, hbk, fun _ _ => rfl⟩
  obtain ⟨vm', X3, st, -⟩ := X.throwsNpeColdBareVAt hexec hg hsize T L Z LZ N LN P1 L1 [PR, PE] hLs hlink1 ⟨hlinkR, hlinkE, trivial⟩ hfound hk hinit hordN hctor hsel0 hselF hcellS hknownS hvU hvSen
    hv0 xC xS xP tkC tkS tkP tkX Y.objLocals hskip (fun _ _ hA hW _ hroom _ hrest => L.nativeOff p htr hA hW hroom hrest) (by simpa using hRframes) hRlocals (by simp) hRcells (by rw [hn]; exact hRslots)
  have hlt : W.heap.size < ((W.pushCell (freshCell P1.m.cls N.kN)).setVm vm').heap.size := by
    show W.heap.size < (W.pushCell (freshCell P1.m.cls N.kN)).heap.size
    rw [State.heap_size_pushCell]; omega
  rw [hfsz] at X3
  obtain ⟨g₁, hfrM⟩ := X3.frames_eq
  have hU : ((((W.pushCell (freshCell P1.m.cls N.kN)).setVm vm').setCell W.heap.size (npeBareV T.toThrowableT N.toNpeT (freshCell P1.m.cls N.kN) W.heap.size u0 sen)).setTop g).pushFrame (.throwing W.heap.size) = (((W.pushCell (freshCell P1.m.cls N.kN)).setVm vm').setCell W.heap.size (npeBareV T.toThrowableT N.toNpeT (freshCell P1.m.cls N.kN) W.heap.size u0 sen)).setFrames (.throwing W.heap.size :: .java g :: below) := by
    rw [State.pushFrame, State.frames_setTop _ hfrM, State.setTop_of_frames _ hfrM, State.setFrames_setFrames]
  refine ⟨_, W.heap.size, _, fun target ht => st.trans (by rw [← hU]; exact ht), X3.forget (fun y hy => ?_), heapAt_setCell_self _ hlt, hfound, rfl⟩
  simp only [List.mem_cons, List.not_mem_nil, or_false] at hy
  have hge : s.heap.size ≤ W.heap.size := X.same.2.1
  rcases hy with rfl | rfl | rfl | rfl | rfl <;> exact hge
/-- the words of a machine's NullPointerException, but the four that speak of the heap -/
def vx_atN (n : Nat) : List Cond := (Bundle.npeArmAtoms n).filter vx_no
/-- the words of a machine's throw with a message, but the four that speak of the heap -/
def vx_atM (X : String) (names : List String) : List Cond := (Bundle.messageArmAtoms X names).filter vx_no
section
variable {p : Program} {l : Launch} {e : Env} {R : Room} {s : State} {m : MethodId} {args : Array Value} {below : List Frame} {meth : Method} {c : Code} {H : Heap} {locs : List Loc} {cells slots : Nat}
/-- a frame seen from a rebased start, seen from the first start again -/
theorem vx_back9 {T S : State} {R' : Room} {k n : Nat} (X : Stand p l e R s m args below meth c T locs cells slots) (Y : Stand p l e R' ((T.setVm s.vm).setFrames (.invoking m args :: below)) m args below meth c T [] 0 0) (Z : Stand p l e R' ((T.setVm s.vm).setFrames (.invoking m args :: below)) m args below meth c S [] k n) :
    Stand p l e R s m args below meth c S locs (cells + k) (slots + n) := by
  have hW0 : s.WarmedH ((T.setVm s.vm).setFrames (.invoking m args :: below)).vm := State.WarmedH.refl s
  refine { admits := X.admits, cas := X.cas, clock := X.clock, frames := X.frames, room := X.room, hears := X.hears, method := X.method, code := X.code, here := Z.here, tail := Z.tail, warmed := State.WarmedH.trans hW0 Z.warmed, limits := Z.limits.trans (Y.limits.symm.trans X.limits), bytes := Z.bytes.trans (Y.bytes.symm.trans X.bytes), same := ?_ }
  obtain ⟨e1, e2⟩ := Z.same
  rw [State.setFrames_setFrames] at e1
  have h2 : (T.setVm s.vm).sameButNew (S.setVm s.vm) [] k n := ⟨e1, e2⟩
  have h3 := X.same.trans h2
  rw [List.append_nil] at h3
  exact h3
/-- from the machine's note that E is thrown here with this text -/
def vx_Note (p : Program) (l : Launch) (e : Env) (R : Room) (s : State) (m : MethodId) (args : Array Value) (below : List Frame) (meth : Method) (c : Code) (H : Heap) (locs : List Loc) (cells slots : Nat) (Q : State → Prop) (g : JFrame) (E text : String) : Prop :=
  ∀ T : State, T.heap = H → Stand p l e R s m args below meth c T locs cells slots → ∃ t, Steps p.tables e below ((T.setTop g).pushFrame (.throwNew E (some text) none)) t ∧ Q t
theorem vx_vm {pc : Nat} {ls : Array Slot} {rest : List Value} {Q : State → Prop} (hexec : p.tables.exec = Jvm.exec) (hl : l.stackTraces = false) {cls text : String} {names : List String} {nb : Nat} {A : Nat → Prop}
    (hcls : Bundle.fit cls = true) (hnames : ∀ n ∈ names, Bundle.fit n = true) (hsoe : (cls == "java/lang/StackOverflowError") = false) (hoom : (cls == "java/lang/OutOfMemoryError") = false)
    (hat : ∀ w ∈ vx_atM cls names, w.before args s = true) (hgood : ∀ w ∈ vx_atM cls names, vx_ot w = true)
    (hU : vx_Zq Bundle.tN "UNASSIGNED_STACK" Bundle.steD A s s.heap) (hN : vx_Zq Bundle.tN "SUPPRESSED_SENTINEL" Bundle.listD A s s.heap) (hS : va_S A s.heap H locs) (hsize : ls.size = c.maxLocals)
    (htext : (text == notModelled) = false) (hnb : (stringBytes (stringToUtf16 text)).size ≤ nb) (hnb1 : nb ≤ 1000)
    (hRframes : names.length + 4 < R.frames) (hRlocals : (rest.map fun v => v.category).sum + 10240 ≤ R.locals) (hshort : 13 * names.length + 55 ≤ 10240) (hRcells : cells + 3 ≤ R.cells) (hRslots : slots + (nb + 10) ≤ R.slots) (hlocks : meth.locks = false)
    (k : ∀ (H1 : Heap) (q9 : Addr) (ce : Cell), H.size ≤ H1.size → (∀ q : Nat, q < H.size → H1[q]? = H[q]?) → va_S A s.heap H1 locs → H1[q9]? = some ce → ce.vm = .none → s.vm.findClass cls = some ce.cls → vx_W p l e R s m args below meth c H1 locs (cells + 3) (slots + (nb + 10)) Q (F0 m pc ls rest) q9) :
    vx_Note p l e R s m args below meth c H locs cells slots Q (F0 m pc ls rest) cls text := by
  intro T hT X
  have htr : e.platform.stackTraces = false := (show e.platform.stackTraces = l.stackTraces by rw [X.admits.platform]).trans hl
  have Y := vx_rebase X (R' := { frames := R.frames, locals := R.locals, cells := 3, slots := nb + 10 }) (Nat.le_refl _) (Nat.le_refl _) hRcells hRslots
  have hhp : ((T.setVm s.vm).setFrames (.invoking m args :: below)).heap = H := hT
  have hW0 : s.WarmedH ((T.setVm s.vm).setFrames (.invoking m args :: below)).vm := State.WarmedH.refl s
  have hat' : ∀ w ∈ vx_atM cls names, w.before args ((T.setVm s.vm).setFrames (.invoking m args :: below)) = true := fun w hw => vx_ot_at hW0 rfl (hgood w hw) (hat w hw)
  have hU' : vx_Zq Bundle.tN "UNASSIGNED_STACK" Bundle.steD A ((T.setVm s.vm).setFrames (.invoking m args :: below)) ((T.setVm s.vm).setFrames (.invoking m args :: below)).heap := by rw [hhp]; exact vx_Zq.moved hW0.alike (hU.kept hS.2.1)
  have hN' : vx_Zq Bundle.tN "SUPPRESSED_SENTINEL" Bundle.listD A ((T.setVm s.vm).setFrames (.invoking m args :: below)) ((T.setVm s.vm).setFrames (.invoking m args :: below)).heap := by rw [hhp]; exact vx_Zq.moved hW0.alike (hN.kept hS.2.1)
  obtain ⟨S, q, ce, st, Z, hce, hcl', hv⟩ := vx_vmAt Y hexec htr (cls := cls) (names := names) (text := text) hcls hnames hsoe hoom (vx_own hat' (vx_isRefq hU'.1) (vx_isRefq hN'.1) hU'.2.word hN'.2.word) (fun x hx => nomatch hx) htext
    (by rw [Launch.admits_arrayLengthLimit X.admits]; omega) (by rw [Launch.admits_maxHeapBytes X.admits]; simp only [componentBytes]; omega)
    (g := F0 m pc ls rest) rfl hsize hRframes (by show 2 * 0 + (rest.map fun v => v.category).sum + 10240 ≤ R.locals; omega) hshort (by show 0 + 3 ≤ 3; omega) (by show 0 + (_ + 4 + 6) ≤ nb + 10; omega) hlocks
  obtain ⟨f1, f2⟩ := vx_frame Z.same
  have f1' : H.size ≤ S.heap.size := by rw [← hT]; exact f1
  have f2' : ∀ q : Nat, q < H.size → S.heap[q]? = H[q]? := fun q hq => by
    rw [← hT]
    exact f2 q (by rw [← hT] at hq; exact hq) (fun z hz => nomatch hz)
  have X5 := vx_back9 X Y Z
  have X6 : Stand p l e R s m args below meth c S locs (cells + 3) (slots + (nb + 10)) := { X5 with same := X5.same.mono (by omega) (by omega) }
  obtain ⟨t, a1, b1⟩ := k S.heap q ce f1' f2' ⟨Nat.le_trans hS.1 f1', fun q h1 h2 => (f2' q (Nat.lt_of_lt_of_le h1 hS.1)).trans (hS.2.1 q h1 h2), hS.2.2⟩ hce hv hcl' S rfl X6
  exact ⟨t, st t a1, b1⟩
/-- from the machine's note that NullPointerException is thrown here -/
def vx_NoteN (p : Program) (l : Launch) (e : Env) (R : Room) (s : State) (m : MethodId) (args : Array Value) (below : List Frame) (meth : Method) (c : Code) (H : Heap) (locs : List Loc) (cells slots : Nat) (Q : State → Prop) (g : JFrame) : Prop :=
  ∀ T : State, T.heap = H → Stand p l e R s m args below meth c T locs cells slots → ∃ t, Steps p.tables e below ((T.setTop g).pushFrame (.throwNew "java/lang/NullPointerException" none none)) t ∧ Q t
theorem vx_npe {pc : Nat} {ls : Array Slot} {rest : List Value} {Q : State → Prop} (hexec : p.tables.exec = Jvm.exec) (hl : l.stackTraces = false) {nb : Nat} {A : Nat → Prop}
    (hat : ∀ w ∈ vx_atN nb, w.before args s = true) (hgood : ∀ w ∈ vx_atN nb, vx_ot w = true)
    (hU : vx_Zq Bundle.tN "UNASSIGNED_STACK" Bundle.steD A s s.heap) (hN : vx_Zq Bundle.tN "SUPPRESSED_SENTINEL" Bundle.listD A s s.heap) (hS : va_S A s.heap H locs) (hsize : ls.size = c.maxLocals)
    (hRframes : 7 < R.frames) (hRlocals : (rest.map fun v => v.category).sum + 10240 ≤ R.locals) (hRcells : cells + 1 ≤ R.cells) (hRslots : slots + nb ≤ R.slots) (hlocks : meth.locks = false)
    (k : ∀ (H1 : Heap) (q9 : Addr) (ce : Cell), H.size ≤ H1.size → (∀ q : Nat, q < H.size → H1[q]? = H[q]?) → va_S A s.heap H1 locs → H1[q9]? = some ce → ce.vm = .none → s.vm.findClass "java/lang/NullPointerException" = some ce.cls → vx_W p l e R s m args below meth c H1 locs (cells + 1) (slots + nb) Q (F0 m pc ls rest) q9) :
    vx_NoteN p l e R s m args below meth c H locs cells slots Q (F0 m pc ls rest) := by
  intro T hT X
  have htr : e.platform.stackTraces = false := (show e.platform.stackTraces = l.stackTraces by rw [X.admits.platform]).trans hl
  have Y := vx_rebase X (R' := { frames := R.frames, locals := R.locals, cells := 1, slots := nb }) (Nat.le_refl _) (Nat.le_refl _) hRcells hRslots
  have hhp : ((T.setVm s.vm).setFrames (.invoking m args :: below)).heap = H := hT
  have hW0 : s.WarmedH ((T.setVm s.vm).setFrames (.invoking m args :: below)).vm := State.WarmedH.refl s
  have hat' : ∀ w ∈ vx_atN nb, w.before args ((T.setVm s.vm).setFrames (.invoking m args :: below)) = true := fun w hw => vx_ot_at hW0 rfl (hgood w hw) (hat w hw)
  have hU' : vx_Zq Bundle.tN "UNASSIGNED_STACK" Bundle.steD A ((T.setVm s.vm).setFrames (.invoking m args :: below)) ((T.setVm s.vm).setFrames (.invoking m args :: below)).heap := by rw [hhp]; exact vx_Zq.moved hW0.alike (hU.kept hS.2.1)
  have hN' : vx_Zq Bundle.tN "SUPPRESSED_SENTINEL" Bundle.listD A ((T.setVm s.vm).setFrames (.invoking m args :: below)) ((T.setVm s.vm).setFrames (.invoking m args :: below)).heap := by rw [hhp]; exact vx_Zq.moved hW0.alike (hN.kept hS.2.1)
  obtain ⟨S, q, ce, st, Z, hce, hcl', hv⟩ := vx_npeAt Y hexec htr (n := nb) (vx_own hat' (vx_isRefq hU'.1) (vx_isRefq hN'.1) hU'.2.word hN'.2.word) (fun x hx => nomatch hx)
    (g := F0 m pc ls rest) rfl hsize hRframes (by show 2 * 0 + (rest.map fun v => v.category).sum + 10240 ≤ R.locals; omega) (by show 0 + 1 ≤ 1; omega) (by show 0 + nb ≤ nb; omega) hlocks
  obtain ⟨f1, f2⟩ := vx_frame Z.same
  have f1' : H.size ≤ S.heap.size := by rw [← hT]; exact f1
  have f2' : ∀ q : Nat, q < H.size → S.heap[q]? = H[q]? := fun q hq => by
    rw [← hT]
    exact f2 q (by rw [← hT] at hq; exact hq) (fun z hz => nomatch hz)
  have X5 := vx_back9 X Y Z
  have X6 : Stand p l e R s m args below meth c S locs (cells + 1) (slots + nb) := { X5 with same := X5.same.mono (by omega) (by omega) }
  obtain ⟨t, a1, b1⟩ := k S.heap q ce f1' f2' ⟨Nat.le_trans hS.1 f1', fun q h1 h2 => (f2' q (Nat.lt_of_lt_of_le h1 hS.1)).trans (hS.2.1 q h1 h2), hS.2.2⟩ hce hv hcl' S rfl X6
  exact ⟨t, st t a1, b1⟩
variable {Q : State → Prop} {cc : ByteArray} {pc : Nat} {ls : Array Slot} {rest : List Value}
theorem vx_idivZ (hexec : p.tables.exec = Jvm.exec) (hb : c.code = cc) {a b : Int32} (h0 : b = 0) (d : decode cc pc = .ok (.idiv, 1)) (k : vx_Note p l e R s m args below meth c H locs cells slots Q (F0 m pc ls rest) "java/lang/ArithmeticException" "/ by zero") :
    W p l e R s m args below meth c H locs cells slots Q (F0 m pc ls (.int b :: .int a :: rest)) := by
  intro T hT X
  obtain ⟨t, st, q⟩ := k T hT X
  exact ⟨t, X.idivZero hexec (g := F0 m pc ls (.int b :: .int a :: rest)) rfl (a := a) (rest := rest) (by rw [h0]) (by rw [hb]; exact d) t st, q⟩
theorem vx_iremZ (hexec : p.tables.exec = Jvm.exec) (hb : c.code = cc) {a b : Int32} (h0 : b = 0) (d : decode cc pc = .ok (.irem, 1)) (k : vx_Note p l e R s m args below meth c H locs cells slots Q (F0 m pc ls rest) "java/lang/ArithmeticException" "/ by zero") :
    W p l e R s m args below meth c H locs cells slots Q (F0 m pc ls (.int b :: .int a :: rest)) := by
  intro T hT X
  obtain ⟨t, st, q⟩ := k T hT X
  exact ⟨t, X.iremZero hexec (g := F0 m pc ls (.int b :: .int a :: rest)) rfl (a := a) (rest := rest) (by rw [h0]) (by rw [hb]; exact d) t st, q⟩
theorem vx_ldivZ (hexec : p.tables.exec = Jvm.exec) (hb : c.code = cc) {a b : Int64} (h0 : b = 0) (d : decode cc pc = .ok (.ldiv, 1)) (k : vx_Note p l e R s m args below meth c H locs cells slots Q (F0 m pc ls rest) "java/lang/ArithmeticException" "/ by zero") :
    W p l e R s m args below meth c H locs cells slots Q (F0 m pc ls (.long b :: .long a :: rest)) := by
  intro T hT X
  obtain ⟨t, st, q⟩ := k T hT X
  exact ⟨t, X.ldivZero hexec (g := F0 m pc ls (.long b :: .long a :: rest)) rfl (a := a) (rest := rest) (by rw [h0]) (by rw [hb]; exact d) t st, q⟩
theorem vx_lremZ (hexec : p.tables.exec = Jvm.exec) (hb : c.code = cc) {a b : Int64} (h0 : b = 0) (d : decode cc pc = .ok (.lrem, 1)) (k : vx_Note p l e R s m args below meth c H locs cells slots Q (F0 m pc ls rest) "java/lang/ArithmeticException" "/ by zero") :
    W p l e R s m args below meth c H locs cells slots Q (F0 m pc ls (.long b :: .long a :: rest)) := by
  intro T hT X
  obtain ⟨t, st, q⟩ := k T hT X
  exact ⟨t, X.lremZero hexec (g := F0 m pc ls (.long b :: .long a :: rest)) rfl (a := a) (rest := rest) (by rw [h0]) (by rw [hb]; exact d) t st, q⟩
theorem vx_ialdZ {D : va_G} {cl : List vw_C} {ws : va_W} {tys : List (ClassId × FieldType)} {a : Nat} (hexec : p.tables.exec = Jvm.exec) (hb : c.code = cc) (hK : va_K D cl tys s) (hP : va_P D cl ws H) (q0 t0 : Nat) {cA : ClassId} {n : Nat} {f : Nat → Int32} (ha : ws[q0]? = some (a, .inl (cA, n, .inl f))) (ht : tys[t0]? = some (cA, .int)) {i : Int32} (hout : ¬ vp_in i n) (hdg : decode cc pc = .ok (.iaload, 1))
    (k : ∀ tx : String, tx = (toString "Index " ++ toString i ++ toString " out of bounds for length " ++ toString n : String) → vx_Note p l e R s m args below meth c H locs cells slots Q (F0 m pc ls rest) "java/lang/ArrayIndexOutOfBoundsException" tx) : W p l e R s m args below meth c H locs cells slots Q (F0 m pc ls (.int i :: .ref a :: rest)) := by
  intro T hT X
  obtain ⟨t, st, q⟩ := k _ rfl T hT X
  refine ⟨t, ?_, q⟩
  have h1 := X.ialoadOut hexec (by rw [hT]; exact hP q0 _ ha) ((hK.2 t0 _ ht).1 n (fun j => .int (f j))) (j := i) (by show (i < 0 ∨ (arrV _ _ _).slots.size ≤ _); rw [arrV_size]; exact Classical.byContradiction hout) (g := F0 m pc ls (.int i :: .ref a :: rest)) rfl (rest := rest) rfl (by rw [hb]; exact hdg) t
  simp only [arrV_size] at h1
  exact h1 st
theorem vx_iastZ {D : va_G} {cl : List vw_C} {ws : va_W} {tys : List (ClassId × FieldType)} {a : Nat} (hexec : p.tables.exec = Jvm.exec) (hb : c.code = cc) (hK : va_K D cl tys s) (hP : va_P D cl ws H) (q0 t0 : Nat) {cA : ClassId} {n : Nat} {f : Nat → Int32} (ha : ws[q0]? = some (a, .inl (cA, n, .inl f))) (ht : tys[t0]? = some (cA, .int)) {i : Int32} {x : Int32} (hout : ¬ vp_in i n) (hdg : decode cc pc = .ok (.iastore, 1))
    (k : ∀ tx : String, tx = (toString "Index " ++ toString i ++ toString " out of bounds for length " ++ toString n : String) → vx_Note p l e R s m args below meth c H locs cells slots Q (F0 m pc ls rest) "java/lang/ArrayIndexOutOfBoundsException" tx) : W p l e R s m args below meth c H locs cells slots Q (F0 m pc ls (.int x :: .int i :: .ref a :: rest)) := by
  intro T hT X
  obtain ⟨t, st, q⟩ := k _ rfl T hT X
  refine ⟨t, ?_, q⟩
  have h1 := X.iastoreOut hexec (by rw [hT]; exact hP q0 _ ha) ((hK.2 t0 _ ht).1 n (fun j => .int (f j))) (j := i) (by show (i < 0 ∨ (arrV _ _ _).slots.size ≤ _); rw [arrV_size]; exact Classical.byContradiction hout) (g := F0 m pc ls (.int x :: .int i :: .ref a :: rest)) rfl (rest := rest) rfl (by rw [hb]; exact hdg) t
  simp only [arrV_size] at h1
  exact h1 st
theorem vx_baldZ {D : va_G} {cl : List vw_C} {ws : va_W} {tys : List (ClassId × FieldType)} {a : Nat} (hexec : p.tables.exec = Jvm.exec) (hb : c.code = cc) (hK : va_K D cl tys s) (hP : va_P D cl ws H) (q0 t0 : Nat) {cA : ClassId} {n : Nat} {f : Nat → Int32} (ha : ws[q0]? = some (a, .inl (cA, n, .inl f))) (ht : tys[t0]? = some (cA, .byte)) {i : Int32} (hout : ¬ vp_in i n) (hdg : decode cc pc = .ok (.baload, 1))
    (k : ∀ tx : String, tx = (toString "Index " ++ toString i ++ toString " out of bounds for length " ++ toString n : String) → vx_Note p l e R s m args below meth c H locs cells slots Q (F0 m pc ls rest) "java/lang/ArrayIndexOutOfBoundsException" tx) : W p l e R s m args below meth c H locs cells slots Q (F0 m pc ls (.int i :: .ref a :: rest)) := by
  intro T hT X
  obtain ⟨t, st, q⟩ := k _ rfl T hT X
  refine ⟨t, ?_, q⟩
  have h1 := X.baloadOut hexec (by rw [hT]; exact hP q0 _ ha) ((hK.2 t0 _ ht).1 n (fun j => .int (f j))) (j := i) (by show (i < 0 ∨ (arrV _ _ _).slots.size ≤ _); rw [arrV_size]; exact Classical.byContradiction hout) (g := F0 m pc ls (.int i :: .ref a :: rest)) rfl (rest := rest) rfl (by rw [hb]; exact hdg) t
  simp only [arrV_size] at h1
  exact h1 st
theorem vx_bastZ {D : va_G} {cl : List vw_C} {ws : va_W} {tys : List (ClassId × FieldType)} {a : Nat} (hexec : p.tables.exec = Jvm.exec) (hb : c.code = cc) (hK : va_K D cl tys s) (hP : va_P D cl ws H) (q0 t0 : Nat) {cA : ClassId} {n : Nat} {f : Nat → Int32} (ha : ws[q0]? = some (a, .inl (cA, n, .inl f))) (ht : tys[t0]? = some (cA, .byte)) {i : Int32} {x : Int32} (hout : ¬ vp_in i n) (hdg : decode cc pc = .ok (.bastore, 1))
    (k : ∀ tx : String, tx = (toString "Index " ++ toString i ++ toString " out of bounds for length " ++ toString n : String) → vx_Note p l e R s m args below meth c H locs cells slots Q (F0 m pc ls rest) "java/lang/ArrayIndexOutOfBoundsException" tx) : W p l e R s m args below meth c H locs cells slots Q (F0 m pc ls (.int x :: .int i :: .ref a :: rest)) := by
  intro T hT X
  obtain ⟨t, st, q⟩ := k _ rfl T hT X
  refine ⟨t, ?_, q⟩
  have h1 := X.bastoreOut hexec (by rw [hT]; exact hP q0 _ ha) ((hK.2 t0 _ ht).1 n (fun j => .int (f j))) (j := i) (by show (i < 0 ∨ (arrV _ _ _).slots.size ≤ _); rw [arrV_size]; exact Classical.byContradiction hout) (g := F0 m pc ls (.int x :: .int i :: .ref a :: rest)) rfl (rest := rest) rfl (by rw [hb]; exact hdg) t
  simp only [arrV_size] at h1
  exact h1 st
theorem vx_zaldZ {D : va_G} {cl : List vw_C} {ws : va_W} {tys : List (ClassId × FieldType)} {a : Nat} (hexec : p.tables.exec = Jvm.exec) (hb : c.code = cc) (hK : va_K D cl tys s) (hP : va_P D cl ws H) (q0 t0 : Nat) {cA : ClassId} {n : Nat} {f : Nat → Int32} (ha : ws[q0]? = some (a, .inl (cA, n, .inl f))) (ht : tys[t0]? = some (cA, .boolean)) {i : Int32} (hout : ¬ vp_in i n) (hdg : decode cc pc = .ok (.baload, 1))
    (k : ∀ tx : String, tx = (toString "Index " ++ toString i ++ toString " out of bounds for length " ++ toString n : String) → vx_Note p l e R s m args below meth c H locs cells slots Q (F0 m pc ls rest) "java/lang/ArrayIndexOutOfBoundsException" tx) : W p l e R s m args below meth c H locs cells slots Q (F0 m pc ls (.int i :: .ref a :: rest)) := by
  intro T hT X
  obtain ⟨t, st, q⟩ := k _ rfl T hT X
  refine ⟨t, ?_, q⟩
  have h1 := X.baloadOut hexec (by rw [hT]; exact hP q0 _ ha) ((hK.2 t0 _ ht).1 n (fun j => .int (f j))) (j := i) (by show (i < 0 ∨ (arrV _ _ _).slots.size ≤ _); rw [arrV_size]; exact Classical.byContradiction hout) (g := F0 m pc ls (.int i :: .ref a :: rest)) rfl (rest := rest) rfl (by rw [hb]; exact hdg) t
  simp only [arrV_size] at h1
  exact h1 st
theorem vx_zastZ {D : va_G} {cl : List vw_C} {ws : va_W} {tys : List (ClassId × FieldType)} {a : Nat} (hexec : p.tables.exec = Jvm.exec) (hb : c.code = cc) (hK : va_K D cl tys s) (hP : va_P D cl ws H) (q0 t0 : Nat) {cA : ClassId} {n : Nat} {f : Nat → Int32} (ha : ws[q0]? = some (a, .inl (cA, n, .inl f))) (ht : tys[t0]? = some (cA, .boolean)) {i : Int32} {x : Int32} (hout : ¬ vp_in i n) (hdg : decode cc pc = .ok (.bastore, 1))
    (k : ∀ tx : String, tx = (toString "Index " ++ toString i ++ toString " out of bounds for length " ++ toString n : String) → vx_Note p l e R s m args below meth c H locs cells slots Q (F0 m pc ls rest) "java/lang/ArrayIndexOutOfBoundsException" tx) : W p l e R s m args below meth c H locs cells slots Q (F0 m pc ls (.int x :: .int i :: .ref a :: rest)) := by
  intro T hT X
  obtain ⟨t, st, q⟩ := k _ rfl T hT X
  refine ⟨t, ?_, q⟩
  have h1 := X.bastoreOut hexec (by rw [hT]; exact hP q0 _ ha) ((hK.2 t0 _ ht).1 n (fun j => .int (f j))) (j := i) (by show (i < 0 ∨ (arrV _ _ _).slots.size ≤ _); rw [arrV_size]; exact Classical.byContradiction hout) (g := F0 m pc ls (.int x :: .int i :: .ref a :: rest)) rfl (rest := rest) rfl (by rw [hb]; exact hdg) t
  simp only [arrV_size] at h1
  exact h1 st
theorem vx_caldZ {D : va_G} {cl : List vw_C} {ws : va_W} {tys : List (ClassId × FieldType)} {a : Nat} (hexec : p.tables.exec = Jvm.exec) (hb : c.code = cc) (hK : va_K D cl tys s) (hP : va_P D cl ws H) (q0 t0 : Nat) {cA : ClassId} {n : Nat} {f : Nat → Int32} (ha : ws[q0]? = some (a, .inl (cA, n, .inl f))) (ht : tys[t0]? = some (cA, .char)) {i : Int32} (hout : ¬ vp_in i n) (hdg : decode cc pc = .ok (.caload, 1))
    (k : ∀ tx : String, tx = (toString "Index " ++ toString i ++ toString " out of bounds for length " ++ toString n : String) → vx_Note p l e R s m args below meth c H locs cells slots Q (F0 m pc ls rest) "java/lang/ArrayIndexOutOfBoundsException" tx) : W p l e R s m args below meth c H locs cells slots Q (F0 m pc ls (.int i :: .ref a :: rest)) := by
  intro T hT X
  obtain ⟨t, st, q⟩ := k _ rfl T hT X
  refine ⟨t, ?_, q⟩
  have h1 := X.caloadOut hexec (by rw [hT]; exact hP q0 _ ha) ((hK.2 t0 _ ht).1 n (fun j => .int (f j))) (j := i) (by show (i < 0 ∨ (arrV _ _ _).slots.size ≤ _); rw [arrV_size]; exact Classical.byContradiction hout) (g := F0 m pc ls (.int i :: .ref a :: rest)) rfl (rest := rest) rfl (by rw [hb]; exact hdg) t
  simp only [arrV_size] at h1
  exact h1 st
theorem vx_castZ {D : va_G} {cl : List vw_C} {ws : va_W} {tys : List (ClassId × FieldType)} {a : Nat} (hexec : p.tables.exec = Jvm.exec) (hb : c.code = cc) (hK : va_K D cl tys s) (hP : va_P D cl ws H) (q0 t0 : Nat) {cA : ClassId} {n : Nat} {f : Nat → Int32} (ha : ws[q0]? = some (a, .inl (cA, n, .inl f))) (ht : tys[t0]? = some (cA, .char)) {i : Int32} {x : Int32} (hout : ¬ vp_in i n) (hdg : decode cc pc = .ok (.castore, 1))
    (k : ∀ tx : String, tx = (toString "Index " ++ toString i ++ toString " out of bounds for length " ++ toString n : String) → vx_Note p l e R s m args below meth c H locs cells slots Q (F0 m pc ls rest) "java/lang/ArrayIndexOutOfBoundsException" tx) : W p l e R s m args below meth c H locs cells slots Q (F0 m pc ls (.int x :: .int i :: .ref a :: rest)) := by
  intro T hT X
  obtain ⟨t, st, q⟩ := k _ rfl T hT X
  refine ⟨t, ?_, q⟩
  have h1 := X.castoreOut hexec (by rw [hT]; exact hP q0 _ ha) ((hK.2 t0 _ ht).1 n (fun j => .int (f j))) (j := i) (by show (i < 0 ∨ (arrV _ _ _).slots.size ≤ _); rw [arrV_size]; exact Classical.byContradiction hout) (g := F0 m pc ls (.int x :: .int i :: .ref a :: rest)) rfl (rest := rest) rfl (by rw [hb]; exact hdg) t
  simp only [arrV_size] at h1
  exact h1 st
theorem vx_saldZ {D : va_G} {cl : List vw_C} {ws : va_W} {tys : List (ClassId × FieldType)} {a : Nat} (hexec : p.tables.exec = Jvm.exec) (hb : c.code = cc) (hK : va_K D cl tys s) (hP : va_P D cl ws H) (q0 t0 : Nat) {cA : ClassId} {n : Nat} {f : Nat → Int32} (ha : ws[q0]? = some (a, .inl (cA, n, .inl f))) (ht : tys[t0]? = some (cA, .short)) {i : Int32} (hout : ¬ vp_in i n) (hdg : decode cc pc = .ok (.saload, 1))
    (k : ∀ tx : String, tx = (toString "Index " ++ toString i ++ toString " out of bounds for length " ++ toString n : String) → vx_Note p l e R s m args below meth c H locs cells slots Q (F0 m pc ls rest) "java/lang/ArrayIndexOutOfBoundsException" tx) : W p l e R s m args below meth c H locs cells slots Q (F0 m pc ls (.int i :: .ref a :: rest)) := by
  intro T hT X
  obtain ⟨t, st, q⟩ := k _ rfl T hT X
  refine ⟨t, ?_, q⟩
  have h1 := X.saloadOut hexec (by rw [hT]; exact hP q0 _ ha) ((hK.2 t0 _ ht).1 n (fun j => .int (f j))) (j := i) (by show (i < 0 ∨ (arrV _ _ _).slots.size ≤ _); rw [arrV_size]; exact Classical.byContradiction hout) (g := F0 m pc ls (.int i :: .ref a :: rest)) rfl (rest := rest) rfl (by rw [hb]; exact hdg) t
  simp only [arrV_size] at h1
  exact h1 st
theorem vx_sastZ {D : va_G} {cl : List vw_C} {ws : va_W} {tys : List (ClassId × FieldType)} {a : Nat} (hexec : p.tables.exec = Jvm.exec) (hb : c.code = cc) (hK : va_K D cl tys s) (hP : va_P D cl ws H) (q0 t0 : Nat) {cA : ClassId} {n : Nat} {f : Nat → Int32} (ha : ws[q0]? = some (a, .inl (cA, n, .inl f))) (ht : tys[t0]? = some (cA, .short)) {i : Int32} {x : Int32} (hout : ¬ vp_in i n) (hdg : decode cc pc = .ok (.sastore, 1))
    (k : ∀ tx : String, tx = (toString "Index " ++ toString i ++ toString " out of bounds for length " ++ toString n : String) → vx_Note p l e R s m args below meth c H locs cells slots Q (F0 m pc ls rest) "java/lang/ArrayIndexOutOfBoundsException" tx) : W p l e R s m args below meth c H locs cells slots Q (F0 m pc ls (.int x :: .int i :: .ref a :: rest)) := by
  intro T hT X
  obtain ⟨t, st, q⟩ := k _ rfl T hT X
  refine ⟨t, ?_, q⟩
  have h1 := X.sastoreOut hexec (by rw [hT]; exact hP q0 _ ha) ((hK.2 t0 _ ht).1 n (fun j => .int (f j))) (j := i) (by show (i < 0 ∨ (arrV _ _ _).slots.size ≤ _); rw [arrV_size]; exact Classical.byContradiction hout) (g := F0 m pc ls (.int x :: .int i :: .ref a :: rest)) rfl (rest := rest) rfl (by rw [hb]; exact hdg) t
  simp only [arrV_size] at h1
  exact h1 st
theorem vx_laldZ {D : va_G} {cl : List vw_C} {ws : va_W} {tys : List (ClassId × FieldType)} {a : Nat} (hexec : p.tables.exec = Jvm.exec) (hb : c.code = cc) (hK : va_K D cl tys s) (hP : va_P D cl ws H) (q0 t0 : Nat) {cA : ClassId} {n : Nat} {f : Nat → Int64} (ha : ws[q0]? = some (a, .inl (cA, n, .inr (.inl f)))) (ht : tys[t0]? = some (cA, .long)) {i : Int32} (hout : ¬ vp_in i n) (hdg : decode cc pc = .ok (.laload, 1))
    (k : ∀ tx : String, tx = (toString "Index " ++ toString i ++ toString " out of bounds for length " ++ toString n : String) → vx_Note p l e R s m args below meth c H locs cells slots Q (F0 m pc ls rest) "java/lang/ArrayIndexOutOfBoundsException" tx) : W p l e R s m args below meth c H locs cells slots Q (F0 m pc ls (.int i :: .ref a :: rest)) := by
  intro T hT X
  obtain ⟨t, st, q⟩ := k _ rfl T hT X
  refine ⟨t, ?_, q⟩
  have h1 := X.laloadOut hexec (by rw [hT]; exact hP q0 _ ha) ((hK.2 t0 _ ht).1 n (fun j => .long (f j))) (j := i) (by show (i < 0 ∨ (arrV _ _ _).slots.size ≤ _); rw [arrV_size]; exact Classical.byContradiction hout) (g := F0 m pc ls (.int i :: .ref a :: rest)) rfl (rest := rest) rfl (by rw [hb]; exact hdg) t
  simp only [arrV_size] at h1
  exact h1 st
theorem vx_lastZ {D : va_G} {cl : List vw_C} {ws : va_W} {tys : List (ClassId × FieldType)} {a : Nat} (hexec : p.tables.exec = Jvm.exec) (hb : c.code = cc) (hK : va_K D cl tys s) (hP : va_P D cl ws H) (q0 t0 : Nat) {cA : ClassId} {n : Nat} {f : Nat → Int64} (ha : ws[q0]? = some (a, .inl (cA, n, .inr (.inl f)))) (ht : tys[t0]? = some (cA, .long)) {i : Int32} {x : Int64} (hout : ¬ vp_in i n) (hdg : decode cc pc = .ok (.lastore, 1))
    (k : ∀ tx : String, tx = (toString "Index " ++ toString i ++ toString " out of bounds for length " ++ toString n : String) → vx_Note p l e R s m args below meth c H locs cells slots Q (F0 m pc ls rest) "java/lang/ArrayIndexOutOfBoundsException" tx) : W p l e R s m args below meth c H locs cells slots Q (F0 m pc ls (.long x :: .int i :: .ref a :: rest)) := by
  intro T hT X
  obtain ⟨t, st, q⟩ := k _ rfl T hT X
  refine ⟨t, ?_, q⟩
  have h1 := X.lastoreOut hexec (by rw [hT]; exact hP q0 _ ha) ((hK.2 t0 _ ht).1 n (fun j => .long (f j))) (j := i) (by show (i < 0 ∨ (arrV _ _ _).slots.size ≤ _); rw [arrV_size]; exact Classical.byContradiction hout) (g := F0 m pc ls (.long x :: .int i :: .ref a :: rest)) rfl (rest := rest) rfl (by rw [hb]; exact hdg) t
  simp only [arrV_size] at h1
  exact h1 st
theorem vx_faldZ {D : va_G} {cl : List vw_C} {ws : va_W} {tys : List (ClassId × FieldType)} {a : Nat} (hexec : p.tables.exec = Jvm.exec) (hb : c.code = cc) (hK : va_K D cl tys s) (hP : va_P D cl ws H) (q0 t0 : Nat) {cA : ClassId} {n : Nat} {f : Nat → UInt32} (ha : ws[q0]? = some (a, .inl (cA, n, .inr (.inr (.inl f))))) (ht : tys[t0]? = some (cA, .float)) {i : Int32} (hout : ¬ vp_in i n) (hdg : decode cc pc = .ok (.faload, 1))
    (k : ∀ tx : String, tx = (toString "Index " ++ toString i ++ toString " out of bounds for length " ++ toString n : String) → vx_Note p l e R s m args below meth c H locs cells slots Q (F0 m pc ls rest) "java/lang/ArrayIndexOutOfBoundsException" tx) : W p l e R s m args below meth c H locs cells slots Q (F0 m pc ls (.int i :: .ref a :: rest)) := by
  intro T hT X
  obtain ⟨t, st, q⟩ := k _ rfl T hT X
  refine ⟨t, ?_, q⟩
  have h1 := X.faloadOut hexec (by rw [hT]; exact hP q0 _ ha) ((hK.2 t0 _ ht).1 n (fun j => .float (f j))) (j := i) (by show (i < 0 ∨ (arrV _ _ _).slots.size ≤ _); rw [arrV_size]; exact Classical.byContradiction hout) (g := F0 m pc ls (.int i :: .ref a :: rest)) rfl (rest := rest) rfl (by rw [hb]; exact hdg) t
  simp only [arrV_size] at h1
  exact h1 st
theorem vx_fastZ {D : va_G} {cl : List vw_C} {ws : va_W} {tys : List (ClassId × FieldType)} {a : Nat} (hexec : p.tables.exec = Jvm.exec) (hb : c.code = cc) (hK : va_K D cl tys s) (hP : va_P D cl ws H) (q0 t0 : Nat) {cA : ClassId} {n : Nat} {f : Nat → UInt32} (ha : ws[q0]? = some (a, .inl (cA, n, .inr (.inr (.inl f))))) (ht : tys[t0]? = some (cA, .float)) {i : Int32} {x : UInt32} (hout : ¬ vp_in i n) (hdg : decode cc pc = .ok (.fastore, 1))
    (k : ∀ tx : String, tx = (toString "Index " ++ toString i ++ toString " out of bounds for length " ++ toString n : String) → vx_Note p l e R s m args below meth c H locs cells slots Q (F0 m pc ls rest) "java/lang/ArrayIndexOutOfBoundsException" tx) : W p l e R s m args below meth c H locs cells slots Q (F0 m pc ls (.float x :: .int i :: .ref a :: rest)) := by
  intro T hT X
  obtain ⟨t, st, q⟩ := k _ rfl T hT X
  refine ⟨t, ?_, q⟩
  have h1 := X.fastoreOut hexec (by rw [hT]; exact hP q0 _ ha) ((hK.2 t0 _ ht).1 n (fun j => .float (f j))) (j := i) (by show (i < 0 ∨ (arrV _ _ _).slots.size ≤ _); rw [arrV_size]; exact Classical.byContradiction hout) (g := F0 m pc ls (.float x :: .int i :: .ref a :: rest)) rfl (rest := rest) rfl (by rw [hb]; exact hdg) t
  simp only [arrV_size] at h1
  exact h1 st
theorem vx_daldZ {D : va_G} {cl : List vw_C} {ws : va_W} {tys : List (ClassId × FieldType)} {a : Nat} (hexec : p.tables.exec = Jvm.exec) (hb : c.code = cc) (hK : va_K D cl tys s) (hP : va_P D cl ws H) (q0 t0 : Nat) {cA : ClassId} {n : Nat} {f : Nat → UInt64} (ha : ws[q0]? = some (a, .inl (cA, n, .inr (.inr (.inr (.inl f)))))) (ht : tys[t0]? = some (cA, .double)) {i : Int32} (hout : ¬ vp_in i n) (hdg : decode cc pc = .ok (.daload, 1))
    (k : ∀ tx : String, tx = (toString "Index " ++ toString i ++ toString " out of bounds for length " ++ toString n : String) → vx_Note p l e R s m args below meth c H locs cells slots Q (F0 m pc ls rest) "java/lang/ArrayIndexOutOfBoundsException" tx) : W p l e R s m args below meth c H locs cells slots Q (F0 m pc ls (.int i :: .ref a :: rest)) := by
  intro T hT X
  obtain ⟨t, st, q⟩ := k _ rfl T hT X
  refine ⟨t, ?_, q⟩
  have h1 := X.daloadOut hexec (by rw [hT]; exact hP q0 _ ha) ((hK.2 t0 _ ht).1 n (fun j => .double (f j))) (j := i) (by show (i < 0 ∨ (arrV _ _ _).slots.size ≤ _); rw [arrV_size]; exact Classical.byContradiction hout) (g := F0 m pc ls (.int i :: .ref a :: rest)) rfl (rest := rest) rfl (by rw [hb]; exact hdg) t
  simp only [arrV_size] at h1
  exact h1 st
theorem vx_dastZ {D : va_G} {cl : List vw_C} {ws : va_W} {tys : List (ClassId × FieldType)} {a : Nat} (hexec : p.tables.exec = Jvm.exec) (hb : c.code = cc) (hK : va_K D cl tys s) (hP : va_P D cl ws H) (q0 t0 : Nat) {cA : ClassId} {n : Nat} {f : Nat → UInt64} (ha : ws[q0]? = some (a, .inl (cA, n, .inr (.inr (.inr (.inl f)))))) (ht : tys[t0]? = some (cA, .double)) {i : Int32} {x : UInt64} (hout : ¬ vp_in i n) (hdg : decode cc pc = .ok (.dastore, 1))
    (k : ∀ tx : String, tx = (toString "Index " ++ toString i ++ toString " out of bounds for length " ++ toString n : String) → vx_Note p l e R s m args below meth c H locs cells slots Q (F0 m pc ls rest) "java/lang/ArrayIndexOutOfBoundsException" tx) : W p l e R s m args below meth c H locs cells slots Q (F0 m pc ls (.double x :: .int i :: .ref a :: rest)) := by
  intro T hT X
  obtain ⟨t, st, q⟩ := k _ rfl T hT X
  refine ⟨t, ?_, q⟩
  have h1 := X.dastoreOut hexec (by rw [hT]; exact hP q0 _ ha) ((hK.2 t0 _ ht).1 n (fun j => .double (f j))) (j := i) (by show (i < 0 ∨ (arrV _ _ _).slots.size ≤ _); rw [arrV_size]; exact Classical.byContradiction hout) (g := F0 m pc ls (.double x :: .int i :: .ref a :: rest)) rfl (rest := rest) rfl (by rw [hb]; exact hdg) t
  simp only [arrV_size] at h1
  exact h1 st
theorem vx_arraylengthN (hexec : p.tables.exec = Jvm.exec) (hb : c.code = cc) (hdg : decode cc pc = .ok (.arraylength, 1)) (k : vx_NoteN p l e R s m args below meth c H locs cells slots Q (F0 m pc ls rest)) : W p l e R s m args below meth c H locs cells slots Q (F0 m pc ls (.null :: rest)) := by
  intro T hT X
  obtain ⟨t, st, q⟩ := k T hT X
  exact ⟨t, X.arraylengthNull hexec (g := F0 m pc ls (.null :: rest)) rfl (rest := rest) rfl (by rw [hb]; exact hdg) t st, q⟩
theorem vx_ialoadN (hexec : p.tables.exec = Jvm.exec) (hb : c.code = cc) {i : Int32} (hdg : decode cc pc = .ok (.iaload, 1)) (k : vx_NoteN p l e R s m args below meth c H locs cells slots Q (F0 m pc ls rest)) : W p l e R s m args below meth c H locs cells slots Q (F0 m pc ls (.int i :: .null :: rest)) := by
  intro T hT X
  obtain ⟨t, st, q⟩ := k T hT X
  exact ⟨t, X.ialoadNull hexec (g := F0 m pc ls (.int i :: .null :: rest)) rfl (rest := rest) rfl (by rw [hb]; exact hdg) t st, q⟩
theorem vx_laloadN (hexec : p.tables.exec = Jvm.exec) (hb : c.code = cc) {i : Int32} (hdg : decode cc pc = .ok (.laload, 1)) (k : vx_NoteN p l e R s m args below meth c H locs cells slots Q (F0 m pc ls rest)) : W p l e R s m args below meth c H locs cells slots Q (F0 m pc ls (.int i :: .null :: rest)) := by
  intro T hT X
  obtain ⟨t, st, q⟩ := k T hT X
  exact ⟨t, X.laloadNull hexec (g := F0 m pc ls (.int i :: .null :: rest)) rfl (rest := rest) rfl (by rw [hb]; exact hdg) t st, q⟩
theorem vx_faloadN (hexec : p.tables.exec = Jvm.exec) (hb : c.code = cc) {i : Int32} (hdg : decode cc pc = .ok (.faload, 1)) (k : vx_NoteN p l e R s m args below meth c H locs cells slots Q (F0 m pc ls rest)) : W p l e R s m args below meth c H locs cells slots Q (F0 m pc ls (.int i :: .null :: rest)) := by
  intro T hT X
  obtain ⟨t, st, q⟩ := k T hT X
  exact ⟨t, X.faloadNull hexec (g := F0 m pc ls (.int i :: .null :: rest)) rfl (rest := rest) rfl (by rw [hb]; exact hdg) t st, q⟩
theorem vx_daloadN (hexec : p.tables.exec = Jvm.exec) (hb : c.code = cc) {i : Int32} (hdg : decode cc pc = .ok (.daload, 1)) (k : vx_NoteN p l e R s m args below meth c H locs cells slots Q (F0 m pc ls rest)) : W p l e R s m args below meth c H locs cells slots Q (F0 m pc ls (.int i :: .null :: rest)) := by
  intro T hT X
  obtain ⟨t, st, q⟩ := k T hT X
  exact ⟨t, X.daloadNull hexec (g := F0 m pc ls (.int i :: .null :: rest)) rfl (rest := rest) rfl (by rw [hb]; exact hdg) t st, q⟩
theorem vx_aaloadN (hexec : p.tables.exec = Jvm.exec) (hb : c.code = cc) {i : Int32} (hdg : decode cc pc = .ok (.aaload, 1)) (k : vx_NoteN p l e R s m args below meth c H locs cells slots Q (F0 m pc ls rest)) : W p l e R s m args below meth c H locs cells slots Q (F0 m pc ls (.int i :: .null :: rest)) := by
  intro T hT X
  obtain ⟨t, st, q⟩ := k T hT X
  exact ⟨t, X.aaloadNull hexec (g := F0 m pc ls (.int i :: .null :: rest)) rfl (rest := rest) rfl (by rw [hb]; exact hdg) t st, q⟩
theorem vx_baloadN (hexec : p.tables.exec = Jvm.exec) (hb : c.code = cc) {i : Int32} (hdg : decode cc pc = .ok (.baload, 1)) (k : vx_NoteN p l e R s m args below meth c H locs cells slots Q (F0 m pc ls rest)) : W p l e R s m args below meth c H locs cells slots Q (F0 m pc ls (.int i :: .null :: rest)) := by
  intro T hT X
  obtain ⟨t, st, q⟩ := k T hT X
  exact ⟨t, X.baloadNull hexec (g := F0 m pc ls (.int i :: .null :: rest)) rfl (rest := rest) rfl (by rw [hb]; exact hdg) t st, q⟩
theorem vx_caloadN (hexec : p.tables.exec = Jvm.exec) (hb : c.code = cc) {i : Int32} (hdg : decode cc pc = .ok (.caload, 1)) (k : vx_NoteN p l e R s m args below meth c H locs cells slots Q (F0 m pc ls rest)) : W p l e R s m args below meth c H locs cells slots Q (F0 m pc ls (.int i :: .null :: rest)) := by
  intro T hT X
  obtain ⟨t, st, q⟩ := k T hT X
  exact ⟨t, X.caloadNull hexec (g := F0 m pc ls (.int i :: .null :: rest)) rfl (rest := rest) rfl (by rw [hb]; exact hdg) t st, q⟩
theorem vx_saloadN (hexec : p.tables.exec = Jvm.exec) (hb : c.code = cc) {i : Int32} (hdg : decode cc pc = .ok (.saload, 1)) (k : vx_NoteN p l e R s m args below meth c H locs cells slots Q (F0 m pc ls rest)) : W p l e R s m args below meth c H locs cells slots Q (F0 m pc ls (.int i :: .null :: rest)) := by
  intro T hT X
  obtain ⟨t, st, q⟩ := k T hT X
  exact ⟨t, X.saloadNull hexec (g := F0 m pc ls (.int i :: .null :: rest)) rfl (rest := rest) rfl (by rw [hb]; exact hdg) t st, q⟩
theorem vx_iastoreN (hexec : p.tables.exec = Jvm.exec) (hb : c.code = cc) {x : Int32} {i : Int32} (hdg : decode cc pc = .ok (.iastore, 1)) (k : vx_NoteN p l e R s m args below meth c H locs cells slots Q (F0 m pc ls rest)) : W p l e R s m args below meth c H locs cells slots Q (F0 m pc ls (.int x :: .int i :: .null :: rest)) := by
  intro T hT X
  obtain ⟨t, st, q⟩ := k T hT X
  exact ⟨t, X.iastoreNull hexec (g := F0 m pc ls (.int x :: .int i :: .null :: rest)) rfl (rest := rest) rfl (by rw [hb]; exact hdg) t st, q⟩
theorem vx_lastoreN (hexec : p.tables.exec = Jvm.exec) (hb : c.code = cc) {x : Int64} {i : Int32} (hdg : decode cc pc = .ok (.lastore, 1)) (k : vx_NoteN p l e R s m args below meth c H locs cells slots Q (F0 m pc ls rest)) : W p l e R s m args below meth c H locs cells slots Q (F0 m pc ls (.long x :: .int i :: .null :: rest)) := by
  intro T hT X
  obtain ⟨t, st, q⟩ := k T hT X
  exact ⟨t, X.lastoreNull hexec (g := F0 m pc ls (.long x :: .int i :: .null :: rest)) rfl (rest := rest) rfl (by rw [hb]; exact hdg) t st, q⟩
theorem vx_fastoreN (hexec : p.tables.exec = Jvm.exec) (hb : c.code = cc) {x : UInt32} {i : Int32} (hdg : decode cc pc = .ok (.fastore, 1)) (k : vx_NoteN p l e R s m args below meth c H locs cells slots Q (F0 m pc ls rest)) : W p l e R s m args below meth c H locs cells slots Q (F0 m pc ls (.float x :: .int i :: .null :: rest)) := by
  intro T hT X
  obtain ⟨t, st, q⟩ := k T hT X
  exact ⟨t, X.fastoreNull hexec (g := F0 m pc ls (.float x :: .int i :: .null :: rest)) rfl (rest := rest) rfl (by rw [hb]; exact hdg) t st, q⟩
theorem vx_dastoreN (hexec : p.tables.exec = Jvm.exec) (hb : c.code = cc) {x : UInt64} {i : Int32} (hdg : decode cc pc = .ok (.dastore, 1)) (k : vx_NoteN p l e R s m args below meth c H locs cells slots Q (F0 m pc ls rest)) : W p l e R s m args below meth c H locs cells slots Q (F0 m pc ls (.double x :: .int i :: .null :: rest)) := by
  intro T hT X
  obtain ⟨t, st, q⟩ := k T hT X
  exact ⟨t, X.dastoreNull hexec (g := F0 m pc ls (.double x :: .int i :: .null :: rest)) rfl (rest := rest) rfl (by rw [hb]; exact hdg) t st, q⟩
theorem vx_bastoreN (hexec : p.tables.exec = Jvm.exec) (hb : c.code = cc) {x : Int32} {i : Int32} (hdg : decode cc pc = .ok (.bastore, 1)) (k : vx_NoteN p l e R s m args below meth c H locs cells slots Q (F0 m pc ls rest)) : W p l e R s m args below meth c H locs cells slots Q (F0 m pc ls (.int x :: .int i :: .null :: rest)) := by
  intro T hT X
  obtain ⟨t, st, q⟩ := k T hT X
  exact ⟨t, X.bastoreNull hexec (g := F0 m pc ls (.int x :: .int i :: .null :: rest)) rfl (rest := rest) rfl (by rw [hb]; exact hdg) t st, q⟩
theorem vx_castoreN (hexec : p.tables.exec = Jvm.exec) (hb : c.code = cc) {x : Int32} {i : Int32} (hdg : decode cc pc = .ok (.castore, 1)) (k : vx_NoteN p l e R s m args below meth c H locs cells slots Q (F0 m pc ls rest)) : W p l e R s m args below meth c H locs cells slots Q (F0 m pc ls (.int x :: .int i :: .null :: rest)) := by
  intro T hT X
  obtain ⟨t, st, q⟩ := k T hT X
  exact ⟨t, X.castoreNull hexec (g := F0 m pc ls (.int x :: .int i :: .null :: rest)) rfl (rest := rest) rfl (by rw [hb]; exact hdg) t st, q⟩
theorem vx_sastoreN (hexec : p.tables.exec = Jvm.exec) (hb : c.code = cc) {x : Int32} {i : Int32} (hdg : decode cc pc = .ok (.sastore, 1)) (k : vx_NoteN p l e R s m args below meth c H locs cells slots Q (F0 m pc ls rest)) : W p l e R s m args below meth c H locs cells slots Q (F0 m pc ls (.int x :: .int i :: .null :: rest)) := by
  intro T hT X
  obtain ⟨t, st, q⟩ := k T hT X
  exact ⟨t, X.sastoreNull hexec (g := F0 m pc ls (.int x :: .int i :: .null :: rest)) rfl (rest := rest) rfl (by rw [hb]; exact hdg) t st, q⟩
theorem vx_invokeN {own C : String} {index maxL : Nat} {y : MethodName} {bytes : ByteArray} {ret : Option FieldType} (hexec : p.tables.exec = Jvm.exec) (hb : c.code = cc) (hown : s.vm.findClass own = some m.cls) (hlink : (Cond.methodLink own index y).before args s = true) (hinst : (Cond.instanceMethod y).before args s = true) (hcode : (Cond.code y bytes maxL ret).before args s = true) (hsel : (Cond.selects C y y).before args s = true)
    (hx : y.cls ≠ "java/lang/invoke/MethodHandle" ∧ y.cls ≠ "java/lang/invoke/VarHandle") {As : List Value} (hlen : (parseMethodDescriptor y.desc).map (fun d => d.parameters.length) = some As.length) (hdg : decode cc pc = .ok (.invokevirtual index, 3))
    (k : vx_NoteN p l e R s m args below meth c H locs cells slots Q (F0 m pc ls rest)) {st0 : List Value} (hst : st0 = As.reverse ++ .null :: rest) : W p l e R s m args below meth c H locs cells slots Q (F0 m pc ls st0) := by
  intro T hT X
  obtain ⟨r0, r, hn, hrm, hstR, hsigR⟩ := va_Decl.of hinst hcode
  obtain ⟨c2, r2, m2, q1, q2, q3, q4, kP, hkP, hkPi⟩ := Cond.selects_spec hsel
  cases hn.symm.trans q3
  have hl9 : As.length = r.sig.parameters.length := by
    rw [hsigR] at hlen
    exact (Option.some.inj hlen).symm
  obtain ⟨vm', X1, st1⟩ := X.invokevirtualNull hexec hown hlink hn hrm hstR hkP hkPi hx (g := F0 m pc ls st0) rfl (argsL := As) (rest := rest) hl9 hst (by rw [hb]; exact hdg)
  obtain ⟨t, st, q⟩ := k (T.setVm vm') hT X1
  exact ⟨t, st1 t st, q⟩
theorem vx_newarrayZ {atype : ArrayType} (hexec : p.tables.exec = Jvm.exec) (hb : c.code = cc) {n : Int32} (h0 : n < 0) (hdg : decode cc pc = .ok (.newarray atype, 2)) (k : ∀ tx : String, tx = toString n → vx_Note p l e R s m args below meth c H locs cells slots Q (F0 m pc ls rest) "java/lang/NegativeArraySizeException" tx) : W p l e R s m args below meth c H locs cells slots Q (F0 m pc ls (.int n :: rest)) := by
  intro T hT X
  obtain ⟨t, st, q⟩ := k _ rfl T hT X
  exact ⟨t, X.newarrayNegative hexec (g := F0 m pc ls (.int n :: rest)) rfl h0 (rest := rest) rfl (by rw [hb]; exact hdg) t st, q⟩
end
end VXM
/-! ===== END ===== -/
end
section
/-! ===== BEGIN printed: names, fields, word lists, decode rows ===== -/
def RX0 : String := "Tenonyard$Cutting"
def TX0 : u_T := fun k => match k with
  | 0 => ("Tenonyard$Cutting", "count", "I", false)
  | 1 => ("Tenonyard$Cutting", "isFound", "Z", false)
  | 2 => ("Tenonyard$Cutting", "canCut", "Z", false)
  | 3 => ("Tenonyard$Cutting", "usedLength", "I", false)
  | 4 => ("Tenonyard$Cutting", "chosen", "[I", true)
  | 5 => ("Tenonyard$Cutting", "lengths", "[I", true)
  | 6 => ("Tenonyard$Cutting", "breadths", "[I", true)
  | 7 => ("Tenonyard$Cutting", "grades", "[I", true)
  | 8 => ("Tenonyard$Cutting", "spans", "[I", true)
  | 9 => ("Tenonyard$Cutting", "weights", "[I", true)
  | _ => ("Tenonyard$Cutting", "costs", "[J", true)
def tyX0 : Nat → FieldType := fun k => match k with
  | 0 => .int
  | 1 => .boolean
  | 2 => .boolean
  | 3 => .int
  | 4 => .array .int
  | 5 => .array .int
  | 6 => .array .int
  | 7 => .array .int
  | 8 => .array .int
  | 9 => .array .int
  | _ => .array .long
abbrev wsX00 : List Cond := u_ws RX0 TX0 11
theorem nmX0 : ∀ a, a < 11 → ∀ b, b < 11 → a ≠ b → (TX0 a).2.1 ≠ (TX0 b).2.1 := by decide +kernel
theorem tyX0_ok : ∀ k, k < 11 → parseFieldDescriptor (TX0 k).2.2.1 = some (tyX0 k) := by decide +kernel
abbrev cX0_init : ByteArray := prog_2_method_1_code
def yX0_init : MethodName := ⟨RX0, "<init>", "()V"⟩
abbrev cX0_add : ByteArray := prog_2_method_2_code
def yX0_add : MethodName := ⟨RX0, "add", "(III)I"⟩
abbrev cX0_pieceLength : ByteArray := prog_2_method_3_code
def yX0_pieceLength : MethodName := ⟨RX0, "pieceLength", "(ILTenonyard$Frame;LTenonyard$Joinery;)I"⟩
abbrev cX0_find : ByteArray := prog_2_method_4_code
def yX0_find : MethodName := ⟨RX0, "find", "(LTenonyard$Frame;LTenonyard$Joinery;)V"⟩
abbrev cX0_measure : ByteArray := prog_2_method_5_code
def yX0_measure : MethodName := ⟨RX0, "measure", "(LTenonyard$Frame;LTenonyard$Joinery;)V"⟩
abbrev cX0_fitting : ByteArray := prog_2_method_6_code
def yX0_fitting : MethodName := ⟨RX0, "fitting", "(ILTenonyard$Frame;)I"⟩
abbrev cX0_offer : ByteArray := prog_2_method_7_code
def yX0_offer : MethodName := ⟨RX0, "offer", "(III)V"⟩
abbrev cX0_choose : ByteArray := prog_2_method_8_code
def yX0_choose : MethodName := ⟨RX0, "choose", "(J)V"⟩
abbrev cX0_leftOf : ByteArray := prog_2_method_9_code
def yX0_leftOf : MethodName := ⟨RX0, "leftOf", "(II)I"⟩
def RX1 : String := "Tenonyard$Forces"
def TX1 : u_T := fun k => match k with
  | 0 => ("Tenonyard$Forces", "isFound", "Z", false)
  | 1 => ("Tenonyard$Forces", "outcome", "C", false)
  | 2 => ("Tenonyard$Forces", "divisor", "J", false)
  | 3 => ("Tenonyard$Forces", "wholes", "[J", true)
  | 4 => ("Tenonyard$Forces", "rests", "[J", true)
  | 5 => ("Tenonyard$Forces", "amounts", "[J", true)
  | 6 => ("Tenonyard$Forces", "ways", "[I", true)
  | 7 => ("Tenonyard$Forces", "highAsked", "[I", true)
  | 8 => ("Tenonyard$Forces", "lowAsked", "[I", true)
  | 9 => ("Tenonyard$Forces", "plain", "[J", true)
  | 10 => ("Tenonyard$Forces", "high", "[J", true)
  | 11 => ("Tenonyard$Forces", "low", "[J", true)
  | 12 => ("Tenonyard$Forces", "factor", "LTenonyard$Wide;", true)
  | 13 => ("Tenonyard$Forces", "wideDivisor", "LTenonyard$Wide;", true)
  | 14 => ("Tenonyard$Forces", "product", "LTenonyard$Wide;", true)
  | 15 => ("Tenonyard$Forces", "square", "LTenonyard$Wide;", true)
  | _ => ("Tenonyard$Forces", "greatestSquare", "LTenonyard$Wide;", true)
def tyX1 : Nat → FieldType := fun k => match k with
  | 0 => .boolean
  | 1 => .char
  | 2 => .long
  | 3 => .array .long
  | 4 => .array .long
  | 5 => .array .long
  | 6 => .array .int
  | 7 => .array .int
  | 8 => .array .int
  | 9 => .array .long
  | 10 => .array .long
  | 11 => .array .long
  | 12 => .object "Tenonyard$Wide"
  | 13 => .object "Tenonyard$Wide"
  | 14 => .object "Tenonyard$Wide"
  | 15 => .object "Tenonyard$Wide"
  | _ => .object "Tenonyard$Wide"
abbrev wsX10 : List Cond := u_ws RX1 TX1 17
theorem nmX1 : ∀ a, a < 17 → ∀ b, b < 17 → a ≠ b → (TX1 a).2.1 ≠ (TX1 b).2.1 := by decide +kernel
theorem tyX1_ok : ∀ k, k < 17 → parseFieldDescriptor (TX1 k).2.2.1 = some (tyX1 k) := by decide +kernel
abbrev cX1_init : ByteArray := prog_3_method_1_code
def yX1_init : MethodName := ⟨RX1, "<init>", "()V"⟩
abbrev cX1_bearingIndex : ByteArray := prog_3_method_2_code
def yX1_bearingIndex : MethodName := ⟨RX1, "bearingIndex", "(II)I"⟩
abbrev cX1_find : ByteArray := prog_3_method_3_code
def yX1_find : MethodName := ⟨RX1, "find", "(LTenonyard$Frame;)V"⟩
abbrev cX1_findPulls : ByteArray := prog_3_method_4_code
def yX1_findPulls : MethodName := ⟨RX1, "findPulls", "(LTenonyard$Frame;)C"⟩
abbrev cX1_fillRows : ByteArray := prog_3_method_5_code
def yX1_fillRows : MethodName := ⟨RX1, "fillRows", "(LTenonyard$Frame;)V"⟩
abbrev cX1_findDeterminants : ByteArray := prog_3_method_6_code
def yX1_findDeterminants : MethodName := ⟨RX1, "findDeterminants", "(I)V"⟩
abbrev cX1_expanded : ByteArray := prog_3_method_7_code
def yX1_expanded : MethodName := ⟨RX1, "expanded", "([JII)J"⟩
abbrev cX1_setPull : ByteArray := prog_3_method_8_code
def yX1_setPull : MethodName := ⟨RX1, "setPull", "(III)V"⟩
abbrev cX1_carry : ByteArray := prog_3_method_9_code
def yX1_carry : MethodName := ⟨RX1, "carry", "(I)V"⟩
abbrev cX1_findBearings : ByteArray := prog_3_method_10_code
def yX1_findBearings : MethodName := ⟨RX1, "findBearings", "(LTenonyard$Frame;)V"⟩
abbrev cX1_findAmounts : ByteArray := prog_3_method_11_code
def yX1_findAmounts : MethodName := ⟨RX1, "findAmounts", "(LTenonyard$Frame;)V"⟩
abbrev cX1_timesLength : ByteArray := prog_3_method_12_code
def yX1_timesLength : MethodName := ⟨RX1, "timesLength", "(JJI)J"⟩
abbrev cX1_thousandths : ByteArray := prog_3_method_13_code
def yX1_thousandths : MethodName := ⟨RX1, "thousandths", "(I)J"⟩
abbrev cX1_restInThousandths : ByteArray := prog_3_method_14_code
def yX1_restInThousandths : MethodName := ⟨RX1, "restInThousandths", "(I)J"⟩
abbrev cX1_sumOfThousandths : ByteArray := prog_3_method_15_code
def yX1_sumOfThousandths : MethodName := ⟨RX1, "sumOfThousandths", "(I)D"⟩
abbrev cX1_holdsAt : ByteArray := prog_3_method_16_code
def yX1_holdsAt : MethodName := ⟨RX1, "holdsAt", "(LTenonyard$Frame;I)Z"⟩
abbrev cX1_holdsAlong : ByteArray := prog_3_method_17_code
def yX1_holdsAlong : MethodName := ⟨RX1, "holdsAlong", "(LTenonyard$Frame;II)Z"⟩
def RX2 : String := "Tenonyard$Frame"
def TX2 : u_T := fun k => match k with
  | 0 => ("Tenonyard$Frame", "nodes", "I", false)
  | 1 => ("Tenonyard$Frame", "members", "I", false)
  | 2 => ("Tenonyard$Frame", "places", "[I", true)
  | 3 => ("Tenonyard$Frame", "loads", "[I", true)
  | 4 => ("Tenonyard$Frame", "loadCounts", "[I", true)
  | 5 => ("Tenonyard$Frame", "kinds", "[C", true)
  | 6 => ("Tenonyard$Frame", "firstNodes", "[I", true)
  | 7 => ("Tenonyard$Frame", "secondNodes", "[I", true)
  | 8 => ("Tenonyard$Frame", "breadths", "[I", true)
  | 9 => ("Tenonyard$Frame", "grades", "[I", true)
  | 10 => ("Tenonyard$Frame", "cutMoistures", "[I", true)
  | _ => ("Tenonyard$Frame", "driedMoistures", "[I", true)
def tyX2 : Nat → FieldType := fun k => match k with
  | 0 => .int
  | 1 => .int
  | 2 => .array .int
  | 3 => .array .int
  | 4 => .array .int
  | 5 => .array .char
  | 6 => .array .int
  | 7 => .array .int
  | 8 => .array .int
  | 9 => .array .int
  | 10 => .array .int
  | _ => .array .int
abbrev wsX20 : List Cond := u_ws RX2 TX2 12
theorem nmX2 : ∀ a, a < 12 → ∀ b, b < 12 → a ≠ b → (TX2 a).2.1 ≠ (TX2 b).2.1 := by decide +kernel
theorem tyX2_ok : ∀ k, k < 12 → parseFieldDescriptor (TX2 k).2.2.1 = some (tyX2 k) := by decide +kernel
abbrev cX2_init : ByteArray := prog_4_method_1_code
def yX2_init : MethodName := ⟨RX2, "<init>", "()V"⟩
abbrev cX2_addNode : ByteArray := prog_4_method_2_code
def yX2_addNode : MethodName := ⟨RX2, "addNode", "(IIC)I"⟩
abbrev cX2_addMember : ByteArray := prog_4_method_3_code
def yX2_addMember : MethodName := ⟨RX2, "addMember", "(IIII)I"⟩
abbrev cX2_addLoad : ByteArray := prog_4_method_4_code
def yX2_addLoad : MethodName := ⟨RX2, "addLoad", "(III)I"⟩
abbrev cX2_isOnePlace : ByteArray := prog_4_method_5_code
def yX2_isOnePlace : MethodName := ⟨RX2, "isOnePlace", "(II)Z"⟩
abbrev cX2_isBorne : ByteArray := prog_4_method_6_code
def yX2_isBorne : MethodName := ⟨RX2, "isBorne", "(II)Z"⟩
abbrev cX2_otherEnd : ByteArray := prog_4_method_7_code
def yX2_otherEnd : MethodName := ⟨RX2, "otherEnd", "(II)I"⟩
abbrev cX2_haveCommonNode : ByteArray := prog_4_method_8_code
def yX2_haveCommonNode : MethodName := ⟨RX2, "haveCommonNode", "(II)Z"⟩
abbrev cX2_wayAlong : ByteArray := prog_4_method_9_code
def yX2_wayAlong : MethodName := ⟨RX2, "wayAlong", "(III)I"⟩
abbrev cX2_lengthSquare : ByteArray := prog_4_method_10_code
def yX2_lengthSquare : MethodName := ⟨RX2, "lengthSquare", "(I)I"⟩
abbrev cX2_isOnGround : ByteArray := prog_4_method_11_code
def yX2_isOnGround : MethodName := ⟨RX2, "isOnGround", "(I)Z"⟩
def RX3 : String := "Tenonyard$Joinery"
def TX3 : u_T := fun k => match k with
  | 0 => ("Tenonyard$Joinery", "count", "I", false)
  | 1 => ("Tenonyard$Joinery", "goingIn", "[I", true)
  | 2 => ("Tenonyard$Joinery", "receiving", "[I", true)
  | 3 => ("Tenonyard$Joinery", "ways", "[I", true)
  | 4 => ("Tenonyard$Joinery", "thicknesses", "[I", true)
  | _ => ("Tenonyard$Joinery", "marks", "[I", true)
def tyX3 : Nat → FieldType := fun k => match k with
  | 0 => .int
  | 1 => .array .int
  | 2 => .array .int
  | 3 => .array .int
  | 4 => .array .int
  | _ => .array .int
abbrev wsX30 : List Cond := u_ws RX3 TX3 6
theorem nmX3 : ∀ a, a < 6 → ∀ b, b < 6 → a ≠ b → (TX3 a).2.1 ≠ (TX3 b).2.1 := by decide +kernel
theorem tyX3_ok : ∀ k, k < 6 → parseFieldDescriptor (TX3 k).2.2.1 = some (tyX3 k) := by decide +kernel
abbrev cX3_init : ByteArray := prog_5_method_1_code
def yX3_init : MethodName := ⟨RX3, "<init>", "()V"⟩
abbrev cX3_wayIndex : ByteArray := prog_5_method_2_code
def yX3_wayIndex : MethodName := ⟨RX3, "wayIndex", "(C)I"⟩
abbrev cX3_add : ByteArray := prog_5_method_3_code
def yX3_add : MethodName := ⟨RX3, "add", "(IIIII)I"⟩
abbrev cX3_areJoined : ByteArray := prog_5_method_4_code
def yX3_areJoined : MethodName := ⟨RX3, "areJoined", "(II)Z"⟩
abbrev cX3_partner : ByteArray := prog_5_method_5_code
def yX3_partner : MethodName := ⟨RX3, "partner", "(II)I"⟩
abbrev cX3_wayFor : ByteArray := prog_5_method_6_code
def yX3_wayFor : MethodName := ⟨RX3, "wayFor", "(II)I"⟩
abbrev cX3_joinsGoingIn : ByteArray := prog_5_method_7_code
def yX3_joinsGoingIn : MethodName := ⟨RX3, "joinsGoingIn", "(I)I"⟩
abbrev cX3_isThinEnough : ByteArray := prog_5_method_8_code
def yX3_isThinEnough : MethodName := ⟨RX3, "isThinEnough", "(ILTenonyard$Frame;)Z"⟩
abbrev cX3_misreadMark : ByteArray := prog_5_method_9_code
def yX3_misreadMark : MethodName := ⟨RX3, "misreadMark", "(I)I"⟩
abbrev cX3_canBeConfused : ByteArray := prog_5_method_10_code
def yX3_canBeConfused : MethodName := ⟨RX3, "canBeConfused", "(II)Z"⟩
abbrev cX3_opening : ByteArray := prog_5_method_11_code
def yX3_opening : MethodName := ⟨RX3, "opening", "(ILTenonyard$Frame;)I"⟩
def RX4 : String := "Tenonyard$Raising"
def TX4 : u_T := fun k => match k with
  | 0 => ("Tenonyard$Raising", "limit", "I", false)
  | 1 => ("Tenonyard$Raising", "isFound", "Z", false)
  | 2 => ("Tenonyard$Raising", "all", "I", false)
  | 3 => ("Tenonyard$Raising", "hanging", "I", false)
  | 4 => ("Tenonyard$Raising", "asking", "[I", true)
  | 5 => ("Tenonyard$Raising", "joined", "[I", true)
  | 6 => ("Tenonyard$Raising", "orderCounts", "[I", true)
  | 7 => ("Tenonyard$Raising", "leadsToAll", "[Z", true)
  | _ => ("Tenonyard$Raising", "order", "[I", true)
def tyX4 : Nat → FieldType := fun k => match k with
  | 0 => .int
  | 1 => .boolean
  | 2 => .int
  | 3 => .int
  | 4 => .array .int
  | 5 => .array .int
  | 6 => .array .int
  | 7 => .array .boolean
  | _ => .array .int
abbrev wsX40 : List Cond := u_ws RX4 TX4 9
theorem nmX4 : ∀ a, a < 9 → ∀ b, b < 9 → a ≠ b → (TX4 a).2.1 ≠ (TX4 b).2.1 := by decide +kernel
theorem tyX4_ok : ∀ k, k < 9 → parseFieldDescriptor (TX4 k).2.2.1 = some (tyX4 k) := by decide +kernel
abbrev cX4_init : ByteArray := prog_6_method_1_code
def yX4_init : MethodName := ⟨RX4, "<init>", "()V"⟩
abbrev cX4_orderCount : ByteArray := prog_6_method_2_code
def yX4_orderCount : MethodName := ⟨RX4, "orderCount", "()I"⟩
abbrev cX4_find : ByteArray := prog_6_method_3_code
def yX4_find : MethodName := ⟨RX4, "find", "(LTenonyard$Frame;LTenonyard$Joinery;)V"⟩
abbrev cX4_gather : ByteArray := prog_6_method_4_code
def yX4_gather : MethodName := ⟨RX4, "gather", "(LTenonyard$Frame;LTenonyard$Joinery;)V"⟩
abbrev cX4_canMoveIn : ByteArray := prog_6_method_5_code
def yX4_canMoveIn : MethodName := ⟨RX4, "canMoveIn", "(II)Z"⟩
abbrev cX4_propsFor : ByteArray := prog_6_method_6_code
def yX4_propsFor : MethodName := ⟨RX4, "propsFor", "(I)I"⟩
abbrev cX4_goForward : ByteArray := prog_6_method_7_code
def yX4_goForward : MethodName := ⟨RX4, "goForward", "(I)V"⟩
abbrev cX4_goBackward : ByteArray := prog_6_method_8_code
def yX4_goBackward : MethodName := ⟨RX4, "goBackward", "(I)V"⟩
abbrev cX4_findOrder : ByteArray := prog_6_method_9_code
def yX4_findOrder : MethodName := ⟨RX4, "findOrder", "(I)V"⟩
abbrev cX4_firstThatLeads : ByteArray := prog_6_method_10_code
def yX4_firstThatLeads : MethodName := ⟨RX4, "firstThatLeads", "(II)I"⟩
abbrev cX4_lowestStuck : ByteArray := prog_6_method_11_code
def yX4_lowestStuck : MethodName := ⟨RX4, "lowestStuck", "()I"⟩
def RX5 : String := "Tenonyard$Wide"
def TX5 : u_T := fun k => match k with
  | _ => ("Tenonyard$Wide", "parts", "[J", true)
def tyX5 : Nat → FieldType := fun k => match k with
  | _ => .array .long
abbrev wsX50 : List Cond := u_ws RX5 TX5 1
theorem nmX5 : ∀ a, a < 1 → ∀ b, b < 1 → a ≠ b → (TX5 a).2.1 ≠ (TX5 b).2.1 := by decide +kernel
theorem tyX5_ok : ∀ k, k < 1 → parseFieldDescriptor (TX5 k).2.2.1 = some (tyX5 k) := by decide +kernel
abbrev cX5_init : ByteArray := prog_7_method_1_code
def yX5_init : MethodName := ⟨RX5, "<init>", "()V"⟩
abbrev cX5_set : ByteArray := prog_7_method_2_code
def yX5_set : MethodName := ⟨RX5, "set", "(J)V"⟩
abbrev cX5_add : ByteArray := prog_7_method_3_code
def yX5_add : MethodName := ⟨RX5, "add", "(J)V"⟩
abbrev cX5_setProduct : ByteArray := prog_7_method_4_code
def yX5_setProduct : MethodName := ⟨RX5, "setProduct", "(LTenonyard$Wide;LTenonyard$Wide;)V"⟩
abbrev cX5_isAtMost : ByteArray := prog_7_method_5_code
def yX5_isAtMost : MethodName := ⟨RX5, "isAtMost", "(LTenonyard$Wide;)Z"⟩
def RX6 : String := "Tenonyard"
def TX6 : u_T := fun k => match k with
  | 0 => ("Tenonyard", "frame", "LTenonyard$Frame;", true)
  | 1 => ("Tenonyard", "forces", "LTenonyard$Forces;", true)
  | 2 => ("Tenonyard", "joinery", "LTenonyard$Joinery;", true)
  | 3 => ("Tenonyard", "cutting", "LTenonyard$Cutting;", true)
  | _ => ("Tenonyard", "raising", "LTenonyard$Raising;", true)
def tyX6 : Nat → FieldType := fun k => match k with
  | 0 => .object "Tenonyard$Frame"
  | 1 => .object "Tenonyard$Forces"
  | 2 => .object "Tenonyard$Joinery"
  | 3 => .object "Tenonyard$Cutting"
  | _ => .object "Tenonyard$Raising"
abbrev wsX60 : List Cond := u_ws RX6 TX6 5
theorem nmX6 : ∀ a, a < 5 → ∀ b, b < 5 → a ≠ b → (TX6 a).2.1 ≠ (TX6 b).2.1 := by decide +kernel
theorem tyX6_ok : ∀ k, k < 5 → parseFieldDescriptor (TX6 k).2.2.1 = some (tyX6 k) := by decide +kernel
abbrev cX6_init : ByteArray := prog_1_method_1_code
def yX6_init : MethodName := ⟨RX6, "<init>", "()V"⟩
abbrev cX6_node : ByteArray := prog_1_method_2_code
def yX6_node : MethodName := ⟨RX6, "node", "(IIC)I"⟩
abbrev cX6_member : ByteArray := prog_1_method_3_code
def yX6_member : MethodName := ⟨RX6, "member", "(IIII)I"⟩
abbrev cX6_load : ByteArray := prog_1_method_4_code
def yX6_load : MethodName := ⟨RX6, "load", "(III)I"⟩
abbrev cX6_state : ByteArray := prog_1_method_5_code
def yX6_state : MethodName := ⟨RX6, "state", "()C"⟩
abbrev cX6_force : ByteArray := prog_1_method_6_code
def yX6_force : MethodName := ⟨RX6, "force", "(I)J"⟩
abbrev cX6_pull : ByteArray := prog_1_method_7_code
def yX6_pull : MethodName := ⟨RX6, "pull", "(I)J"⟩
abbrev cX6_bearing : ByteArray := prog_1_method_8_code
def yX6_bearing : MethodName := ⟨RX6, "bearing", "(IZ)J"⟩
abbrev cX6_isBalanced : ByteArray := prog_1_method_9_code
def yX6_isBalanced : MethodName := ⟨RX6, "isBalanced", "(I)Z"⟩
abbrev cX6_weakest : ByteArray := prog_1_method_10_code
def yX6_weakest : MethodName := ⟨RX6, "weakest", "()I"⟩
abbrev cX6_joint : ByteArray := prog_1_method_11_code
def yX6_joint : MethodName := ⟨RX6, "joint", "(IICII)I"⟩
abbrev cX6_isRight : ByteArray := prog_1_method_12_code
def yX6_isRight : MethodName := ⟨RX6, "isRight", "(I)Z"⟩
abbrev cX6_misread : ByteArray := prog_1_method_13_code
def yX6_misread : MethodName := ⟨RX6, "misread", "(I)I"⟩
abbrev cX6_clashes : ByteArray := prog_1_method_14_code
def yX6_clashes : MethodName := ⟨RX6, "clashes", "()I"⟩
abbrev cX6_cutAt : ByteArray := prog_1_method_15_code
def yX6_cutAt : MethodName := ⟨RX6, "cutAt", "(II)I"⟩
abbrev cX6_dry : ByteArray := prog_1_method_16_code
def yX6_dry : MethodName := ⟨RX6, "dry", "(II)I"⟩
abbrev cX6_gap : ByteArray := prog_1_method_17_code
def yX6_gap : MethodName := ⟨RX6, "gap", "(I)I"⟩
abbrev cX6_widest : ByteArray := prog_1_method_18_code
def yX6_widest : MethodName := ⟨RX6, "widest", "()I"⟩
abbrev cX6_stick : ByteArray := prog_1_method_19_code
def yX6_stick : MethodName := ⟨RX6, "stick", "(III)I"⟩
abbrev cX6_piece : ByteArray := prog_1_method_20_code
def yX6_piece : MethodName := ⟨RX6, "piece", "(I)I"⟩
abbrev cX6_stickOf : ByteArray := prog_1_method_21_code
def yX6_stickOf : MethodName := ⟨RX6, "stickOf", "(I)I"⟩
abbrev cX6_wood : ByteArray := prog_1_method_22_code
def yX6_wood : MethodName := ⟨RX6, "wood", "()I"⟩
abbrev cX6_waste : ByteArray := prog_1_method_23_code
def yX6_waste : MethodName := ⟨RX6, "waste", "(I)I"⟩
abbrev cX6_setProps : ByteArray := prog_1_method_24_code
def yX6_setProps : MethodName := ⟨RX6, "setProps", "(I)I"⟩
abbrev cX6_raised : ByteArray := prog_1_method_25_code
def yX6_raised : MethodName := ⟨RX6, "raised", "(I)I"⟩
abbrev cX6_canRaise : ByteArray := prog_1_method_26_code
def yX6_canRaise : MethodName := ⟨RX6, "canRaise", "()Z"⟩
abbrev cX6_canTakeAway : ByteArray := prog_1_method_27_code
def yX6_canTakeAway : MethodName := ⟨RX6, "canTakeAway", "()Z"⟩
abbrev cX6_orders : ByteArray := prog_1_method_28_code
def yX6_orders : MethodName := ⟨RX6, "orders", "()I"⟩
abbrev cX6_props : ByteArray := prog_1_method_29_code
def yX6_props : MethodName := ⟨RX6, "props", "(I)I"⟩
abbrev cX6_stuck : ByteArray := prog_1_method_30_code
def yX6_stuck : MethodName := ⟨RX6, "stuck", "()I"⟩
abbrev cX6_allForce : ByteArray := prog_1_method_31_code
def yX6_allForce : MethodName := ⟨RX6, "allForce", "()J"⟩
abbrev cX6_rightShare : ByteArray := prog_1_method_32_code
def yX6_rightShare : MethodName := ⟨RX6, "rightShare", "()F"⟩
abbrev cX6_meanPull : ByteArray := prog_1_method_33_code
def yX6_meanPull : MethodName := ⟨RX6, "meanPull", "()D"⟩
abbrev cX6_isSound : ByteArray := prog_1_method_34_code
def yX6_isSound : MethodName := ⟨RX6, "isSound", "()Z"⟩
abbrev cX6_isWithin : ByteArray := prog_1_method_35_code
def yX6_isWithin : MethodName := ⟨RX6, "isWithin", "(III)Z"⟩
abbrev cX6_isSection : ByteArray := prog_1_method_36_code
def yX6_isSection : MethodName := ⟨RX6, "isSection", "(II)Z"⟩
abbrev cX6_checkNode : ByteArray := prog_1_method_37_code
def yX6_checkNode : MethodName := ⟨RX6, "checkNode", "(I)V"⟩
abbrev cX6_checkMember : ByteArray := prog_1_method_38_code
def yX6_checkMember : MethodName := ⟨RX6, "checkMember", "(I)V"⟩
abbrev cX6_checkJoint : ByteArray := prog_1_method_39_code
def yX6_checkJoint : MethodName := ⟨RX6, "checkJoint", "(I)V"⟩
abbrev cX6_checkMoisture : ByteArray := prog_1_method_40_code
def yX6_checkMoisture : MethodName := ⟨RX6, "checkMoisture", "(I)V"⟩
abbrev cX6_checkStanding : ByteArray := prog_1_method_41_code
def yX6_checkStanding : MethodName := ⟨RX6, "checkStanding", "()V"⟩
abbrev cX6_checkCut : ByteArray := prog_1_method_42_code
def yX6_checkCut : MethodName := ⟨RX6, "checkCut", "()V"⟩
abbrev cX6_checkPlaceInOrder : ByteArray := prog_1_method_43_code
def yX6_checkPlaceInOrder : MethodName := ⟨RX6, "checkPlaceInOrder", "(I)V"⟩
def RX7 : String := "TenonyardModel$Joint"
def TX7 : u_T := fun k => match k with
  | 0 => ("TenonyardModel$Joint", "member", "I", true)
  | 1 => ("TenonyardModel$Joint", "into", "I", true)
  | 2 => ("TenonyardModel$Joint", "thickness", "I", true)
  | 3 => ("TenonyardModel$Joint", "mark", "I", true)
  | _ => ("TenonyardModel$Joint", "way", "C", true)
def tyX7 : Nat → FieldType := fun k => match k with
  | 0 => .int
  | 1 => .int
  | 2 => .int
  | 3 => .int
  | _ => .char
abbrev wsX70 : List Cond := u_ws RX7 TX7 5
theorem nmX7 : ∀ a, a < 5 → ∀ b, b < 5 → a ≠ b → (TX7 a).2.1 ≠ (TX7 b).2.1 := by decide +kernel
theorem tyX7_ok : ∀ k, k < 5 → parseFieldDescriptor (TX7 k).2.2.1 = some (tyX7 k) := by decide +kernel
abbrev cX7_init : ByteArray := prog_10_method_1_code
def yX7_init : MethodName := ⟨RX7, "<init>", "(IICII)V"⟩
abbrev cX7_other : ByteArray := prog_10_method_2_code
def yX7_other : MethodName := ⟨RX7, "other", "(I)I"⟩
abbrev cX7_wayFor : ByteArray := prog_10_method_3_code
def yX7_wayFor : MethodName := ⟨RX7, "wayFor", "(I)C"⟩
abbrev cX7_turned : ByteArray := prog_10_method_4_code
def yX7_turned : MethodName := ⟨RX7, "turned", "()I"⟩
def RX8 : String := "TenonyardModel$Member"
def TX8 : u_T := fun k => match k with
  | 0 => ("TenonyardModel$Member", "from", "I", true)
  | 1 => ("TenonyardModel$Member", "to", "I", true)
  | 2 => ("TenonyardModel$Member", "breadth", "I", true)
  | 3 => ("TenonyardModel$Member", "grade", "I", true)
  | 4 => ("TenonyardModel$Member", "cut", "I", false)
  | _ => ("TenonyardModel$Member", "dry", "I", false)
def tyX8 : Nat → FieldType := fun k => match k with
  | 0 => .int
  | 1 => .int
  | 2 => .int
  | 3 => .int
  | 4 => .int
  | _ => .int
abbrev wsX80 : List Cond := u_ws RX8 TX8 6
theorem nmX8 : ∀ a, a < 6 → ∀ b, b < 6 → a ≠ b → (TX8 a).2.1 ≠ (TX8 b).2.1 := by decide +kernel
theorem tyX8_ok : ∀ k, k < 6 → parseFieldDescriptor (TX8 k).2.2.1 = some (tyX8 k) := by decide +kernel
abbrev cX8_init : ByteArray := prog_11_method_1_code
def yX8_init : MethodName := ⟨RX8, "<init>", "(IIII)V"⟩
abbrev cX8_meets : ByteArray := prog_11_method_2_code
def yX8_meets : MethodName := ⟨RX8, "meets", "(LTenonyardModel$Member;)Z"⟩
def RX9 : String := "TenonyardModel$Node"
def TX9 : u_T := fun k => match k with
  | 0 => ("TenonyardModel$Node", "x", "I", true)
  | 1 => ("TenonyardModel$Node", "y", "I", true)
  | 2 => ("TenonyardModel$Node", "kind", "C", true)
  | 3 => ("TenonyardModel$Node", "right", "J", false)
  | 4 => ("TenonyardModel$Node", "up", "J", false)
  | _ => ("TenonyardModel$Node", "loads", "I", false)
def tyX9 : Nat → FieldType := fun k => match k with
  | 0 => .int
  | 1 => .int
  | 2 => .char
  | 3 => .long
  | 4 => .long
  | _ => .int
abbrev wsX90 : List Cond := u_ws RX9 TX9 6
theorem nmX9 : ∀ a, a < 6 → ∀ b, b < 6 → a ≠ b → (TX9 a).2.1 ≠ (TX9 b).2.1 := by decide +kernel
theorem tyX9_ok : ∀ k, k < 6 → parseFieldDescriptor (TX9 k).2.2.1 = some (tyX9 k) := by decide +kernel
abbrev cX9_init : ByteArray := prog_12_method_1_code
def yX9_init : MethodName := ⟨RX9, "<init>", "(IIC)V"⟩
def RX10 : String := "TenonyardModel$Stick"
def TX10 : u_T := fun k => match k with
  | 0 => ("TenonyardModel$Stick", "length", "I", true)
  | 1 => ("TenonyardModel$Stick", "breadth", "I", true)
  | _ => ("TenonyardModel$Stick", "grade", "I", true)
def tyX10 : Nat → FieldType := fun k => match k with
  | 0 => .int
  | 1 => .int
  | _ => .int
abbrev wsX100 : List Cond := u_ws RX10 TX10 3
theorem nmX10 : ∀ a, a < 3 → ∀ b, b < 3 → a ≠ b → (TX10 a).2.1 ≠ (TX10 b).2.1 := by decide +kernel
theorem tyX10_ok : ∀ k, k < 3 → parseFieldDescriptor (TX10 k).2.2.1 = some (tyX10 k) := by decide +kernel
abbrev cX10_init : ByteArray := prog_13_method_1_code
def yX10_init : MethodName := ⟨RX10, "<init>", "(III)V"⟩
def RX11 : String := "TenonyardModel$Wide"
def TX11 : u_T := fun k => match k with
  | _ => ("TenonyardModel$Wide", "limbs", "[I", true)
def tyX11 : Nat → FieldType := fun k => match k with
  | _ => .array .int
abbrev wsX110 : List Cond := u_ws RX11 TX11 1
theorem nmX11 : ∀ a, a < 1 → ∀ b, b < 1 → a ≠ b → (TX11 a).2.1 ≠ (TX11 b).2.1 := by decide +kernel
theorem tyX11_ok : ∀ k, k < 1 → parseFieldDescriptor (TX11 k).2.2.1 = some (tyX11 k) := by decide +kernel
abbrev cX11_init : ByteArray := prog_14_method_1_code
def yX11_init : MethodName := ⟨RX11, "<init>", "(J)V"⟩
abbrev cX11_times : ByteArray := prog_14_method_2_code
def yX11_times : MethodName := ⟨RX11, "times", "(LTenonyardModel$Wide;)LTenonyardModel$Wide;"⟩
abbrev cX11_isMore : ByteArray := prog_14_method_3_code
def yX11_isMore : MethodName := ⟨RX11, "isMore", "(LTenonyardModel$Wide;)Z"⟩
def RX12 : String := "TenonyardModel"
def TX12 : u_T := fun k => match k with
  | 0 => ("TenonyardModel", "nodes", "Ljava/util/ArrayList;", true)
  | 1 => ("TenonyardModel", "members", "Ljava/util/ArrayList;", true)
  | 2 => ("TenonyardModel", "joints", "Ljava/util/ArrayList;", true)
  | 3 => ("TenonyardModel", "sticks", "Ljava/util/ArrayList;", true)
  | 4 => ("TenonyardModel", "minors", "[J", true)
  | 5 => ("TenonyardModel", "pulls", "[J", true)
  | 6 => ("TenonyardModel", "forces", "[J", true)
  | 7 => ("TenonyardModel", "isEnd", "[Z", true)
  | 8 => ("TenonyardModel", "canCut", "[Z", true)
  | 9 => ("TenonyardModel", "ways", "[I", true)
  | 10 => ("TenonyardModel", "order", "[I", true)
  | 11 => ("TenonyardModel", "best", "[I", true)
  | 12 => ("TenonyardModel", "tried", "[I", true)
  | 13 => ("TenonyardModel", "left", "[I", true)
  | 14 => ("TenonyardModel", "needs", "[I", true)
  | 15 => ("TenonyardModel", "lengths", "[I", true)
  | 16 => ("TenonyardModel", "breadths", "[I", true)
  | 17 => ("TenonyardModel", "grades", "[I", true)
  | 18 => ("TenonyardModel", "base", "J", false)
  | 19 => ("TenonyardModel", "thrown", "I", false)
  | 20 => ("TenonyardModel", "props", "I", false)
  | 21 => ("TenonyardModel", "wood", "I", false)
  | 22 => ("TenonyardModel", "isReckoned", "Z", false)
  | 23 => ("TenonyardModel", "isForced", "Z", false)
  | 24 => ("TenonyardModel", "isRaised", "Z", false)
  | 25 => ("TenonyardModel", "isCut", "Z", false)
  | _ => ("TenonyardModel", "state", "C", false)
def tyX12 : Nat → FieldType := fun k => match k with
  | 0 => .object "java/util/ArrayList"
  | 1 => .object "java/util/ArrayList"
  | 2 => .object "java/util/ArrayList"
  | 3 => .object "java/util/ArrayList"
  | 4 => .array .long
  | 5 => .array .long
  | 6 => .array .long
  | 7 => .array .boolean
  | 8 => .array .boolean
  | 9 => .array .int
  | 10 => .array .int
  | 11 => .array .int
  | 12 => .array .int
  | 13 => .array .int
  | 14 => .array .int
  | 15 => .array .int
  | 16 => .array .int
  | 17 => .array .int
  | 18 => .long
  | 19 => .int
  | 20 => .int
  | 21 => .int
  | 22 => .boolean
  | 23 => .boolean
  | 24 => .boolean
  | 25 => .boolean
  | _ => .char
abbrev wsX120 : List Cond := u_ws RX12 TX12 27
theorem nmX12 : ∀ a, a < 27 → ∀ b, b < 27 → a ≠ b → (TX12 a).2.1 ≠ (TX12 b).2.1 := by decide +kernel
theorem tyX12_ok : ∀ k, k < 27 → parseFieldDescriptor (TX12 k).2.2.1 = some (tyX12 k) := by decide +kernel
abbrev cX12_init : ByteArray := prog_9_method_1_code
def yX12_init : MethodName := ⟨RX12, "<init>", "()V"⟩
abbrev cX12_thrown : ByteArray := prog_9_method_2_code
def yX12_thrown : MethodName := ⟨RX12, "thrown", "()I"⟩
abbrev cX12_fails : ByteArray := prog_9_method_3_code
def yX12_fails : MethodName := ⟨RX12, "fails", "(I)I"⟩
abbrev cX12_tell : ByteArray := prog_9_method_4_code
def yX12_tell : MethodName := ⟨RX12, "tell", "(I)I"⟩
abbrev cX12_tellLong : ByteArray := prog_9_method_5_code
def yX12_tellLong : MethodName := ⟨RX12, "tellLong", "(J)J"⟩
abbrev cX12_failsLong : ByteArray := prog_9_method_6_code
def yX12_failsLong : MethodName := ⟨RX12, "failsLong", "(I)J"⟩
abbrev cX12_refuses : ByteArray := prog_9_method_7_code
def yX12_refuses : MethodName := ⟨RX12, "refuses", "(I)Z"⟩
abbrev cX12_tells : ByteArray := prog_9_method_8_code
def yX12_tells : MethodName := ⟨RX12, "tells", "(Z)Z"⟩
abbrev cX12_in : ByteArray := prog_9_method_9_code
def yX12_in : MethodName := ⟨RX12, "in", "(JII)Z"⟩
abbrev cX12_changes : ByteArray := prog_9_method_10_code
def yX12_changes : MethodName := ⟨RX12, "changes", "()V"⟩
abbrev cX12_wayX : ByteArray := prog_9_method_11_code
def yX12_wayX : MethodName := ⟨RX12, "wayX", "(LTenonyardModel$Member;I)I"⟩
abbrev cX12_wayY : ByteArray := prog_9_method_12_code
def yX12_wayY : MethodName := ⟨RX12, "wayY", "(LTenonyardModel$Member;I)I"⟩
abbrev cX12_isBorne : ByteArray := prog_9_method_13_code
def yX12_isBorne : MethodName := ⟨RX12, "isBorne", "(IZ)Z"⟩
abbrev cX12_draws : ByteArray := prog_9_method_14_code
def yX12_draws : MethodName := ⟨RX12, "draws", "(II)I"⟩
abbrev cX12_loadIn : ByteArray := prog_9_method_15_code
def yX12_loadIn : MethodName := ⟨RX12, "loadIn", "(I)J"⟩
abbrev cX12_determinant : ByteArray := prog_9_method_16_code
def yX12_determinant : MethodName := ⟨RX12, "determinant", "(I)J"⟩
abbrev cX12_expanded : ByteArray := prog_9_method_17_code
def yX12_expanded : MethodName := ⟨RX12, "expanded", "(III)J"⟩
abbrev cX12_unknowns : ByteArray := prog_9_method_18_code
def yX12_unknowns : MethodName := ⟨RX12, "unknowns", "()I"⟩
abbrev cX12_reckons : ByteArray := prog_9_method_19_code
def yX12_reckons : MethodName := ⟨RX12, "reckons", "()V"⟩
abbrev cX12_stands : ByteArray := prog_9_method_20_code
def yX12_stands : MethodName := ⟨RX12, "stands", "()Z"⟩
abbrev cX12_thousandths : ByteArray := prog_9_method_21_code
def yX12_thousandths : MethodName := ⟨RX12, "thousandths", "(J)J"⟩
abbrev cX12_bearingOf : ByteArray := prog_9_method_22_code
def yX12_bearingOf : MethodName := ⟨RX12, "bearingOf", "(IZ)J"⟩
abbrev cX12_divisor : ByteArray := prog_9_method_23_code
def yX12_divisor : MethodName := ⟨RX12, "divisor", "(JJ)J"⟩
abbrev cX12_isAtMost : ByteArray := prog_9_method_24_code
def yX12_isAtMost : MethodName := ⟨RX12, "isAtMost", "(JJJJ)Z"⟩
abbrev cX12_forceOf : ByteArray := prog_9_method_25_code
def yX12_forceOf : MethodName := ⟨RX12, "forceOf", "(I)J"⟩
abbrev cX12_reckonsForce : ByteArray := prog_9_method_26_code
def yX12_reckonsForce : MethodName := ⟨RX12, "reckonsForce", "(I)J"⟩
abbrev cX12_canGoIn : ByteArray := prog_9_method_27_code
def yX12_canGoIn : MethodName := ⟨RX12, "canGoIn", "(II)Z"⟩
abbrev cX12_propsFor : ByteArray := prog_9_method_28_code
def yX12_propsFor : MethodName := ⟨RX12, "propsFor", "(I)I"⟩
abbrev cX12_canFollow : ByteArray := prog_9_method_29_code
def yX12_canFollow : MethodName := ⟨RX12, "canFollow", "(II)Z"⟩
abbrev cX12_raises : ByteArray := prog_9_method_30_code
def yX12_raises : MethodName := ⟨RX12, "raises", "()V"⟩
abbrev cX12_isTakenAway : ByteArray := prog_9_method_31_code
def yX12_isTakenAway : MethodName := ⟨RX12, "isTakenAway", "(I)Z"⟩
abbrev cX12_pieceOf : ByteArray := prog_9_method_32_code
def yX12_pieceOf : MethodName := ⟨RX12, "pieceOf", "(I)I"⟩
abbrev cX12_cuts : ByteArray := prog_9_method_33_code
def yX12_cuts : MethodName := ⟨RX12, "cuts", "(II)Z"⟩
abbrev cX12_sums : ByteArray := prog_9_method_34_code
def yX12_sums : MethodName := ⟨RX12, "sums", "()V"⟩
abbrev cX12_areEnough : ByteArray := prog_9_method_35_code
def yX12_areEnough : MethodName := ⟨RX12, "areEnough", "(I)Z"⟩
abbrev cX12_isFilled : ByteArray := prog_9_method_36_code
def yX12_isFilled : MethodName := ⟨RX12, "isFilled", "(ILTenonyardModel$Stick;)Z"⟩
abbrev cX12_isBefore : ByteArray := prog_9_method_37_code
def yX12_isBefore : MethodName := ⟨RX12, "isBefore", "()Z"⟩
abbrev cX12_saws : ByteArray := prog_9_method_38_code
def yX12_saws : MethodName := ⟨RX12, "saws", "()V"⟩
abbrev cX12_areCut : ByteArray := prog_9_method_39_code
def yX12_areCut : MethodName := ⟨RX12, "areCut", "()Z"⟩
abbrev cX12_isNode : ByteArray := prog_9_method_40_code
def yX12_isNode : MethodName := ⟨RX12, "isNode", "(I)Z"⟩
abbrev cX12_isMember : ByteArray := prog_9_method_41_code
def yX12_isMember : MethodName := ⟨RX12, "isMember", "(I)Z"⟩
abbrev cX12_node : ByteArray := prog_9_method_42_code
def yX12_node : MethodName := ⟨RX12, "node", "(IIC)I"⟩
abbrev cX12_member : ByteArray := prog_9_method_43_code
def yX12_member : MethodName := ⟨RX12, "member", "(IIII)I"⟩
abbrev cX12_load : ByteArray := prog_9_method_44_code
def yX12_load : MethodName := ⟨RX12, "load", "(III)I"⟩
abbrev cX12_state : ByteArray := prog_9_method_45_code
def yX12_state : MethodName := ⟨RX12, "state", "()C"⟩
abbrev cX12_force : ByteArray := prog_9_method_46_code
def yX12_force : MethodName := ⟨RX12, "force", "(I)J"⟩
abbrev cX12_pull : ByteArray := prog_9_method_47_code
def yX12_pull : MethodName := ⟨RX12, "pull", "(I)J"⟩
abbrev cX12_bearing : ByteArray := prog_9_method_48_code
def yX12_bearing : MethodName := ⟨RX12, "bearing", "(IZ)J"⟩
abbrev cX12_restOf : ByteArray := prog_9_method_49_code
def yX12_restOf : MethodName := ⟨RX12, "restOf", "(II)J"⟩
abbrev cX12_isBalanced : ByteArray := prog_9_method_50_code
def yX12_isBalanced : MethodName := ⟨RX12, "isBalanced", "(I)Z"⟩
abbrev cX12_weakest : ByteArray := prog_9_method_51_code
def yX12_weakest : MethodName := ⟨RX12, "weakest", "()I"⟩
abbrev cX12_joint : ByteArray := prog_9_method_52_code
def yX12_joint : MethodName := ⟨RX12, "joint", "(IICII)I"⟩
abbrev cX12_isJoint : ByteArray := prog_9_method_53_code
def yX12_isJoint : MethodName := ⟨RX12, "isJoint", "(I)Z"⟩
abbrev cX12_isGood : ByteArray := prog_9_method_54_code
def yX12_isGood : MethodName := ⟨RX12, "isGood", "(LTenonyardModel$Joint;)Z"⟩
abbrev cX12_isRight : ByteArray := prog_9_method_55_code
def yX12_isRight : MethodName := ⟨RX12, "isRight", "(I)Z"⟩
abbrev cX12_misread : ByteArray := prog_9_method_56_code
def yX12_misread : MethodName := ⟨RX12, "misread", "(I)I"⟩
abbrev cX12_clashes : ByteArray := prog_9_method_57_code
def yX12_clashes : MethodName := ⟨RX12, "clashes", "()I"⟩
abbrev cX12_cutAt : ByteArray := prog_9_method_58_code
def yX12_cutAt : MethodName := ⟨RX12, "cutAt", "(II)I"⟩
abbrev cX12_dry : ByteArray := prog_9_method_59_code
def yX12_dry : MethodName := ⟨RX12, "dry", "(II)I"⟩
abbrev cX12_gapOf : ByteArray := prog_9_method_60_code
def yX12_gapOf : MethodName := ⟨RX12, "gapOf", "(LTenonyardModel$Joint;)I"⟩
abbrev cX12_gap : ByteArray := prog_9_method_61_code
def yX12_gap : MethodName := ⟨RX12, "gap", "(I)I"⟩
abbrev cX12_widest : ByteArray := prog_9_method_62_code
def yX12_widest : MethodName := ⟨RX12, "widest", "()I"⟩
abbrev cX12_stick : ByteArray := prog_9_method_63_code
def yX12_stick : MethodName := ⟨RX12, "stick", "(III)I"⟩
abbrev cX12_piece : ByteArray := prog_9_method_64_code
def yX12_piece : MethodName := ⟨RX12, "piece", "(I)I"⟩
abbrev cX12_stickOf : ByteArray := prog_9_method_65_code
def yX12_stickOf : MethodName := ⟨RX12, "stickOf", "(I)I"⟩
abbrev cX12_wood : ByteArray := prog_9_method_66_code
def yX12_wood : MethodName := ⟨RX12, "wood", "()I"⟩
abbrev cX12_waste : ByteArray := prog_9_method_67_code
def yX12_waste : MethodName := ⟨RX12, "waste", "(I)I"⟩
abbrev cX12_setProps : ByteArray := prog_9_method_68_code
def yX12_setProps : MethodName := ⟨RX12, "setProps", "(I)I"⟩
abbrev cX12_hasOrder : ByteArray := prog_9_method_69_code
def yX12_hasOrder : MethodName := ⟨RX12, "hasOrder", "()Z"⟩
abbrev cX12_raised : ByteArray := prog_9_method_70_code
def yX12_raised : MethodName := ⟨RX12, "raised", "(I)I"⟩
abbrev cX12_canRaise : ByteArray := prog_9_method_71_code
def yX12_canRaise : MethodName := ⟨RX12, "canRaise", "()Z"⟩
abbrev cX12_canTakeAway : ByteArray := prog_9_method_72_code
def yX12_canTakeAway : MethodName := ⟨RX12, "canTakeAway", "()Z"⟩
abbrev cX12_orders : ByteArray := prog_9_method_73_code
def yX12_orders : MethodName := ⟨RX12, "orders", "()I"⟩
abbrev cX12_props : ByteArray := prog_9_method_74_code
def yX12_props : MethodName := ⟨RX12, "props", "(I)I"⟩
abbrev cX12_stuck : ByteArray := prog_9_method_75_code
def yX12_stuck : MethodName := ⟨RX12, "stuck", "()I"⟩
abbrev cX12_allForce : ByteArray := prog_9_method_76_code
def yX12_allForce : MethodName := ⟨RX12, "allForce", "()J"⟩
abbrev cX12_rightShare : ByteArray := prog_9_method_77_code
def yX12_rightShare : MethodName := ⟨RX12, "rightShare", "()F"⟩
abbrev cX12_meanPull : ByteArray := prog_9_method_78_code
def yX12_meanPull : MethodName := ⟨RX12, "meanPull", "()D"⟩
abbrev cX12_isSound : ByteArray := prog_9_method_79_code
def yX12_isSound : MethodName := ⟨RX12, "isSound", "()Z"⟩
def RJx145de : String := "java/io/Serializable"
def TJx145de : u_T := fun k => match k with
  | _ => ("", "", "", false)
def tyJx145de : Nat → FieldType := fun k => match k with
  | _ => .int
abbrev wsJx145de0 : List Cond := u_ws RJx145de TJx145de 0
theorem nmJx145de : ∀ a, a < 0 → ∀ b, b < 0 → a ≠ b → (TJx145de a).2.1 ≠ (TJx145de b).2.1 := by decide +kernel
theorem tyJx145de_ok : ∀ k, k < 0 → parseFieldDescriptor (TJx145de k).2.2.1 = some (tyJx145de k) := by decide +kernel
def RJx00060 : String := "java/lang/ArrayIndexOutOfBoundsException"
def TJx00060 : u_T := fun k => match k with
  | 0 => ("java/lang/Throwable", "backtrace", "Ljava/lang/Object;", false)
  | 1 => ("java/lang/Throwable", "detailMessage", "Ljava/lang/String;", false)
  | 2 => ("java/lang/Throwable", "cause", "Ljava/lang/Throwable;", false)
  | 3 => ("java/lang/Throwable", "stackTrace", "[Ljava/lang/StackTraceElement;", false)
  | 4 => ("java/lang/Throwable", "depth", "I", false)
  | _ => ("java/lang/Throwable", "suppressedExceptions", "Ljava/util/List;", false)
def tyJx00060 : Nat → FieldType := fun k => match k with
  | 0 => .object "java/lang/Object"
  | 1 => .object "java/lang/String"
  | 2 => .object "java/lang/Throwable"
  | 3 => .array (.object "java/lang/StackTraceElement")
  | 4 => .int
  | _ => .object "java/util/List"
abbrev wsJx000600 : List Cond := u_ws RJx00060 TJx00060 6
theorem nmJx00060 : ∀ a, a < 6 → ∀ b, b < 6 → a ≠ b → (TJx00060 a).2.1 ≠ (TJx00060 b).2.1 := by decide +kernel
theorem tyJx00060_ok : ∀ k, k < 6 → parseFieldDescriptor (TJx00060 k).2.2.1 = some (tyJx00060 k) := by decide +kernel
abbrev cJx00060_init_a7421 : ByteArray := prog_17_method_2_code
def yJx00060_init_a7421 : MethodName := ⟨RJx00060, "<init>", "(Ljava/lang/String;)V"⟩
def RJx9f9b0 : String := "java/lang/CharSequence"
def TJx9f9b0 : u_T := fun k => match k with
  | _ => ("", "", "", false)
def tyJx9f9b0 : Nat → FieldType := fun k => match k with
  | _ => .int
abbrev wsJx9f9b00 : List Cond := u_ws RJx9f9b0 TJx9f9b0 0
theorem nmJx9f9b0 : ∀ a, a < 0 → ∀ b, b < 0 → a ≠ b → (TJx9f9b0 a).2.1 ≠ (TJx9f9b0 b).2.1 := by decide +kernel
theorem tyJx9f9b0_ok : ∀ k, k < 0 → parseFieldDescriptor (TJx9f9b0 k).2.2.1 = some (tyJx9f9b0 k) := by decide +kernel
def RJ11 : String := "java/lang/Character"
def TJ11 : u_T := fun k => match k with
  | _ => ("", "", "", false)
def tyJ11 : Nat → FieldType := fun k => match k with
  | _ => .int
abbrev wsJ110 : List Cond := u_ws RJ11 TJ11 0
theorem nmJ11 : ∀ a, a < 0 → ∀ b, b < 0 → a ≠ b → (TJ11 a).2.1 ≠ (TJ11 b).2.1 := by decide +kernel
theorem tyJ11_ok : ∀ k, k < 0 → parseFieldDescriptor (TJ11 k).2.2.1 = some (tyJ11 k) := by decide +kernel
abbrev cJ11_isValidCodePoint_9a6ad : ByteArray := prog_19_method_11_code
def yJ11_isValidCodePoint_9a6ad : MethodName := ⟨RJ11, "isValidCodePoint", "(I)Z"⟩
abbrev cJ11_highSurrogate_5068e : ByteArray := prog_19_method_28_code
def yJ11_highSurrogate_5068e : MethodName := ⟨RJ11, "highSurrogate", "(I)C"⟩
abbrev cJ11_lowSurrogate_5068e : ByteArray := prog_19_method_29_code
def yJ11_lowSurrogate_5068e : MethodName := ⟨RJ11, "lowSurrogate", "(I)C"⟩
def RJx8e188 : String := "java/lang/Cloneable"
def TJx8e188 : u_T := fun k => match k with
  | _ => ("", "", "", false)
def tyJx8e188 : Nat → FieldType := fun k => match k with
  | _ => .int
abbrev wsJx8e1880 : List Cond := u_ws RJx8e188 TJx8e188 0
theorem nmJx8e188 : ∀ a, a < 0 → ∀ b, b < 0 → a ≠ b → (TJx8e188 a).2.1 ≠ (TJx8e188 b).2.1 := by decide +kernel
theorem tyJx8e188_ok : ∀ k, k < 0 → parseFieldDescriptor (TJx8e188 k).2.2.1 = some (tyJx8e188 k) := by decide +kernel
def RJxb160c : String := "java/lang/Comparable"
def TJxb160c : u_T := fun k => match k with
  | _ => ("", "", "", false)
def tyJxb160c : Nat → FieldType := fun k => match k with
  | _ => .int
abbrev wsJxb160c0 : List Cond := u_ws RJxb160c TJxb160c 0
theorem nmJxb160c : ∀ a, a < 0 → ∀ b, b < 0 → a ≠ b → (TJxb160c a).2.1 ≠ (TJxb160c b).2.1 := by decide +kernel
theorem tyJxb160c_ok : ∀ k, k < 0 → parseFieldDescriptor (TJxb160c k).2.2.1 = some (tyJxb160c k) := by decide +kernel
def RJ6 : String := "java/lang/Integer"
def TJ6 : u_T := fun k => match k with
  | _ => ("", "", "", false)
def tyJ6 : Nat → FieldType := fun k => match k with
  | _ => .int
abbrev wsJ60 : List Cond := u_ws RJ6 TJ6 0
theorem nmJ6 : ∀ a, a < 0 → ∀ b, b < 0 → a ≠ b → (TJ6 a).2.1 ≠ (TJ6 b).2.1 := by decide +kernel
theorem tyJ6_ok : ∀ k, k < 0 → parseFieldDescriptor (TJ6 k).2.2.1 = some (tyJ6 k) := by decide +kernel
abbrev cJ6_numberOfTrailingZeros_0f7a4 : ByteArray := prog_26_method_48_code
def yJ6_numberOfTrailingZeros_0f7a4 : MethodName := ⟨RJ6, "numberOfTrailingZeros", "(I)I"⟩
abbrev cJ6_bitCount_0f7a4 : ByteArray := prog_26_method_49_code
def yJ6_bitCount_0f7a4 : MethodName := ⟨RJ6, "bitCount", "(I)I"⟩
def RJxab1ab : String := "java/lang/Iterable"
def TJxab1ab : u_T := fun k => match k with
  | _ => ("", "", "", false)
def tyJxab1ab : Nat → FieldType := fun k => match k with
  | _ => .int
abbrev wsJxab1ab0 : List Cond := u_ws RJxab1ab TJxab1ab 0
theorem nmJxab1ab : ∀ a, a < 0 → ∀ b, b < 0 → a ≠ b → (TJxab1ab a).2.1 ≠ (TJxab1ab b).2.1 := by decide +kernel
theorem tyJxab1ab_ok : ∀ k, k < 0 → parseFieldDescriptor (TJxab1ab k).2.2.1 = some (tyJxab1ab k) := by decide +kernel
def RJ9 : String := "java/lang/Math"
def TJ9 : u_T := fun k => match k with
  | _ => ("", "", "", false)
def tyJ9 : Nat → FieldType := fun k => match k with
  | _ => .int
abbrev wsJ90 : List Cond := u_ws RJ9 TJ9 0
theorem nmJ9 : ∀ a, a < 0 → ∀ b, b < 0 → a ≠ b → (TJ9 a).2.1 ≠ (TJ9 b).2.1 := by decide +kernel
theorem tyJ9_ok : ∀ k, k < 0 → parseFieldDescriptor (TJ9 k).2.2.1 = some (tyJ9 k) := by decide +kernel
abbrev cJ9_floorDiv_f86c9 : ByteArray := prog_28_method_49_code
def yJ9_floorDiv_f86c9 : MethodName := ⟨RJ9, "floorDiv", "(JJ)J"⟩
abbrev cJ9_floorMod_f86c9 : ByteArray := prog_28_method_52_code
def yJ9_floorMod_f86c9 : MethodName := ⟨RJ9, "floorMod", "(JJ)J"⟩
abbrev cJ9_abs_067f4 : ByteArray := prog_28_method_61_code
def yJ9_abs_067f4 : MethodName := ⟨RJ9, "abs", "(J)J"⟩
abbrev cJ9_max_7cf53 : ByteArray := prog_28_method_65_code
def yJ9_max_7cf53 : MethodName := ⟨RJ9, "max", "(II)I"⟩
abbrev cJ9_min_7cf53 : ByteArray := prog_28_method_69_code
def yJ9_min_7cf53 : MethodName := ⟨RJ9, "min", "(II)I"⟩
abbrev cJ9_min_f86c9 : ByteArray := prog_28_method_70_code
def yJ9_min_f86c9 : MethodName := ⟨RJ9, "min", "(JJ)J"⟩
def RJ0 : String := "java/lang/String"
def TJ0 : u_T := fun k => match k with
  | 0 => ("java/lang/String", "value", "[B", true)
  | _ => ("java/lang/String", "coder", "B", true)
def tyJ0 : Nat → FieldType := fun k => match k with
  | 0 => .array .byte
  | _ => .byte
abbrev wsJ00 : List Cond := u_ws RJ0 TJ0 2
theorem nmJ0 : ∀ a, a < 2 → ∀ b, b < 2 → a ≠ b → (TJ0 a).2.1 ≠ (TJ0 b).2.1 := by decide +kernel
theorem tyJ0_ok : ∀ k, k < 2 → parseFieldDescriptor (TJ0 k).2.2.1 = some (tyJ0 k) := by decide +kernel
abbrev cJ0_length_8abf5 : ByteArray := prog_30_method_54_code
def yJ0_length_8abf5 : MethodName := ⟨RJ0, "length", "()I"⟩
abbrev cJ0_indexOf_0f7a4 : ByteArray := prog_30_method_79_code
def yJ0_indexOf_0f7a4 : MethodName := ⟨RJ0, "indexOf", "(I)I"⟩
abbrev cJ0_indexOf_7cf53 : ByteArray := prog_30_method_80_code
def yJ0_indexOf_7cf53 : MethodName := ⟨RJ0, "indexOf", "(II)I"⟩
abbrev cJ0_coder_7d493 : ByteArray := prog_30_method_152_code
def yJ0_coder_7d493 : MethodName := ⟨RJ0, "coder", "()B"⟩
abbrev cJ0_isLatin1_aae02 : ByteArray := prog_30_method_154_code
def yJ0_isLatin1_aae02 : MethodName := ⟨RJ0, "isLatin1", "()Z"⟩
abbrev cJ0_checkBoundsBeginEnd_23922 : ByteArray := prog_30_method_158_code
def yJ0_checkBoundsBeginEnd_23922 : MethodName := ⟨RJ0, "checkBoundsBeginEnd", "(III)V"⟩
def RJ1 : String := "java/lang/StringLatin1"
def TJ1 : u_T := fun k => match k with
  | _ => ("", "", "", false)
def tyJ1 : Nat → FieldType := fun k => match k with
  | _ => .int
abbrev wsJ10 : List Cond := u_ws RJ1 TJ1 0
theorem nmJ1 : ∀ a, a < 0 → ∀ b, b < 0 → a ≠ b → (TJ1 a).2.1 ≠ (TJ1 b).2.1 := by decide +kernel
theorem tyJ1_ok : ∀ k, k < 0 → parseFieldDescriptor (TJ1 k).2.2.1 = some (tyJ1 k) := by decide +kernel
abbrev cJ1_canEncode_9a6ad : ByteArray := prog_31_method_4_code
def yJ1_canEncode_9a6ad : MethodName := ⟨RJ1, "canEncode", "(I)Z"⟩
abbrev cJ1_indexOf_4cfef : ByteArray := prog_31_method_22_code
def yJ1_indexOf_4cfef : MethodName := ⟨RJ1, "indexOf", "([BIII)I"⟩
abbrev cJ1_indexOfChar_4cfef : ByteArray := prog_31_method_23_code
def yJ1_indexOfChar_4cfef : MethodName := ⟨RJ1, "indexOfChar", "([BIII)I"⟩
def RJ2 : String := "java/lang/StringUTF16"
def TJ2 : u_T := fun k => match k with
  | _ => ("", "", "", false)
def tyJ2 : Nat → FieldType := fun k => match k with
  | _ => .int
abbrev wsJ20 : List Cond := u_ws RJ2 TJ2 0
theorem nmJ2 : ∀ a, a < 0 → ∀ b, b < 0 → a ≠ b → (TJ2 a).2.1 ≠ (TJ2 b).2.1 := by decide +kernel
theorem tyJ2_ok : ∀ k, k < 0 → parseFieldDescriptor (TJ2 k).2.2.1 = some (tyJ2 k) := by decide +kernel
abbrev cJ2_getChar_3b067 : ByteArray := prog_32_method_5_code
def yJ2_getChar_3b067 : MethodName := ⟨RJ2, "getChar", "([BI)C"⟩
abbrev cJ2_length_9d52b : ByteArray := prog_32_method_6_code
def yJ2_length_9d52b : MethodName := ⟨RJ2, "length", "([B)I"⟩
abbrev cJ2_indexOf_4cfef : ByteArray := prog_32_method_40_code
def yJ2_indexOf_4cfef : MethodName := ⟨RJ2, "indexOf", "([BIII)I"⟩
abbrev cJ2_indexOfChar_4cfef : ByteArray := prog_32_method_47_code
def yJ2_indexOfChar_4cfef : MethodName := ⟨RJ2, "indexOfChar", "([BIII)I"⟩
abbrev cJ2_indexOfCharUnsafe_4cfef : ByteArray := prog_32_method_48_code
def yJ2_indexOfCharUnsafe_4cfef : MethodName := ⟨RJ2, "indexOfCharUnsafe", "([BIII)I"⟩
abbrev cJ2_indexOfSupplementary_4cfef : ByteArray := prog_32_method_49_code
def yJ2_indexOfSupplementary_4cfef : MethodName := ⟨RJ2, "indexOfSupplementary", "([BIII)I"⟩
abbrev cJ2_checkBoundsBeginEnd_d044e : ByteArray := prog_32_method_93_code
def yJ2_checkBoundsBeginEnd_d044e : MethodName := ⟨RJ2, "checkBoundsBeginEnd", "(II[B)V"⟩
def RJ10 : String := "java/lang/System"
def TJ10 : u_T := fun k => match k with
  | _ => ("", "", "", false)
def tyJ10 : Nat → FieldType := fun k => match k with
  | _ => .int
abbrev wsJ100 : List Cond := u_ws RJ10 TJ10 0
theorem nmJ10 : ∀ a, a < 0 → ∀ b, b < 0 → a ≠ b → (TJ10 a).2.1 ≠ (TJ10 b).2.1 := by decide +kernel
theorem tyJ10_ok : ∀ k, k < 0 → parseFieldDescriptor (TJ10 k).2.2.1 = some (tyJ10 k) := by decide +kernel
def RJxfd54e : String := "java/lang/constant/Constable"
def TJxfd54e : u_T := fun k => match k with
  | _ => ("", "", "", false)
def tyJxfd54e : Nat → FieldType := fun k => match k with
  | _ => .int
abbrev wsJxfd54e0 : List Cond := u_ws RJxfd54e TJxfd54e 0
theorem nmJxfd54e : ∀ a, a < 0 → ∀ b, b < 0 → a ≠ b → (TJxfd54e a).2.1 ≠ (TJxfd54e b).2.1 := by decide +kernel
theorem tyJxfd54e_ok : ∀ k, k < 0 → parseFieldDescriptor (TJxfd54e k).2.2.1 = some (tyJxfd54e k) := by decide +kernel
def RJx3cf43 : String := "java/lang/constant/ConstantDesc"
def TJx3cf43 : u_T := fun k => match k with
  | _ => ("", "", "", false)
def tyJx3cf43 : Nat → FieldType := fun k => match k with
  | _ => .int
abbrev wsJx3cf430 : List Cond := u_ws RJx3cf43 TJx3cf43 0
theorem nmJx3cf43 : ∀ a, a < 0 → ∀ b, b < 0 → a ≠ b → (TJx3cf43 a).2.1 ≠ (TJx3cf43 b).2.1 := by decide +kernel
theorem tyJx3cf43_ok : ∀ k, k < 0 → parseFieldDescriptor (TJx3cf43 k).2.2.1 = some (tyJx3cf43 k) := by decide +kernel
def RJxa1e45 : String := "java/util/AbstractCollection"
def TJxa1e45 : u_T := fun k => match k with
  | _ => ("", "", "", false)
def tyJxa1e45 : Nat → FieldType := fun k => match k with
  | _ => .int
abbrev wsJxa1e450 : List Cond := u_ws RJxa1e45 TJxa1e45 0
theorem nmJxa1e45 : ∀ a, a < 0 → ∀ b, b < 0 → a ≠ b → (TJxa1e45 a).2.1 ≠ (TJxa1e45 b).2.1 := by decide +kernel
theorem tyJxa1e45_ok : ∀ k, k < 0 → parseFieldDescriptor (TJxa1e45 k).2.2.1 = some (tyJxa1e45 k) := by decide +kernel
abbrev cJxa1e45_init_da8c8 : ByteArray := prog_38_method_1_code
def yJxa1e45_init_da8c8 : MethodName := ⟨RJxa1e45, "<init>", "()V"⟩
def RJxc12de : String := "java/util/AbstractList"
def TJxc12de : u_T := fun k => match k with
  | _ => ("", "", "", false)
def tyJxc12de : Nat → FieldType := fun k => match k with
  | _ => .int
abbrev wsJxc12de0 : List Cond := u_ws RJxc12de TJxc12de 0
theorem nmJxc12de : ∀ a, a < 0 → ∀ b, b < 0 → a ≠ b → (TJxc12de a).2.1 ≠ (TJxc12de b).2.1 := by decide +kernel
theorem tyJxc12de_ok : ∀ k, k < 0 → parseFieldDescriptor (TJxc12de k).2.2.1 = some (tyJxc12de k) := by decide +kernel
abbrev cJxc12de_init_da8c8 : ByteArray := prog_39_method_1_code
def yJxc12de_init_da8c8 : MethodName := ⟨RJxc12de, "<init>", "()V"⟩
def RJx4a65c : String := "java/util/ArrayList"
def TJx4a65c : u_T := fun k => match k with
  | 0 => ("java/util/AbstractList", "modCount", "I", false)
  | 1 => ("java/util/ArrayList", "elementData", "[Ljava/lang/Object;", false)
  | _ => ("java/util/ArrayList", "size", "I", false)
def tyJx4a65c : Nat → FieldType := fun k => match k with
  | 0 => .int
  | 1 => .array (.object "java/lang/Object")
  | _ => .int
abbrev wsJx4a65c0 : List Cond := u_ws RJx4a65c TJx4a65c 3
theorem nmJx4a65c : ∀ a, a < 3 → ∀ b, b < 3 → a ≠ b → (TJx4a65c a).2.1 ≠ (TJx4a65c b).2.1 := by decide +kernel
theorem tyJx4a65c_ok : ∀ k, k < 3 → parseFieldDescriptor (TJx4a65c k).2.2.1 = some (tyJx4a65c k) := by decide +kernel
abbrev cJx4a65c_init_da8c8 : ByteArray := prog_40_method_2_code
def yJx4a65c_init_da8c8 : MethodName := ⟨RJx4a65c, "<init>", "()V"⟩
abbrev cJx4a65c_grow_92f84 : ByteArray := prog_40_method_6_code
def yJx4a65c_grow_92f84 : MethodName := ⟨RJx4a65c, "grow", "(I)[Ljava/lang/Object;"⟩
abbrev cJx4a65c_grow_d5877 : ByteArray := prog_40_method_7_code
def yJx4a65c_grow_d5877 : MethodName := ⟨RJx4a65c, "grow", "()[Ljava/lang/Object;"⟩
abbrev cJx4a65c_size_8abf5 : ByteArray := prog_40_method_8_code
def yJx4a65c_size_8abf5 : MethodName := ⟨RJx4a65c, "size", "()I"⟩
abbrev cJx4a65c_isEmpty_aae02 : ByteArray := prog_40_method_9_code
def yJx4a65c_isEmpty_aae02 : MethodName := ⟨RJx4a65c, "isEmpty", "()Z"⟩
abbrev cJx4a65c_elementData_915e3 : ByteArray := prog_40_method_18_code
def yJx4a65c_elementData_915e3 : MethodName := ⟨RJx4a65c, "elementData", "(I)Ljava/lang/Object;"⟩
abbrev cJx4a65c_get_915e3 : ByteArray := prog_40_method_20_code
def yJx4a65c_get_915e3 : MethodName := ⟨RJx4a65c, "get", "(I)Ljava/lang/Object;"⟩
abbrev cJx4a65c_add_72be8 : ByteArray := prog_40_method_24_code
def yJx4a65c_add_72be8 : MethodName := ⟨RJx4a65c, "add", "(Ljava/lang/Object;[Ljava/lang/Object;I)V"⟩
abbrev cJx4a65c_add_9ea2d : ByteArray := prog_40_method_25_code
def yJx4a65c_add_9ea2d : MethodName := ⟨RJx4a65c, "add", "(Ljava/lang/Object;)Z"⟩
def RJ7 : String := "java/util/Arrays"
def TJ7 : u_T := fun k => match k with
  | _ => ("", "", "", false)
def tyJ7 : Nat → FieldType := fun k => match k with
  | _ => .int
abbrev wsJ70 : List Cond := u_ws RJ7 TJ7 0
theorem nmJ7 : ∀ a, a < 0 → ∀ b, b < 0 → a ≠ b → (TJ7 a).2.1 ≠ (TJ7 b).2.1 := by decide +kernel
theorem tyJ7_ok : ∀ k, k < 0 → parseFieldDescriptor (TJ7 k).2.2.1 = some (tyJ7 k) := by decide +kernel
abbrev cJ7_copyOf_1904c : ByteArray := prog_41_method_119_code
def yJ7_copyOf_1904c : MethodName := ⟨RJ7, "copyOf", "([Ljava/lang/Object;I)[Ljava/lang/Object;"⟩
abbrev cJ7_copyOf_6403c : ByteArray := prog_41_method_120_code
def yJ7_copyOf_6403c : MethodName := ⟨RJ7, "copyOf", "([Ljava/lang/Object;ILjava/lang/Class;)[Ljava/lang/Object;"⟩
def RJx5ef63 : String := "java/util/Collection"
def TJx5ef63 : u_T := fun k => match k with
  | _ => ("", "", "", false)
def tyJx5ef63 : Nat → FieldType := fun k => match k with
  | _ => .int
abbrev wsJx5ef630 : List Cond := u_ws RJx5ef63 TJx5ef63 0
theorem nmJx5ef63 : ∀ a, a < 0 → ∀ b, b < 0 → a ≠ b → (TJx5ef63 a).2.1 ≠ (TJx5ef63 b).2.1 := by decide +kernel
theorem tyJx5ef63_ok : ∀ k, k < 0 → parseFieldDescriptor (TJx5ef63 k).2.2.1 = some (tyJx5ef63 k) := by decide +kernel
def RJxbd725 : String := "java/util/List"
def TJxbd725 : u_T := fun k => match k with
  | _ => ("", "", "", false)
def tyJxbd725 : Nat → FieldType := fun k => match k with
  | _ => .int
abbrev wsJxbd7250 : List Cond := u_ws RJxbd725 TJxbd725 0
theorem nmJxbd725 : ∀ a, a < 0 → ∀ b, b < 0 → a ≠ b → (TJxbd725 a).2.1 ≠ (TJxbd725 b).2.1 := by decide +kernel
theorem tyJxbd725_ok : ∀ k, k < 0 → parseFieldDescriptor (TJxbd725 k).2.2.1 = some (tyJxbd725 k) := by decide +kernel
def RJ15 : String := "java/util/Objects"
def TJ15 : u_T := fun k => match k with
  | _ => ("", "", "", false)
def tyJ15 : Nat → FieldType := fun k => match k with
  | _ => .int
abbrev wsJ150 : List Cond := u_ws RJ15 TJ15 0
theorem nmJ15 : ∀ a, a < 0 → ∀ b, b < 0 → a ≠ b → (TJ15 a).2.1 ≠ (TJ15 b).2.1 := by decide +kernel
theorem tyJ15_ok : ∀ k, k < 0 → parseFieldDescriptor (TJ15 k).2.2.1 = some (tyJ15 k) := by decide +kernel
abbrev cJ15_checkIndex_7cf53 : ByteArray := prog_45_method_17_code
def yJ15_checkIndex_7cf53 : MethodName := ⟨RJ15, "checkIndex", "(II)I"⟩
def RJxf0a74 : String := "java/util/RandomAccess"
def TJxf0a74 : u_T := fun k => match k with
  | _ => ("", "", "", false)
def tyJxf0a74 : Nat → FieldType := fun k => match k with
  | _ => .int
abbrev wsJxf0a740 : List Cond := u_ws RJxf0a74 TJxf0a74 0
theorem nmJxf0a74 : ∀ a, a < 0 → ∀ b, b < 0 → a ≠ b → (TJxf0a74 a).2.1 ≠ (TJxf0a74 b).2.1 := by decide +kernel
theorem tyJxf0a74_ok : ∀ k, k < 0 → parseFieldDescriptor (TJxf0a74 k).2.2.1 = some (tyJxf0a74 k) := by decide +kernel
def RJxa66e6 : String := "java/util/SequencedCollection"
def TJxa66e6 : u_T := fun k => match k with
  | _ => ("", "", "", false)
def tyJxa66e6 : Nat → FieldType := fun k => match k with
  | _ => .int
abbrev wsJxa66e60 : List Cond := u_ws RJxa66e6 TJxa66e6 0
theorem nmJxa66e6 : ∀ a, a < 0 → ∀ b, b < 0 → a ≠ b → (TJxa66e6 a).2.1 ≠ (TJxa66e6 b).2.1 := by decide +kernel
theorem tyJxa66e6_ok : ∀ k, k < 0 → parseFieldDescriptor (TJxa66e6 k).2.2.1 = some (tyJxa66e6 k) := by decide +kernel
def RJ8 : String := "jdk/internal/util/ArraysSupport"
def TJ8 : u_T := fun k => match k with
  | _ => ("", "", "", false)
def tyJ8 : Nat → FieldType := fun k => match k with
  | _ => .int
abbrev wsJ80 : List Cond := u_ws RJ8 TJ8 0
theorem nmJ8 : ∀ a, a < 0 → ∀ b, b < 0 → a ≠ b → (TJ8 a).2.1 ≠ (TJ8 b).2.1 := by decide +kernel
theorem tyJ8_ok : ∀ k, k < 0 → parseFieldDescriptor (TJ8 k).2.2.1 = some (tyJ8 k) := by decide +kernel
abbrev cJ8_newLength_cabcc : ByteArray := prog_48_method_27_code
def yJ8_newLength_cabcc : MethodName := ⟨RJ8, "newLength", "(III)I"⟩
abbrev cJ8_hugeLength_7cf53 : ByteArray := prog_48_method_28_code
def yJ8_hugeLength_7cf53 : MethodName := ⟨RJ8, "hugeLength", "(II)I"⟩
def RJ3 : String := "jdk/internal/util/Preconditions"
def TJ3 : u_T := fun k => match k with
  | _ => ("", "", "", false)
def tyJ3 : Nat → FieldType := fun k => match k with
  | _ => .int
abbrev wsJ30 : List Cond := u_ws RJ3 TJ3 0
theorem nmJ3 : ∀ a, a < 0 → ∀ b, b < 0 → a ≠ b → (TJ3 a).2.1 ≠ (TJ3 b).2.1 := by decide +kernel
theorem tyJ3_ok : ∀ k, k < 0 → parseFieldDescriptor (TJ3 k).2.2.1 = some (tyJ3 k) := by decide +kernel
abbrev cJ3_checkIndex_8e157 : ByteArray := prog_49_method_11_code
def yJ3_checkIndex_8e157 : MethodName := ⟨RJ3, "checkIndex", "(IILjava/util/function/BiFunction;)I"⟩
abbrev cJ3_checkFromToIndex_8c36e : ByteArray := prog_49_method_12_code
def yJ3_checkFromToIndex_8c36e : MethodName := ⟨RJ3, "checkFromToIndex", "(IIILjava/util/function/BiFunction;)I"⟩
def RL : String := "TenonyardLaw"
abbrev cL_node : ByteArray := method_3_code
def yL_node : MethodName := ⟨RL, "node", "(LTenonyard;IIC[J)I"⟩
abbrev cL_member : ByteArray := method_4_code
def yL_member : MethodName := ⟨RL, "member", "(LTenonyard;IIII[J)I"⟩
abbrev cL_load : ByteArray := method_5_code
def yL_load : MethodName := ⟨RL, "load", "(LTenonyard;III[J)I"⟩
abbrev cL_force : ByteArray := method_6_code
def yL_force : MethodName := ⟨RL, "force", "(LTenonyard;I[J)I"⟩
abbrev cL_pull : ByteArray := method_7_code
def yL_pull : MethodName := ⟨RL, "pull", "(LTenonyard;I[J)I"⟩
abbrev cL_bearing : ByteArray := method_8_code
def yL_bearing : MethodName := ⟨RL, "bearing", "(LTenonyard;IZ[J)I"⟩
abbrev cL_isBalanced : ByteArray := method_9_code
def yL_isBalanced : MethodName := ⟨RL, "isBalanced", "(LTenonyard;I[J)I"⟩
abbrev cL_weakest : ByteArray := method_10_code
def yL_weakest : MethodName := ⟨RL, "weakest", "(LTenonyard;[J)I"⟩
abbrev cL_joint : ByteArray := method_11_code
def yL_joint : MethodName := ⟨RL, "joint", "(LTenonyard;IICII[J)I"⟩
abbrev cL_isRight : ByteArray := method_12_code
def yL_isRight : MethodName := ⟨RL, "isRight", "(LTenonyard;I[J)I"⟩
abbrev cL_misread : ByteArray := method_13_code
def yL_misread : MethodName := ⟨RL, "misread", "(LTenonyard;I[J)I"⟩
abbrev cL_cutAt : ByteArray := method_14_code
def yL_cutAt : MethodName := ⟨RL, "cutAt", "(LTenonyard;II[J)I"⟩
abbrev cL_dry : ByteArray := method_15_code
def yL_dry : MethodName := ⟨RL, "dry", "(LTenonyard;II[J)I"⟩
abbrev cL_gap : ByteArray := method_16_code
def yL_gap : MethodName := ⟨RL, "gap", "(LTenonyard;I[J)I"⟩
abbrev cL_widest : ByteArray := method_17_code
def yL_widest : MethodName := ⟨RL, "widest", "(LTenonyard;[J)I"⟩
abbrev cL_stick : ByteArray := method_18_code
def yL_stick : MethodName := ⟨RL, "stick", "(LTenonyard;III[J)I"⟩
abbrev cL_piece : ByteArray := method_19_code
def yL_piece : MethodName := ⟨RL, "piece", "(LTenonyard;I[J)I"⟩
abbrev cL_stickOf : ByteArray := method_20_code
def yL_stickOf : MethodName := ⟨RL, "stickOf", "(LTenonyard;I[J)I"⟩
abbrev cL_wood : ByteArray := method_21_code
def yL_wood : MethodName := ⟨RL, "wood", "(LTenonyard;[J)I"⟩
abbrev cL_waste : ByteArray := method_22_code
def yL_waste : MethodName := ⟨RL, "waste", "(LTenonyard;I[J)I"⟩
abbrev cL_setProps : ByteArray := method_23_code
def yL_setProps : MethodName := ⟨RL, "setProps", "(LTenonyard;I[J)I"⟩
abbrev cL_raised : ByteArray := method_24_code
def yL_raised : MethodName := ⟨RL, "raised", "(LTenonyard;I[J)I"⟩
abbrev cL_props : ByteArray := method_25_code
def yL_props : MethodName := ⟨RL, "props", "(LTenonyard;I[J)I"⟩
abbrev cL_stuck : ByteArray := method_26_code
def yL_stuck : MethodName := ⟨RL, "stuck", "(LTenonyard;[J)I"⟩
abbrev cL_allForce : ByteArray := method_27_code
def yL_allForce : MethodName := ⟨RL, "allForce", "(LTenonyard;[J)I"⟩
abbrev cL_rightShare : ByteArray := method_28_code
def yL_rightShare : MethodName := ⟨RL, "rightShare", "(LTenonyard;[D)I"⟩
abbrev cL_meanPull : ByteArray := method_29_code
def yL_meanPull : MethodName := ⟨RL, "meanPull", "(LTenonyard;[D)I"⟩
abbrev cL_law : ByteArray := code
def yL_law : MethodName := ⟨RL, "law", "([I)Z"⟩
abbrev vwCl : List vw_C := [(RJ0, TJ0, 2), (RJx00060, TJx00060, 6), (RJx4a65c, TJx4a65c, 3), (RX0, TX0, 11), (RX1, TX1, 17), (RX2, TX2, 12), (RX3, TX3, 6), (RX4, TX4, 9), (RX5, TX5, 1), (RX6, TX6, 5), (RX7, TX7, 5), (RX8, TX8, 6), (RX9, TX9, 6), (RX10, TX10, 3), (RX11, TX11, 1), (RX12, TX12, 27)]
end
section
abbrev STR : List (String × Nat × String) := [("Tenonyard", 48, "-pr"), ("Tenonyard", 58, "no such place or kind"), ("Tenonyard", 69, "no more nodes"), ("Tenonyard", 280, "no such node"), ("Tenonyard", 91, "one place, or no such breadth or grade"), ("Tenonyard", 96, "no more members"), ("Tenonyard", 104, "no such load"), ("Tenonyard", 282, "no such member"), ("Tenonyard", 288, "the frame does not stand"), ("Tenonyard", 136, "no such section"), ("Tenonyard", 144, "no members"), ("Tenonyard$Joinery", 27, "udlrf"), ("Tenonyard", 157, "one member, or no such way, thickness or mark"), ("Tenonyard", 167, "no node in common, or joined already"), ("Tenonyard", 173, "no more joints"), ("Tenonyard", 284, "no such joint"), ("Tenonyard", 286, "no such moisture"), ("Tenonyard", 206, "no joints"), ("Tenonyard", 208, "no such length, breadth or grade"), ("Tenonyard", 211, "no more sticks"), ("Tenonyard", 294, "no way to cut all members"), ("Tenonyard", 230, "no such stick"), ("Tenonyard", 236, "no such number of props"), ("Tenonyard", 296, "no order"), ("Tenonyard", 298, "no such index"), ("Tenonyard", 264, "each can be the last one")]
abbrev NCL : List (String × String) := [("java/lang/IllegalStateException", "java/lang/IllegalArgumentException"), ("java/lang/IndexOutOfBoundsException", "java/lang/IllegalArgumentException"), ("java/util/NoSuchElementException", "java/lang/IllegalArgumentException"), ("java/lang/UnsupportedOperationException", "java/lang/IllegalArgumentException"), ("java/lang/ArithmeticException", "java/lang/IllegalArgumentException"), ("java/lang/IllegalArgumentException", "java/lang/IllegalStateException"), ("java/lang/IndexOutOfBoundsException", "java/lang/IllegalStateException"), ("java/util/NoSuchElementException", "java/lang/IllegalStateException"), ("java/lang/UnsupportedOperationException", "java/lang/IllegalStateException"), ("java/lang/ArithmeticException", "java/lang/IllegalStateException"), ("java/lang/IllegalArgumentException", "java/lang/IndexOutOfBoundsException"), ("java/lang/IllegalStateException", "java/lang/IndexOutOfBoundsException"), ("java/util/NoSuchElementException", "java/lang/IndexOutOfBoundsException"), ("java/lang/UnsupportedOperationException", "java/lang/IndexOutOfBoundsException"), ("java/lang/ArithmeticException", "java/lang/IndexOutOfBoundsException"), ("java/lang/IllegalArgumentException", "java/util/NoSuchElementException"), ("java/lang/IllegalStateException", "java/util/NoSuchElementException"), ("java/lang/IndexOutOfBoundsException", "java/util/NoSuchElementException"), ("java/lang/UnsupportedOperationException", "java/util/NoSuchElementException"), ("java/lang/ArithmeticException", "java/util/NoSuchElementException"), ("java/lang/IllegalArgumentException", "java/lang/UnsupportedOperationException"), ("java/lang/IllegalStateException", "java/lang/UnsupportedOperationException"), ("java/lang/IndexOutOfBoundsException", "java/lang/UnsupportedOperationException"), ("java/util/NoSuchElementException", "java/lang/UnsupportedOperationException"), ("java/lang/ArithmeticException", "java/lang/UnsupportedOperationException"), ("java/lang/IllegalArgumentException", "java/lang/ArithmeticException"), ("java/lang/IllegalStateException", "java/lang/ArithmeticException"), ("java/lang/IndexOutOfBoundsException", "java/lang/ArithmeticException"), ("java/util/NoSuchElementException", "java/lang/ArithmeticException"), ("java/lang/UnsupportedOperationException", "java/lang/ArithmeticException")]
/-! words: one list for all methods -/
def GW : List Cond := lw_tbl.filter goodWord
def nwWord : Cond → Bool
  | .castable .. | .declares _ | .fieldLinkNest .. | .methodLinkNest .. => true
  | _ => false
def NW : List Cond := lw_tbl.filter nwWord
theorem gw_of {i : Nat} {w : Cond} (h : lw_tbl[i]? = some w) (g : goodWord w = true) : w ∈ GW := List.mem_filter.mpr ⟨List.mem_of_getElem? h, g⟩
theorem nw_of {i : Nat} {w : Cond} (h : lw_tbl[i]? = some w) (g : nwWord w = true) : w ∈ NW := List.mem_filter.mpr ⟨List.mem_of_getElem? h, g⟩
theorem gw_good {w : Cond} (h : w ∈ GW) : (w.onTables && w.keeps) = true ∨ ∃ ty, w = .arrayClass ty := good_of_word (List.mem_filter.mp h).2
theorem gw_all : GoodIn GW GW := fun _ h => ⟨h, gw_good h⟩
theorem nw_tab {w : Cond} (h : nwWord w = true) : w.onTables = true := by
  cases w <;> first | rfl | (simp [nwWord] at h)
theorem nw_warm {w : Cond} (hn : nwWord w = true) {s U : State} (hW : s.WarmedH U.vm) (h : va_Nw w s) : va_Nw w U := by
  cases w <;> first | exact va_Nw.warmC hW h | exact va_Nw.warmD hW h | exact va_Nw.warmF hW h | exact va_Nw.warmM hW h | (simp [nwWord] at hn)
/-! what is given of the start: statics, Strings, classes -/
abbrev gv_T : Type := Nat × (Nat → Nat) × Nat
def GV (g : gv_T) (A : Nat → Prop) (U : State) (H : Heap) : Prop :=
  (vx_Zq Bundle.tN "UNASSIGNED_STACK" Bundle.steD A U H ∧ vx_Zq Bundle.tN "SUPPRESSED_SENTINEL" Bundle.listD A U H) ∧
  (va_Z "java/util/ArrayList" "DEFAULTCAPACITY_EMPTY_ELEMENTDATA" "[Ljava/lang/Object;" (.ref g.1) A U H ∧ va_T (.object "java/lang/Object") g.1 0 (fun _ => .null) A U H) ∧
  (va_Z "java/lang/String" "COMPACT_STRINGS" "Z" (.int 1) A U H ∧ vk_S 1 [3] [[45, 112, 114]] (fun _ => g.2.1 0) (fun _ => g.2.2) A U H) ∧
  (∀ (i : Nat) (x : String × Nat × String), STR[i]? = some x → vk_R x.1 x.2.1 x.2.2 (g.2.1 i) U) ∧
  (∀ w ∈ NW, va_Nw w U) ∧ (∀ x ∈ NCL, va_Nc x.1 x.2 U) ∧ va_AO "java/lang/Object" U
theorem GV.warm {g : gv_T} {A : Nat → Prop} {s U : State} {H : Heap} (hW : s.WarmedH U.vm) (h : GV g A s H) : GV g A U H := by
  obtain ⟨⟨h1, h2⟩, ⟨h3, h4⟩, ⟨h5, h6⟩, h7, h8, h9, h10⟩ := h
  exact ⟨⟨vx_Zq.moved hW.alike h1, vx_Zq.moved hW.alike h2⟩, ⟨va_Z.moved hW.alike h3, va_T.moved hW.alike h4⟩, ⟨va_Z.moved hW.alike h5, vk_S.moved hW.alike h6⟩, fun i x hx => vk_R.warm hW (h7 i x hx), fun w hw => nw_warm (List.mem_filter.mp hw).2 hW (h8 w hw), fun x hx => va_Nc.moved hW.alike (h9 x hx), va_AO.moved hW.alike h10⟩
theorem GV.kept {g : gv_T} {A : Nat → Prop} {U : State} {H H1 : Heap} (h : GV g A U H) (hq : ∀ a : Nat, a < H.size → ¬ A a → H1[a]? = H[a]?) : GV g A U H1 := by
  obtain ⟨⟨h1, h2⟩, ⟨h3, h4⟩, ⟨h5, h6⟩, h7, h8, h9, h10⟩ := h
  exact ⟨⟨h1.kept hq, h2.kept hq⟩, ⟨h3.kept hq, h4.kept hq⟩, ⟨h5.kept hq, h6.kept hq⟩, h7, h8, h9, h10⟩
theorem GV.narrow {g : gv_T} {A B : Nat → Prop} {U : State} {H : Heap} (h : GV g A U H) (hAB : ∀ q, B q → A q) : GV g B U H := by
  obtain ⟨⟨h1, h2⟩, ⟨h3, h4⟩, ⟨h5, h6⟩, h7, h8, h9, h10⟩ := h
  exact ⟨⟨h1.narrow hAB, h2.narrow hAB⟩, ⟨h3.narrow hAB, h4.narrow hAB⟩, ⟨h5.narrow hAB, h6.narrow hAB⟩, h7, h8, h9, h10⟩
/-! contracts -/
abbrev TYS (cA : Nat → ClassId) : List (ClassId × FieldType) := [(cA 0, .int), (cA 1, .long), (cA 2, .char), (cA 3, .boolean), (cA 4, .object "java/lang/Object"), (cA 5, .double)]
def PcB (D : va_G) (cA : Nat → ClassId) (g : gv_T) (ws : va_W) (sz : Nat) (U : State) : Prop := U.heap.size = sz ∧ va_P D vwCl ws U.heap ∧ va_K D vwCl (TYS cA) U ∧ va_D (fun _ => True) ws ∧ GV g (va_A ws sz) U U.heap
abbrev PcG (D : va_G) (cA : Nat → ClassId) (g : gv_T) (av : List Value) (ws : va_W) (sz : Nat) : Array Value → State → Prop := va_Pc av (PcB D cA g ws sz)
theorem PcG.blind (D : va_G) (cA : Nat → ClassId) (g : gv_T) (av : List Value) (ws : va_W) (sz : Nat) : FrameBlind (PcG D cA g av ws sz) := by
  intro a U f mk h
  obtain ⟨h1, h2, h3, h4, h5, h6⟩ := h
  exact ⟨h1, h2, h3, va_K.moved (u := U) (U := U.calling f mk a) (Vm.Alike.refl U.vm) h4, h5, GV.warm (U := U.calling f mk a) (State.WarmedH.refl U) h6⟩
def QcG (D : va_G) (A : Nat → Prop) (rv : (Nat → Nat) → Option Value) (ws' : (Nat → Nat) → va_W) : Array Value → State → Outcome → State → Prop := fun _ st oc t => (∃ q : Nat → Nat, oc = .returned (rv q) ∧ va_P D vwCl (ws' q) t.heap ∧ va_D A (ws' q)) ∧ va_F A st t
def XcG (D : va_G) (A : Nat → Prop) (E : String) (ws' : (Nat → Nat) → va_W) : String → State → State → Prop := fun E' st t => E' = E ∧ (∃ q : Nat → Nat, va_P D vwCl (ws' q) t.heap ∧ va_D A (ws' q)) ∧ va_F A st t
abbrev RM (f c s n : Nat) : Room := { frames := f, cells := c, slots := s, locals := n }
def CT (l : Launch) (y : MethodName) (b : ByteArray) (n : Nat) (ret : Option FieldType) (R : Room) (D : va_G) (cA : Nat → ClassId) (g : gv_T) (av : List Value) (ws : va_W) (rv : (Nat → Nat) → Option Value) (ws' : (Nat → Nat) → va_W) : Prop :=
  ∀ sz : Nat, Met l y (.code y b n ret :: GW) R (PcG D cA g av ws sz) (QcG D (va_A ws sz) rv ws') R.cells R.slots (va_A ws sz)
def CX (l : Launch) (y : MethodName) (b : ByteArray) (n : Nat) (ret : Option FieldType) (R : Room) (D : va_G) (cA : Nat → ClassId) (g : gv_T) (av : List Value) (ws : va_W) (E : String) (ws' : (Nat → Nat) → va_W) : Prop :=
  ∀ sz : Nat, vx_Met l y (.code y b n ret :: GW) R (PcG D cA g av ws sz) (fun _ _ _ _ => False) (XcG D (va_A ws sz) E ws') R.cells R.slots (va_A ws sz)
/-- a method with a table of its own, that returns -/
def CW (l : Launch) (y : MethodName) (b : ByteArray) (n : Nat) (ret : Option FieldType) (hh : List (Nat × Nat × Nat × Nat)) (R : Room) (D : va_G) (cA : Nat → ClassId) (g : gv_T) (av : List Value) (ws : va_W) (rv : (Nat → Nat) → Option Value) (ws' : (Nat → Nat) → va_W) : Prop :=
  ∀ sz : Nat, Met l y (.codeWith y b n ret hh :: GW) R (PcG D cA g av ws sz) (QcG D (va_A ws sz) rv ws') R.cells R.slots (va_A ws sz)
section CTS
variable {l : Launch} {y : MethodName} {b : ByteArray} {n : Nat} {ret : Option FieldType} {R : Room} {D : va_G} {cA : Nat → ClassId} {g : gv_T} {av : List Value} {ws : va_W} {rv : (Nat → Nat) → Option Value} {ws' : (Nat → Nat) → va_W}
theorem CT.of (hy : plainName y.cls = true) (hn : (lg_sl av).length ≤ n)
    (body : ∀ (p : Program) (e : Env) (s : State) (m : MethodId) (args : Array Value) (below : List Frame) (meth : Method) (c : Code) (A : Nat → Prop) (ls : Array Slot),
      p.tables.exec = Jvm.exec → c.code = b → meth.sig.returnType = ret → c.maxLocals = n → s.vm.findClass y.cls = some m.cls → (∀ w ∈ GW, w.before args s = true) → meth.locks = false → meth.name = y.name →
      (∀ q : Nat, s.heap.size ≤ q → A q) → va_S A s.heap s.heap [] → va_P D vwCl ws s.heap → va_K D vwCl (TYS cA) s → va_D A ws → GV g A s s.heap → lv_has ls n (lv_args 0 av) →
      W p l e R s m args below meth c s.heap [] 0 0 (MQ below (QcG D A rv ws') args s R.cells R.slots A) (F0 m 0 ls [])) : CT l y b n ret R D cA g av ws rv ws' := by
  intro sz
  refine Met.ofW (cc := b) (maxL := n) (ret := ret) hy rfl ?_
  intro p e s m args below meth c s₁ B hml hv
  obtain ⟨rfl, hsz, hP, hK, hD0, hGV⟩ := hv
  subst hsz
  rw [lg_entry_eq]
  exact body p e s m _ below meth c _ _ B.exec B.bytes B.returns hml (findClass_of_methodNamed B.named) (fun w hw => atoms_spec (ws := .code y b n ret :: GW) B.pre w (List.mem_cons_of_mem _ hw)) B.notSynchronized (name_of_methodNamed B.named B.method).1 (fun q h => Or.inr h) va_S.rf hP hK (hD0.self (sz := s.heap.size)) hGV (lv_entry av hn)
theorem CX.of {E : String} (hy : plainName y.cls = true) (hn : (lg_sl av).length ≤ n)
    (body : ∀ (p : Program) (e : Env) (s : State) (m : MethodId) (args : Array Value) (below : List Frame) (meth : Method) (c : Code) (A : Nat → Prop) (ls : Array Slot),
      p.tables.exec = Jvm.exec → c.code = b → meth.sig.returnType = ret → c.maxLocals = n → s.vm.findClass y.cls = some m.cls → (∀ w ∈ GW, w.before args s = true) → meth.locks = false → (∀ x ∈ c.exceptionTable.toList, False) →
      (∀ q : Nat, s.heap.size ≤ q → A q) → va_S A s.heap s.heap [] → va_P D vwCl ws s.heap → va_K D vwCl (TYS cA) s → va_D A ws → GV g A s s.heap → lv_has ls n (lv_args 0 av) →
      W p l e R s m args below meth c s.heap [] 0 0 (vx_MQ below (fun _ _ _ _ => False) (XcG D A E ws') args s R.cells R.slots A) (F0 m 0 ls [])) : CX l y b n ret R D cA g av ws E ws' := by
  intro sz
  refine vx_ofW (cc := b) (maxL := n) (ret := ret) hy rfl ?_
  intro p e s m args below meth c s₁ B hml ht hv
  obtain ⟨rfl, hsz, hP, hK, hD0, hGV⟩ := hv
  subst hsz
  rw [lg_entry_eq]
  exact body p e s m _ below meth c _ _ B.exec B.bytes B.returns hml (findClass_of_methodNamed B.named) (fun w hw => atoms_spec (ws := .code y b n ret :: GW) B.pre w (List.mem_cons_of_mem _ hw)) B.notSynchronized ht (fun q h => Or.inr h) va_S.rf hP hK (hD0.self (sz := s.heap.size)) hGV (lv_entry av hn)
theorem CW.of {hh : List (Nat × Nat × Nat × Nat)} (hy : plainName y.cls = true) (hn : (lg_sl av).length ≤ n)
    (body : ∀ (p : Program) (e : Env) (s : State) (m : MethodId) (args : Array Value) (below : List Frame) (meth : Method) (c : Code) (A : Nat → Prop) (ls : Array Slot),
      p.tables.exec = Jvm.exec → c.code = b → meth.sig.returnType = ret → c.maxLocals = n → s.vm.findClass y.cls = some m.cls → (∀ w ∈ GW, w.before args s = true) → meth.locks = false → c.exceptionTable.toList = tableOf hh →
      (∀ q : Nat, s.heap.size ≤ q → A q) → va_S A s.heap s.heap [] → va_P D vwCl ws s.heap → va_K D vwCl (TYS cA) s → va_D A ws → GV g A s s.heap → lv_has ls n (lv_args 0 av) →
      W p l e R s m args below meth c s.heap [] 0 0 (MQ below (QcG D A rv ws') args s R.cells R.slots A) (F0 m 0 ls [])) : CW l y b n ret hh R D cA g av ws rv ws' := by
  intro sz
  refine va_MetW (cc := b) (maxL := n) (ret := ret) (hh := hh) hy rfl ?_
  intro p e s m args below meth c s₁ B hml hv
  obtain ⟨rfl, hsz, hP, hK, hD0, hGV⟩ := hv
  subst hsz
  rw [lg_entry_eq]
  exact body p e s m _ below meth c _ _ B.exec B.bytes B.returns hml (findClass_of_methodNamed B.named) (fun w hw => atoms_spec (ws := .codeWith y b n ret hh :: GW) B.pre w (List.mem_cons_of_mem _ hw)) B.notSynchronized (vx_table (x := y) B (atoms_spec (ws := .codeWith y b n ret hh :: GW) B.pre _ List.mem_cons_self)) (fun q h => Or.inr h) va_S.rf hP hK (hD0.self (sz := s.heap.size)) hGV (lv_entry av hn)
end CTS
theorem goV {own C : String} {idx n : Nat} {y : MethodName} {b : ByteArray} {r : Option FieldType} (h1 : Cond.methodLink own idx y ∈ GW) (h2 : Cond.instanceMethod y ∈ GW) (h3 : Cond.selects C y y ∈ GW) (h4 : Cond.initialized C ∈ GW) (h5 : Cond.code y b n r ∈ GW) : GoodIn GW (wsV own idx C y (.code y b n r :: GW)) := by
  intro w hw
  have hm : w ∈ GW := by
    unfold wsV at hw
    simp only [List.cons_append, List.nil_append, List.mem_cons] at hw
    rcases hw with rfl | rfl | rfl | rfl | rfl | hw <;> assumption
  exact ⟨hm, gw_good hm⟩
theorem goS {own : String} {idx n : Nat} {y : MethodName} {b : ByteArray} {r : Option FieldType} (h1 : Cond.methodLink own idx y ∈ GW) (h2 : Cond.static y ∈ GW) (h4 : Cond.initialized y.cls ∈ GW) (h5 : Cond.code y b n r ∈ GW) : GoodIn GW (va_wsS own idx y (.code y b n r :: GW)) := by
  intro w hw
  have hm : w ∈ GW := by
    unfold va_wsS at hw
    simp only [List.cons_append, List.nil_append, List.mem_cons] at hw
    rcases hw with rfl | rfl | rfl | rfl | hw <;> assumption
  exact ⟨hm, gw_good hm⟩
theorem goSW {own : String} {idx n : Nat} {y : MethodName} {b : ByteArray} {r : Option FieldType} {hh : List (Nat × Nat × Nat × Nat)} (h1 : Cond.methodLink own idx y ∈ GW) (h2 : Cond.static y ∈ GW) (h4 : Cond.initialized y.cls ∈ GW) (h5 : Cond.codeWith y b n r hh ∈ GW) : GoodIn GW (va_wsS own idx y (.codeWith y b n r hh :: GW)) := by
  intro w hw
  have hm : w ∈ GW := by
    unfold va_wsS at hw
    simp only [List.cons_append, List.nil_append, List.mem_cons] at hw
    rcases hw with rfl | rfl | rfl | rfl | hw <;> assumption
  exact ⟨hm, gw_good hm⟩
theorem goC {n : Nat} {y : MethodName} {b : ByteArray} {r : Option FieldType} (h5 : Cond.code y b n r ∈ GW) : GoodIn GW (.code y b n r :: GW) := by
  intro w hw
  have hm : w ∈ GW := by
    rcases List.mem_cons.mp hw with rfl | hw <;> assumption
  exact ⟨hm, gw_good hm⟩
/-! rows, with what is known put in -/
section KR
variable {p : Program} {l : Launch} {e : Env} {R : Room} {s : State} {m : MethodId} {args : Array Value} {below : List Frame} {meth : Method} {c : Code} {H : Heap} {locs : List Loc} {cells slots : Nat} {Q : State → Prop}
variable {cc : ByteArray} {pc : Nat} {ls : Array Slot} {rest : List Value} {D : va_G} {cA : Nat → ClassId} {A : Nat → Prop} {a : Nat} {ws : va_W}
theorem k_iadd (hx : p.tables.exec = Jvm.exec) (hb : c.code = cc) {x y v : Int32} (d : decode cc pc = .ok (.iadd, 1)) (hv : x + y = v) (k : W p l e R s m args below meth c H locs cells slots Q (F0 m (pc + 1) ls (.int v :: rest))) : W p l e R s m args below meth c H locs cells slots Q (F0 m pc ls (.int y :: .int x :: rest)) := lv_iadd hx hb d (by rw [hv]; exact k)
theorem k_isub (hx : p.tables.exec = Jvm.exec) (hb : c.code = cc) {x y v : Int32} (d : decode cc pc = .ok (.isub, 1)) (hv : x - y = v) (k : W p l e R s m args below meth c H locs cells slots Q (F0 m (pc + 1) ls (.int v :: rest))) : W p l e R s m args below meth c H locs cells slots Q (F0 m pc ls (.int y :: .int x :: rest)) := lv_isub hx hb d (by rw [hv]; exact k)
theorem k_imul (hx : p.tables.exec = Jvm.exec) (hb : c.code = cc) {x y v : Int32} (d : decode cc pc = .ok (.imul, 1)) (hv : x * y = v) (k : W p l e R s m args below meth c H locs cells slots Q (F0 m (pc + 1) ls (.int v :: rest))) : W p l e R s m args below meth c H locs cells slots Q (F0 m pc ls (.int y :: .int x :: rest)) := lv_imul hx hb d (by rw [hv]; exact k)
theorem k_iand (hx : p.tables.exec = Jvm.exec) (hb : c.code = cc) {x y v : Int32} (d : decode cc pc = .ok (.iand, 1)) (hv : x &&& y = v) (k : W p l e R s m args below meth c H locs cells slots Q (F0 m (pc + 1) ls (.int v :: rest))) : W p l e R s m args below meth c H locs cells slots Q (F0 m pc ls (.int y :: .int x :: rest)) := lv_iand hx hb d (by rw [hv]; exact k)
theorem k_ior (hx : p.tables.exec = Jvm.exec) (hb : c.code = cc) {x y v : Int32} (d : decode cc pc = .ok (.ior, 1)) (hv : x ||| y = v) (k : W p l e R s m args below meth c H locs cells slots Q (F0 m (pc + 1) ls (.int v :: rest))) : W p l e R s m args below meth c H locs cells slots Q (F0 m pc ls (.int y :: .int x :: rest)) := lv_ior hx hb d (by rw [hv]; exact k)
theorem k_ixor (hx : p.tables.exec = Jvm.exec) (hb : c.code = cc) {x y v : Int32} (d : decode cc pc = .ok (.ixor, 1)) (hv : x ^^^ y = v) (k : W p l e R s m args below meth c H locs cells slots Q (F0 m (pc + 1) ls (.int v :: rest))) : W p l e R s m args below meth c H locs cells slots Q (F0 m pc ls (.int y :: .int x :: rest)) := lv_ixor hx hb d (by rw [hv]; exact k)
theorem k_ishl (hx : p.tables.exec = Jvm.exec) (hb : c.code = cc) {x y v : Int32} (d : decode cc pc = .ok (.ishl, 1)) (hv : x <<< (y &&& 31) = v) (k : W p l e R s m args below meth c H locs cells slots Q (F0 m (pc + 1) ls (.int v :: rest))) : W p l e R s m args below meth c H locs cells slots Q (F0 m pc ls (.int y :: .int x :: rest)) := lv_ishl hx hb d (by rw [hv]; exact k)
theorem k_ishr (hx : p.tables.exec = Jvm.exec) (hb : c.code = cc) {x y v : Int32} (d : decode cc pc = .ok (.ishr, 1)) (hv : x >>> (y &&& 31) = v) (k : W p l e R s m args below meth c H locs cells slots Q (F0 m (pc + 1) ls (.int v :: rest))) : W p l e R s m args below meth c H locs cells slots Q (F0 m pc ls (.int y :: .int x :: rest)) := lv_ishr hx hb d (by rw [hv]; exact k)
theorem k_ladd (hx : p.tables.exec = Jvm.exec) (hb : c.code = cc) {x y v : Int64} (d : decode cc pc = .ok (.ladd, 1)) (hv : x + y = v) (k : W p l e R s m args below meth c H locs cells slots Q (F0 m (pc + 1) ls (.long v :: rest))) : W p l e R s m args below meth c H locs cells slots Q (F0 m pc ls (.long y :: .long x :: rest)) := lv_ladd hx hb d (by rw [hv]; exact k)
theorem k_lsub (hx : p.tables.exec = Jvm.exec) (hb : c.code = cc) {x y v : Int64} (d : decode cc pc = .ok (.lsub, 1)) (hv : x - y = v) (k : W p l e R s m args below meth c H locs cells slots Q (F0 m (pc + 1) ls (.long v :: rest))) : W p l e R s m args below meth c H locs cells slots Q (F0 m pc ls (.long y :: .long x :: rest)) := lv_lsub hx hb d (by rw [hv]; exact k)
theorem k_lmul (hx : p.tables.exec = Jvm.exec) (hb : c.code = cc) {x y v : Int64} (d : decode cc pc = .ok (.lmul, 1)) (hv : x * y = v) (k : W p l e R s m args below meth c H locs cells slots Q (F0 m (pc + 1) ls (.long v :: rest))) : W p l e R s m args below meth c H locs cells slots Q (F0 m pc ls (.long y :: .long x :: rest)) := lv_lmul hx hb d (by rw [hv]; exact k)
theorem k_land (hx : p.tables.exec = Jvm.exec) (hb : c.code = cc) {x y v : Int64} (d : decode cc pc = .ok (.land, 1)) (hv : x &&& y = v) (k : W p l e R s m args below meth c H locs cells slots Q (F0 m (pc + 1) ls (.long v :: rest))) : W p l e R s m args below meth c H locs cells slots Q (F0 m pc ls (.long y :: .long x :: rest)) := lv_land hx hb d (by rw [hv]; exact k)
theorem k_idiv (hx : p.tables.exec = Jvm.exec) (hb : c.code = cc) {x y v : Int32} (d : decode cc pc = .ok (.idiv, 1)) (hne : ¬ y = 0) (hv : x / y = v) (k : W p l e R s m args below meth c H locs cells slots Q (F0 m (pc + 1) ls (.int v :: rest))) : W p l e R s m args below meth c H locs cells slots Q (F0 m pc ls (.int y :: .int x :: rest)) := lv_idiv hx hb d hne (by rw [hv]; exact k)
theorem k_irem (hx : p.tables.exec = Jvm.exec) (hb : c.code = cc) {x y v : Int32} (d : decode cc pc = .ok (.irem, 1)) (hne : ¬ y = 0) (hv : x - x / y * y = v) (k : W p l e R s m args below meth c H locs cells slots Q (F0 m (pc + 1) ls (.int v :: rest))) : W p l e R s m args below meth c H locs cells slots Q (F0 m pc ls (.int y :: .int x :: rest)) := lv_irem hx hb d hne (by rw [hv]; exact k)
theorem k_ldiv (hx : p.tables.exec = Jvm.exec) (hb : c.code = cc) {x y v : Int64} (d : decode cc pc = .ok (.ldiv, 1)) (hne : ¬ y = 0) (hv : x / y = v) (k : W p l e R s m args below meth c H locs cells slots Q (F0 m (pc + 1) ls (.long v :: rest))) : W p l e R s m args below meth c H locs cells slots Q (F0 m pc ls (.long y :: .long x :: rest)) := lv_ldiv hx hb d hne (by rw [hv]; exact k)
theorem k_lrem (hx : p.tables.exec = Jvm.exec) (hb : c.code = cc) {x y v : Int64} (d : decode cc pc = .ok (.lrem, 1)) (hne : ¬ y = 0) (hv : x - x / y * y = v) (k : W p l e R s m args below meth c H locs cells slots Q (F0 m (pc + 1) ls (.long v :: rest))) : W p l e R s m args below meth c H locs cells slots Q (F0 m pc ls (.long y :: .long x :: rest)) := lv_lrem hx hb d hne (by rw [hv]; exact k)
theorem k_lcmp (hx : p.tables.exec = Jvm.exec) (hb : c.code = cc) {x y : Int64} {v : Int32} (d : decode cc pc = .ok (.lcmp, 1)) (hv : lg_cmp x y = v) (k : W p l e R s m args below meth c H locs cells slots Q (F0 m (pc + 1) ls (.int v :: rest))) : W p l e R s m args below meth c H locs cells slots Q (F0 m pc ls (.long y :: .long x :: rest)) := W.lcmp hx hb d (by rw [hv]; exact k)
theorem k_if_eq_t (hx : p.tables.exec = Jvm.exec) (hb : c.code = cc) {x : Int32} {off : Int} {tgt : Nat} (d : decode cc pc = .ok (.ifCond .eq off, 3)) (h : x = 0) (ht : (pc : Int) + off = (tgt : Int)) (k : W p l e R s m args below meth c H locs cells slots Q (F0 m tgt ls rest)) : W p l e R s m args below meth c H locs cells slots Q (F0 m pc ls (.int x :: rest)) := lv_if_eq hx hb d ht (fun _ => k) (fun q => absurd h q)
theorem k_if_eq_f (hx : p.tables.exec = Jvm.exec) (hb : c.code = cc) {x : Int32} {off : Int} {tgt : Nat} (d : decode cc pc = .ok (.ifCond .eq off, 3)) (h : ¬ x = 0) (ht : (pc : Int) + off = (tgt : Int)) (k : W p l e R s m args below meth c H locs cells slots Q (F0 m (pc + 3) ls rest)) : W p l e R s m args below meth c H locs cells slots Q (F0 m pc ls (.int x :: rest)) := lv_if_eq hx hb d ht (fun q => absurd q h) (fun _ => k)
theorem k_icmp_eq_t (hx : p.tables.exec = Jvm.exec) (hb : c.code = cc) {x y : Int32} {off : Int} {tgt : Nat} (d : decode cc pc = .ok (.if_icmp .eq off, 3)) (h : x = y) (ht : (pc : Int) + off = (tgt : Int)) (k : W p l e R s m args below meth c H locs cells slots Q (F0 m tgt ls rest)) : W p l e R s m args below meth c H locs cells slots Q (F0 m pc ls (.int y :: .int x :: rest)) := lv_icmp_eq hx hb d ht (fun _ => k) (fun q => absurd h q)
theorem k_icmp_eq_f (hx : p.tables.exec = Jvm.exec) (hb : c.code = cc) {x y : Int32} {off : Int} {tgt : Nat} (d : decode cc pc = .ok (.if_icmp .eq off, 3)) (h : ¬ x = y) (ht : (pc : Int) + off = (tgt : Int)) (k : W p l e R s m args below meth c H locs cells slots Q (F0 m (pc + 3) ls rest)) : W p l e R s m args below meth c H locs cells slots Q (F0 m pc ls (.int y :: .int x :: rest)) := lv_icmp_eq hx hb d ht (fun q => absurd q h) (fun _ => k)
theorem k_if_ne_t (hx : p.tables.exec = Jvm.exec) (hb : c.code = cc) {x : Int32} {off : Int} {tgt : Nat} (d : decode cc pc = .ok (.ifCond .ne off, 3)) (h : ¬ x = 0) (ht : (pc : Int) + off = (tgt : Int)) (k : W p l e R s m args below meth c H locs cells slots Q (F0 m tgt ls rest)) : W p l e R s m args below meth c H locs cells slots Q (F0 m pc ls (.int x :: rest)) := lv_if_ne hx hb d ht (fun _ => k) (fun q => absurd q h)
theorem k_if_ne_f (hx : p.tables.exec = Jvm.exec) (hb : c.code = cc) {x : Int32} {off : Int} {tgt : Nat} (d : decode cc pc = .ok (.ifCond .ne off, 3)) (h : x = 0) (ht : (pc : Int) + off = (tgt : Int)) (k : W p l e R s m args below meth c H locs cells slots Q (F0 m (pc + 3) ls rest)) : W p l e R s m args below meth c H locs cells slots Q (F0 m pc ls (.int x :: rest)) := lv_if_ne hx hb d ht (fun q => absurd h q) (fun _ => k)
theorem k_icmp_ne_t (hx : p.tables.exec = Jvm.exec) (hb : c.code = cc) {x y : Int32} {off : Int} {tgt : Nat} (d : decode cc pc = .ok (.if_icmp .ne off, 3)) (h : ¬ x = y) (ht : (pc : Int) + off = (tgt : Int)) (k : W p l e R s m args below meth c H locs cells slots Q (F0 m tgt ls rest)) : W p l e R s m args below meth c H locs cells slots Q (F0 m pc ls (.int y :: .int x :: rest)) := lv_icmp_ne hx hb d ht (fun _ => k) (fun q => absurd q h)
theorem k_icmp_ne_f (hx : p.tables.exec = Jvm.exec) (hb : c.code = cc) {x y : Int32} {off : Int} {tgt : Nat} (d : decode cc pc = .ok (.if_icmp .ne off, 3)) (h : x = y) (ht : (pc : Int) + off = (tgt : Int)) (k : W p l e R s m args below meth c H locs cells slots Q (F0 m (pc + 3) ls rest)) : W p l e R s m args below meth c H locs cells slots Q (F0 m pc ls (.int y :: .int x :: rest)) := lv_icmp_ne hx hb d ht (fun q => absurd h q) (fun _ => k)
theorem k_if_lt_t (hx : p.tables.exec = Jvm.exec) (hb : c.code = cc) {x : Int32} {off : Int} {tgt : Nat} (d : decode cc pc = .ok (.ifCond .lt off, 3)) (h : x < 0) (ht : (pc : Int) + off = (tgt : Int)) (k : W p l e R s m args below meth c H locs cells slots Q (F0 m tgt ls rest)) : W p l e R s m args below meth c H locs cells slots Q (F0 m pc ls (.int x :: rest)) := lv_if_lt hx hb d ht (fun _ => k) (fun q => absurd h q)
theorem k_if_lt_f (hx : p.tables.exec = Jvm.exec) (hb : c.code = cc) {x : Int32} {off : Int} {tgt : Nat} (d : decode cc pc = .ok (.ifCond .lt off, 3)) (h : ¬ x < 0) (ht : (pc : Int) + off = (tgt : Int)) (k : W p l e R s m args below meth c H locs cells slots Q (F0 m (pc + 3) ls rest)) : W p l e R s m args below meth c H locs cells slots Q (F0 m pc ls (.int x :: rest)) := lv_if_lt hx hb d ht (fun q => absurd q h) (fun _ => k)
theorem k_icmp_lt_t (hx : p.tables.exec = Jvm.exec) (hb : c.code = cc) {x y : Int32} {off : Int} {tgt : Nat} (d : decode cc pc = .ok (.if_icmp .lt off, 3)) (h : x < y) (ht : (pc : Int) + off = (tgt : Int)) (k : W p l e R s m args below meth c H locs cells slots Q (F0 m tgt ls rest)) : W p l e R s m args below meth c H locs cells slots Q (F0 m pc ls (.int y :: .int x :: rest)) := lv_icmp_lt hx hb d ht (fun _ => k) (fun q => absurd h q)
theorem k_icmp_lt_f (hx : p.tables.exec = Jvm.exec) (hb : c.code = cc) {x y : Int32} {off : Int} {tgt : Nat} (d : decode cc pc = .ok (.if_icmp .lt off, 3)) (h : ¬ x < y) (ht : (pc : Int) + off = (tgt : Int)) (k : W p l e R s m args below meth c H locs cells slots Q (F0 m (pc + 3) ls rest)) : W p l e R s m args below meth c H locs cells slots Q (F0 m pc ls (.int y :: .int x :: rest)) := lv_icmp_lt hx hb d ht (fun q => absurd q h) (fun _ => k)
theorem k_if_ge_t (hx : p.tables.exec = Jvm.exec) (hb : c.code = cc) {x : Int32} {off : Int} {tgt : Nat} (d : decode cc pc = .ok (.ifCond .ge off, 3)) (h : 0 ≤ x) (ht : (pc : Int) + off = (tgt : Int)) (k : W p l e R s m args below meth c H locs cells slots Q (F0 m tgt ls rest)) : W p l e R s m args below meth c H locs cells slots Q (F0 m pc ls (.int x :: rest)) := lv_if_ge hx hb d ht (fun _ => k) (fun q => absurd h q)
theorem k_if_ge_f (hx : p.tables.exec = Jvm.exec) (hb : c.code = cc) {x : Int32} {off : Int} {tgt : Nat} (d : decode cc pc = .ok (.ifCond .ge off, 3)) (h : ¬ 0 ≤ x) (ht : (pc : Int) + off = (tgt : Int)) (k : W p l e R s m args below meth c H locs cells slots Q (F0 m (pc + 3) ls rest)) : W p l e R s m args below meth c H locs cells slots Q (F0 m pc ls (.int x :: rest)) := lv_if_ge hx hb d ht (fun q => absurd q h) (fun _ => k)
theorem k_icmp_ge_t (hx : p.tables.exec = Jvm.exec) (hb : c.code = cc) {x y : Int32} {off : Int} {tgt : Nat} (d : decode cc pc = .ok (.if_icmp .ge off, 3)) (h : y ≤ x) (ht : (pc : Int) + off = (tgt : Int)) (k : W p l e R s m args below meth c H locs cells slots Q (F0 m tgt ls rest)) : W p l e R s m args below meth c H locs cells slots Q (F0 m pc ls (.int y :: .int x :: rest)) := lv_icmp_ge hx hb d ht (fun _ => k) (fun q => absurd h q)
theorem k_icmp_ge_f (hx : p.tables.exec = Jvm.exec) (hb : c.code = cc) {x y : Int32} {off : Int} {tgt : Nat} (d : decode cc pc = .ok (.if_icmp .ge off, 3)) (h : ¬ y ≤ x) (ht : (pc : Int) + off = (tgt : Int)) (k : W p l e R s m args below meth c H locs cells slots Q (F0 m (pc + 3) ls rest)) : W p l e R s m args below meth c H locs cells slots Q (F0 m pc ls (.int y :: .int x :: rest)) := lv_icmp_ge hx hb d ht (fun q => absurd q h) (fun _ => k)
theorem k_if_gt_t (hx : p.tables.exec = Jvm.exec) (hb : c.code = cc) {x : Int32} {off : Int} {tgt : Nat} (d : decode cc pc = .ok (.ifCond .gt off, 3)) (h : 0 < x) (ht : (pc : Int) + off = (tgt : Int)) (k : W p l e R s m args below meth c H locs cells slots Q (F0 m tgt ls rest)) : W p l e R s m args below meth c H locs cells slots Q (F0 m pc ls (.int x :: rest)) := lv_if_gt hx hb d ht (fun _ => k) (fun q => absurd h q)
theorem k_if_gt_f (hx : p.tables.exec = Jvm.exec) (hb : c.code = cc) {x : Int32} {off : Int} {tgt : Nat} (d : decode cc pc = .ok (.ifCond .gt off, 3)) (h : ¬ 0 < x) (ht : (pc : Int) + off = (tgt : Int)) (k : W p l e R s m args below meth c H locs cells slots Q (F0 m (pc + 3) ls rest)) : W p l e R s m args below meth c H locs cells slots Q (F0 m pc ls (.int x :: rest)) := lv_if_gt hx hb d ht (fun q => absurd q h) (fun _ => k)
theorem k_icmp_gt_t (hx : p.tables.exec = Jvm.exec) (hb : c.code = cc) {x y : Int32} {off : Int} {tgt : Nat} (d : decode cc pc = .ok (.if_icmp .gt off, 3)) (h : y < x) (ht : (pc : Int) + off = (tgt : Int)) (k : W p l e R s m args below meth c H locs cells slots Q (F0 m tgt ls rest)) : W p l e R s m args below meth c H locs cells slots Q (F0 m pc ls (.int y :: .int x :: rest)) := lv_icmp_gt hx hb d ht (fun _ => k) (fun q => absurd h q)
theorem k_icmp_gt_f (hx : p.tables.exec = Jvm.exec) (hb : c.code = cc) {x y : Int32} {off : Int} {tgt : Nat} (d : decode cc pc = .ok (.if_icmp .gt off, 3)) (h : ¬ y < x) (ht : (pc : Int) + off = (tgt : Int)) (k : W p l e R s m args below meth c H locs cells slots Q (F0 m (pc + 3) ls rest)) : W p l e R s m args below meth c H locs cells slots Q (F0 m pc ls (.int y :: .int x :: rest)) := lv_icmp_gt hx hb d ht (fun q => absurd q h) (fun _ => k)
theorem k_if_le_t (hx : p.tables.exec = Jvm.exec) (hb : c.code = cc) {x : Int32} {off : Int} {tgt : Nat} (d : decode cc pc = .ok (.ifCond .le off, 3)) (h : x ≤ 0) (ht : (pc : Int) + off = (tgt : Int)) (k : W p l e R s m args below meth c H locs cells slots Q (F0 m tgt ls rest)) : W p l e R s m args below meth c H locs cells slots Q (F0 m pc ls (.int x :: rest)) := lv_if_le hx hb d ht (fun _ => k) (fun q => absurd h q)
theorem k_if_le_f (hx : p.tables.exec = Jvm.exec) (hb : c.code = cc) {x : Int32} {off : Int} {tgt : Nat} (d : decode cc pc = .ok (.ifCond .le off, 3)) (h : ¬ x ≤ 0) (ht : (pc : Int) + off = (tgt : Int)) (k : W p l e R s m args below meth c H locs cells slots Q (F0 m (pc + 3) ls rest)) : W p l e R s m args below meth c H locs cells slots Q (F0 m pc ls (.int x :: rest)) := lv_if_le hx hb d ht (fun q => absurd q h) (fun _ => k)
theorem k_icmp_le_t (hx : p.tables.exec = Jvm.exec) (hb : c.code = cc) {x y : Int32} {off : Int} {tgt : Nat} (d : decode cc pc = .ok (.if_icmp .le off, 3)) (h : x ≤ y) (ht : (pc : Int) + off = (tgt : Int)) (k : W p l e R s m args below meth c H locs cells slots Q (F0 m tgt ls rest)) : W p l e R s m args below meth c H locs cells slots Q (F0 m pc ls (.int y :: .int x :: rest)) := lv_icmp_le hx hb d ht (fun _ => k) (fun q => absurd h q)
theorem k_icmp_le_f (hx : p.tables.exec = Jvm.exec) (hb : c.code = cc) {x y : Int32} {off : Int} {tgt : Nat} (d : decode cc pc = .ok (.if_icmp .le off, 3)) (h : ¬ x ≤ y) (ht : (pc : Int) + off = (tgt : Int)) (k : W p l e R s m args below meth c H locs cells slots Q (F0 m (pc + 3) ls rest)) : W p l e R s m args below meth c H locs cells slots Q (F0 m pc ls (.int y :: .int x :: rest)) := lv_icmp_le hx hb d ht (fun q => absurd q h) (fun _ => k)
theorem k_acmp_eq_t (hx : p.tables.exec = Jvm.exec) (hb : c.code = cc) {x y : Nat} {off : Int} {tgt : Nat} (d : decode cc pc = .ok (.if_acmp .eq off, 3)) (h : x = y) (ht : (pc : Int) + off = (tgt : Int)) (k : W p l e R s m args below meth c H locs cells slots Q (F0 m tgt ls rest)) : W p l e R s m args below meth c H locs cells slots Q (F0 m pc ls (.ref y :: .ref x :: rest)) := lv_acmp_eq (rx := some x) (ry := some y) hx hb d ht (fun _ => k) (fun q => absurd (by rw [h]) q)
theorem k_get (hx : p.tables.exec = Jvm.exec) (hb : c.code = cc) {own C : String} {T : u_T} {N ci index : Nat} (hG : ∀ w ∈ GW, w.before args s = true) (hin : ∀ w ∈ u_ws C T N, w ∈ GW) (hown : s.vm.findClass own = some m.cls) (hK : va_K D vwCl (TYS cA) s) (hP : va_P D vwCl ws H) (q0 : Nat) {fs : List Value} (he : ws[q0]? = some (a, .inr (ci, fs))) (hc : vwCl[ci]? = some (C, T, N)) (k : Nat) (hk : k < N) (hlink : Cond.fieldLink own index (T k).1 (T k).2.1 (T k).2.2.1 ∈ GW) {v : Value} (hv : fs[k]? = some v) (d : decode cc pc = .ok (.getfield index, 3))
    (kk : W p l e R s m args below meth c H locs cells slots Q (F0 m (pc + 3) ls (v :: rest))) : W p l e R s m args below meth c H locs cells slots Q (F0 m pc ls (.ref a :: rest)) := va_get hx hb hG hin hown hK hP q0 he hc k hk (hG _ hlink) (fun _ h => h) hv d kk
theorem k_getR (hx : p.tables.exec = Jvm.exec) (hb : c.code = cc) {own ref C : String} {T : u_T} {N ci index : Nat} (hG : ∀ w ∈ GW, w.before args s = true) (hin : ∀ w ∈ u_ws C T N, w ∈ GW) (hown : s.vm.findClass own = some m.cls) (hK : va_K D vwCl (TYS cA) s) (hP : va_P D vwCl ws H) (q0 : Nat) {fs : List Value} (he : ws[q0]? = some (a, .inr (ci, fs))) (hc : vwCl[ci]? = some (C, T, N)) (k : Nat) (hk : k < N) (hlink : Cond.fieldLink own index ref (T k).2.1 (T k).2.2.1 ∈ GW) (hsame : Cond.sameField ref (T k).1 (T k).2.1 (T k).2.2.1 ∈ GW) {v : Value} (hv : fs[k]? = some v) (d : decode cc pc = .ok (.getfield index, 3))
    (kk : W p l e R s m args below meth c H locs cells slots Q (F0 m (pc + 3) ls (v :: rest))) : W p l e R s m args below meth c H locs cells slots Q (F0 m pc ls (.ref a :: rest)) := va_get hx hb hG hin hown hK hP q0 he hc k hk (hG _ hlink) (u_same (hG _ hsame)) hv d kk
theorem k_getN (hx : p.tables.exec = Jvm.exec) (hb : c.code = cc) {own C host : String} {T : u_T} {N ci index : Nat} (hG : ∀ w ∈ GW, w.before args s = true) (hin : ∀ w ∈ u_ws C T N, w ∈ GW) (hown : s.vm.findClass own = some m.cls) (hK : va_K D vwCl (TYS cA) s) (hP : va_P D vwCl ws H) (hN : ∀ w ∈ NW, va_Nw w s) (q0 : Nat) {fs : List Value} (he : ws[q0]? = some (a, .inr (ci, fs))) (hc : vwCl[ci]? = some (C, T, N)) (k : Nat) (hk : k < N) (hlink : Cond.fieldLinkNest own index (T k).1 (T k).2.1 (T k).2.2.1 host ∈ NW) {v : Value} (hv : fs[k]? = some v) (d : decode cc pc = .ok (.getfield index, 3))
    (kk : W p l e R s m args below meth c H locs cells slots Q (F0 m (pc + 3) ls (v :: rest))) : W p l e R s m args below meth c H locs cells slots Q (F0 m pc ls (.ref a :: rest)) := va_getN hx hb hG hin hown hK hP q0 he hc k hk (va_Nw.use rfl (hN _ hlink)) (fun _ h => h) hv d kk
theorem k_put (hx : p.tables.exec = Jvm.exec) (hb : c.code = cc) {own C : String} {T : u_T} {N ci index : Nat} (hG : ∀ w ∈ GW, w.before args s = true) (hin : ∀ w ∈ u_ws C T N, w ∈ GW) (ty0 : Nat → FieldType) (hty : ∀ k, k < N → parseFieldDescriptor (T k).2.2.1 = some (ty0 k)) (hnm : ∀ a, a < N → ∀ b, b < N → a ≠ b → (T a).2.1 ≠ (T b).2.1) (hown : s.vm.findClass own = some m.cls) (hK : va_K D vwCl (TYS cA) s) (hP : va_P D vwCl ws H) (hD : va_D A ws) (hS : va_S A s.heap H locs) (q0 : Nat) {fs : List Value} (he : ws[q0]? = some (a, .inr (ci, fs))) (hc : vwCl[ci]? = some (C, T, N)) (k : Nat) (hk : k < N) (hlink : Cond.fieldLink own index (T k).1 (T k).2.1 (T k).2.2.1 ∈ GW) (hfin : (T k).2.2.2 = false) {v : Value} (hfit : narrow (ty0 k) v = v ∧ fits (ty0 k) v = true) {ws1 : va_W} (hw : ws.set q0 (a, .inr (ci, fs.set k v)) = ws1) (hl : k < fs.length) (d : decode cc pc = .ok (.putfield index, 3))
    (kk : ∀ (H1 : Heap) (locs1 : List Loc), va_P D vwCl ws1 H1 → va_D A ws1 → va_S A s.heap H1 locs1 → W p l e R s m args below meth c H1 locs1 cells slots Q (F0 m (pc + 3) ls rest)) : W p l e R s m args below meth c H locs cells slots Q (F0 m pc ls (v :: .ref a :: rest)) := by
  subst hw
  exact va_put hx hb hG hin ty0 hty hnm hown hK hP hD hS q0 he hc k hk (hG _ hlink) (fun _ h => h) hfin (hty k hk) hfit.1 hfit.2 hl d kk
theorem k_putF (hx : p.tables.exec = Jvm.exec) (hb : c.code = cc) {own C : String} {T : u_T} {N ci index : Nat} (hG : ∀ w ∈ GW, w.before args s = true) (hin : ∀ w ∈ u_ws C T N, w ∈ GW) (ty0 : Nat → FieldType) (hty : ∀ k, k < N → parseFieldDescriptor (T k).2.2.1 = some (ty0 k)) (hnm : ∀ a, a < N → ∀ b, b < N → a ≠ b → (T a).2.1 ≠ (T b).2.1) (hown : s.vm.findClass own = some m.cls) (hK : va_K D vwCl (TYS cA) s) (hP : va_P D vwCl ws H) (hD : va_D A ws) (hS : va_S A s.heap H locs) (q0 : Nat) {fs : List Value} (he : ws[q0]? = some (a, .inr (ci, fs))) (hc : vwCl[ci]? = some (C, T, N)) (k : Nat) (hk : k < N) (hlink : Cond.fieldLink own index (T k).1 (T k).2.1 (T k).2.2.1 ∈ GW) (hfin : (T k).2.2.2 = true) (hin2 : meth.name = "<init>") (hdecl : (T k).1 = own) {v : Value} (hfit : narrow (ty0 k) v = v ∧ fits (ty0 k) v = true) {ws1 : va_W} (hw : ws.set q0 (a, .inr (ci, fs.set k v)) = ws1) (hl : k < fs.length) (d : decode cc pc = .ok (.putfield index, 3))
    (kk : ∀ (H1 : Heap) (locs1 : List Loc), va_P D vwCl ws1 H1 → va_D A ws1 → va_S A s.heap H1 locs1 → W p l e R s m args below meth c H1 locs1 cells slots Q (F0 m (pc + 3) ls rest)) : W p l e R s m args below meth c H locs cells slots Q (F0 m pc ls (v :: .ref a :: rest)) := by
  subst hw
  exact va_putF hx hb hG hin ty0 hty hnm hown hK hP hD hS q0 he hc k hk (hG _ hlink) (fun _ h => h) hfin hin2 hdecl (hty k hk) hfit.1 hfit.2 hl d kk
theorem k_putN (hx : p.tables.exec = Jvm.exec) (hb : c.code = cc) {own C host : String} {T : u_T} {N ci index : Nat} (hG : ∀ w ∈ GW, w.before args s = true) (hin : ∀ w ∈ u_ws C T N, w ∈ GW) (ty0 : Nat → FieldType) (hty : ∀ k, k < N → parseFieldDescriptor (T k).2.2.1 = some (ty0 k)) (hnm : ∀ a, a < N → ∀ b, b < N → a ≠ b → (T a).2.1 ≠ (T b).2.1) (hown : s.vm.findClass own = some m.cls) (hK : va_K D vwCl (TYS cA) s) (hP : va_P D vwCl ws H) (hD : va_D A ws) (hS : va_S A s.heap H locs) (q0 : Nat) {fs : List Value} (he : ws[q0]? = some (a, .inr (ci, fs))) (hc : vwCl[ci]? = some (C, T, N)) (k : Nat) (hk : k < N) (hN : ∀ w ∈ NW, va_Nw w s) (hlink : Cond.fieldLinkNest own index (T k).1 (T k).2.1 (T k).2.2.1 host ∈ NW) (hfin : (T k).2.2.2 = false) {v : Value} (hfit : narrow (ty0 k) v = v ∧ fits (ty0 k) v = true) {ws1 : va_W} (hw : ws.set q0 (a, .inr (ci, fs.set k v)) = ws1) (hl : k < fs.length) (d : decode cc pc = .ok (.putfield index, 3))
    (kk : ∀ (H1 : Heap) (locs1 : List Loc), va_P D vwCl ws1 H1 → va_D A ws1 → va_S A s.heap H1 locs1 → W p l e R s m args below meth c H1 locs1 cells slots Q (F0 m (pc + 3) ls rest)) : W p l e R s m args below meth c H locs cells slots Q (F0 m pc ls (v :: .ref a :: rest)) := by
  subst hw
  exact va_putN hx hb hG hin ty0 hty hnm hown hK hP hD hS q0 he hc k hk (va_Nw.use rfl (hN _ hlink)) (fun _ h => h) hfin (hty k hk) hfit.1 hfit.2 hl d kk
theorem k_putR (hx : p.tables.exec = Jvm.exec) (hb : c.code = cc) {own ref C : String} {T : u_T} {N ci index : Nat} (hG : ∀ w ∈ GW, w.before args s = true) (hin : ∀ w ∈ u_ws C T N, w ∈ GW) (ty0 : Nat → FieldType) (hty : ∀ k, k < N → parseFieldDescriptor (T k).2.2.1 = some (ty0 k)) (hnm : ∀ a, a < N → ∀ b, b < N → a ≠ b → (T a).2.1 ≠ (T b).2.1) (hown : s.vm.findClass own = some m.cls) (hK : va_K D vwCl (TYS cA) s) (hP : va_P D vwCl ws H) (hD : va_D A ws) (hS : va_S A s.heap H locs) (q0 : Nat) {fs : List Value} (he : ws[q0]? = some (a, .inr (ci, fs))) (hc : vwCl[ci]? = some (C, T, N)) (k : Nat) (hk : k < N) (hlink : Cond.fieldLink own index ref (T k).2.1 (T k).2.2.1 ∈ GW) (hsame : Cond.sameField ref (T k).1 (T k).2.1 (T k).2.2.1 ∈ GW) (hfin : (T k).2.2.2 = false) {v : Value} (hfit : narrow (ty0 k) v = v ∧ fits (ty0 k) v = true) {ws1 : va_W} (hw : ws.set q0 (a, .inr (ci, fs.set k v)) = ws1) (hl : k < fs.length) (d : decode cc pc = .ok (.putfield index, 3))
    (kk : ∀ (H1 : Heap) (locs1 : List Loc), va_P D vwCl ws1 H1 → va_D A ws1 → va_S A s.heap H1 locs1 → W p l e R s m args below meth c H1 locs1 cells slots Q (F0 m (pc + 3) ls rest)) : W p l e R s m args below meth c H locs cells slots Q (F0 m pc ls (v :: .ref a :: rest)) := by
  subst hw
  exact va_put hx hb hG hin ty0 hty hnm hown hK hP hD hS q0 he hc k hk (hG _ hlink) (u_same (hG _ hsame)) hfin (hty k hk) hfit.1 hfit.2 hl d kk
theorem k_new (hx : p.tables.exec = Jvm.exec) (hb : c.code = cc) {own C : String} {T : u_T} {N ci index : Nat} (hG : ∀ w ∈ GW, w.before args s = true) (hin : ∀ w ∈ u_ws C T N, w ∈ GW) (ty : Nat → FieldType) (hty : ∀ k, k < N → parseFieldDescriptor (T k).2.2.1 = some (ty k)) (hown : s.vm.findClass own = some m.cls) (hcl : Cond.classLink own index C ∈ GW) (hinst : Cond.instantiable C N ∈ GW) (hini : Cond.initialized C ∈ GW) (hK : va_K D vwCl (TYS cA) s) (hP : va_P D vwCl ws H) (hD : va_D A ws) (hS : va_S A s.heap H locs) (hA : ∀ q, s.heap.size ≤ q → A q) (hc : vwCl[ci]? = some (C, T, N)) (fs : List Value) (hfs : (List.range N).map (fun j => defaultValue (ty j)) = fs) (hcells : cells + 1 ≤ R.cells) (hslots : slots + N ≤ R.slots) (d : decode cc pc = .ok (.new index, 3))
    (kk : ∀ (q : Nat) (H1 : Heap), va_P D vwCl (ws ++ [(q, .inr (ci, fs))]) H1 → va_D A (ws ++ [(q, .inr (ci, fs))]) → va_S A s.heap H1 locs → W p l e R s m args below meth c H1 locs (cells + 1) (slots + N) Q (F0 m (pc + 3) ls (.ref q :: rest))) : W p l e R s m args below meth c H locs cells slots Q (F0 m pc ls rest) := by
  refine va_new hx hb hG hin ty hty hown (hG _ hcl) (hG _ hinst) (hG _ hini) hK hP hD hS hA hc (fun j hj => ?_) hcells hslots d kk
  subst hfs
  simp [vp_V, hj]
theorem k_newa_int (hx : p.tables.exec = Jvm.exec) (hb : c.code = cc) (hG : ∀ w ∈ GW, w.before args s = true) (harr : Cond.arrayClass .int ∈ GW) (hK : va_K D vwCl (TYS cA) s) (hP : va_P D vwCl ws H) (hD : va_D A ws) (hS : va_S A s.heap H locs) (hA : ∀ q, s.heap.size ≤ q → A q) {n : Int32} (N' : Nat) (hn : ¬ n < 0) (hN : n.toNatClampNeg = N') (hbytes : N' * componentBytes .int ≤ 536870912) (hcells : cells + 1 ≤ R.cells) (hslots : slots + N' ≤ R.slots) (d : decode cc pc = .ok (.newarray .int, 2))
    (kk : ∀ (q : Nat) (H1 : Heap), va_P D vwCl (ws ++ [(q, .inl (cA 0, N', .inl (fun _ => 0)))]) H1 → va_D A (ws ++ [(q, .inl (cA 0, N', .inl (fun _ => 0)))]) → va_S A s.heap H1 locs → W p l e R s m args below meth c H1 locs (cells + 1) (slots + N') Q (F0 m (pc + 2) ls (.ref q :: rest))) : W p l e R s m args below meth c H locs cells slots Q (F0 m pc ls (.int n :: rest)) := by
  refine va_newa (atype := .int) (ty := .int) (a0 := (N', .inl (fun _ => 0))) hx hb (hG _ harr) rfl hK hP hD hS hA (fun _ => rfl) hn hN hbytes hcells hslots d (fun q c1 H1 hK1 hP1 hD1 hS1 => ?_)
  have e1 : s.vm.findClass _ = some c1 := (hK1.2 6 (c1, .int) rfl).2
  have e2 : s.vm.findClass _ = some (cA 0) := (hK.2 0 (cA 0, .int) rfl).2
  cases Option.some.inj (e1.symm.trans e2)
  exact kk q H1 hP1 hD1 hS1
theorem k_newa_long (hx : p.tables.exec = Jvm.exec) (hb : c.code = cc) (hG : ∀ w ∈ GW, w.before args s = true) (harr : Cond.arrayClass .long ∈ GW) (hK : va_K D vwCl (TYS cA) s) (hP : va_P D vwCl ws H) (hD : va_D A ws) (hS : va_S A s.heap H locs) (hA : ∀ q, s.heap.size ≤ q → A q) {n : Int32} (N' : Nat) (hn : ¬ n < 0) (hN : n.toNatClampNeg = N') (hbytes : N' * componentBytes .long ≤ 536870912) (hcells : cells + 1 ≤ R.cells) (hslots : slots + N' ≤ R.slots) (d : decode cc pc = .ok (.newarray .long, 2))
    (kk : ∀ (q : Nat) (H1 : Heap), va_P D vwCl (ws ++ [(q, .inl (cA 1, N', .inr (.inl (fun _ => 0))))]) H1 → va_D A (ws ++ [(q, .inl (cA 1, N', .inr (.inl (fun _ => 0))))]) → va_S A s.heap H1 locs → W p l e R s m args below meth c H1 locs (cells + 1) (slots + N') Q (F0 m (pc + 2) ls (.ref q :: rest))) : W p l e R s m args below meth c H locs cells slots Q (F0 m pc ls (.int n :: rest)) := by
  refine va_newa (atype := .long) (ty := .long) (a0 := (N', .inr (.inl (fun _ => 0)))) hx hb (hG _ harr) rfl hK hP hD hS hA (fun _ => rfl) hn hN hbytes hcells hslots d (fun q c1 H1 hK1 hP1 hD1 hS1 => ?_)
  have e1 : s.vm.findClass _ = some c1 := (hK1.2 6 (c1, .long) rfl).2
  have e2 : s.vm.findClass _ = some (cA 1) := (hK.2 1 (cA 1, .long) rfl).2
  cases Option.some.inj (e1.symm.trans e2)
  exact kk q H1 hP1 hD1 hS1
theorem k_newa_char (hx : p.tables.exec = Jvm.exec) (hb : c.code = cc) (hG : ∀ w ∈ GW, w.before args s = true) (harr : Cond.arrayClass .char ∈ GW) (hK : va_K D vwCl (TYS cA) s) (hP : va_P D vwCl ws H) (hD : va_D A ws) (hS : va_S A s.heap H locs) (hA : ∀ q, s.heap.size ≤ q → A q) {n : Int32} (N' : Nat) (hn : ¬ n < 0) (hN : n.toNatClampNeg = N') (hbytes : N' * componentBytes .char ≤ 536870912) (hcells : cells + 1 ≤ R.cells) (hslots : slots + N' ≤ R.slots) (d : decode cc pc = .ok (.newarray .char, 2))
    (kk : ∀ (q : Nat) (H1 : Heap), va_P D vwCl (ws ++ [(q, .inl (cA 2, N', .inl (fun _ => 0)))]) H1 → va_D A (ws ++ [(q, .inl (cA 2, N', .inl (fun _ => 0)))]) → va_S A s.heap H1 locs → W p l e R s m args below meth c H1 locs (cells + 1) (slots + N') Q (F0 m (pc + 2) ls (.ref q :: rest))) : W p l e R s m args below meth c H locs cells slots Q (F0 m pc ls (.int n :: rest)) := by
  refine va_newa (atype := .char) (ty := .char) (a0 := (N', .inl (fun _ => 0))) hx hb (hG _ harr) rfl hK hP hD hS hA (fun _ => rfl) hn hN hbytes hcells hslots d (fun q c1 H1 hK1 hP1 hD1 hS1 => ?_)
  have e1 : s.vm.findClass _ = some c1 := (hK1.2 6 (c1, .char) rfl).2
  have e2 : s.vm.findClass _ = some (cA 2) := (hK.2 2 (cA 2, .char) rfl).2
  cases Option.some.inj (e1.symm.trans e2)
  exact kk q H1 hP1 hD1 hS1
theorem k_newa_boolean (hx : p.tables.exec = Jvm.exec) (hb : c.code = cc) (hG : ∀ w ∈ GW, w.before args s = true) (harr : Cond.arrayClass .boolean ∈ GW) (hK : va_K D vwCl (TYS cA) s) (hP : va_P D vwCl ws H) (hD : va_D A ws) (hS : va_S A s.heap H locs) (hA : ∀ q, s.heap.size ≤ q → A q) {n : Int32} (N' : Nat) (hn : ¬ n < 0) (hN : n.toNatClampNeg = N') (hbytes : N' * componentBytes .boolean ≤ 536870912) (hcells : cells + 1 ≤ R.cells) (hslots : slots + N' ≤ R.slots) (d : decode cc pc = .ok (.newarray .boolean, 2))
    (kk : ∀ (q : Nat) (H1 : Heap), va_P D vwCl (ws ++ [(q, .inl (cA 3, N', .inl (fun _ => 0)))]) H1 → va_D A (ws ++ [(q, .inl (cA 3, N', .inl (fun _ => 0)))]) → va_S A s.heap H1 locs → W p l e R s m args below meth c H1 locs (cells + 1) (slots + N') Q (F0 m (pc + 2) ls (.ref q :: rest))) : W p l e R s m args below meth c H locs cells slots Q (F0 m pc ls (.int n :: rest)) := by
  refine va_newa (atype := .boolean) (ty := .boolean) (a0 := (N', .inl (fun _ => 0))) hx hb (hG _ harr) rfl hK hP hD hS hA (fun _ => rfl) hn hN hbytes hcells hslots d (fun q c1 H1 hK1 hP1 hD1 hS1 => ?_)
  have e1 : s.vm.findClass _ = some c1 := (hK1.2 6 (c1, .boolean) rfl).2
  have e2 : s.vm.findClass _ = some (cA 3) := (hK.2 3 (cA 3, .boolean) rfl).2
  cases Option.some.inj (e1.symm.trans e2)
  exact kk q H1 hP1 hD1 hS1
theorem k_newa_double (hx : p.tables.exec = Jvm.exec) (hb : c.code = cc) (hG : ∀ w ∈ GW, w.before args s = true) (harr : Cond.arrayClass .double ∈ GW) (hK : va_K D vwCl (TYS cA) s) (hP : va_P D vwCl ws H) (hD : va_D A ws) (hS : va_S A s.heap H locs) (hA : ∀ q, s.heap.size ≤ q → A q) {n : Int32} (N' : Nat) (hn : ¬ n < 0) (hN : n.toNatClampNeg = N') (hbytes : N' * componentBytes .double ≤ 536870912) (hcells : cells + 1 ≤ R.cells) (hslots : slots + N' ≤ R.slots) (d : decode cc pc = .ok (.newarray .double, 2))
    (kk : ∀ (q : Nat) (H1 : Heap), va_P D vwCl (ws ++ [(q, .inl (cA 5, N', .inr (.inr (.inr (.inl (fun _ => 0))))))]) H1 → va_D A (ws ++ [(q, .inl (cA 5, N', .inr (.inr (.inr (.inl (fun _ => 0))))))]) → va_S A s.heap H1 locs → W p l e R s m args below meth c H1 locs (cells + 1) (slots + N') Q (F0 m (pc + 2) ls (.ref q :: rest))) : W p l e R s m args below meth c H locs cells slots Q (F0 m pc ls (.int n :: rest)) := by
  refine va_newa (atype := .double) (ty := .double) (a0 := (N', .inr (.inr (.inr (.inl (fun _ => 0)))))) hx hb (hG _ harr) rfl hK hP hD hS hA (fun _ => rfl) hn hN hbytes hcells hslots d (fun q c1 H1 hK1 hP1 hD1 hS1 => ?_)
  have e1 : s.vm.findClass _ = some c1 := (hK1.2 6 (c1, .double) rfl).2
  have e2 : s.vm.findClass _ = some (cA 5) := (hK.2 5 (cA 5, .double) rfl).2
  cases Option.some.inj (e1.symm.trans e2)
  exact kk q H1 hP1 hD1 hS1
theorem k_newq (hx : p.tables.exec = Jvm.exec) (hb : c.code = cc) {own : String} {index : Nat} (hG : ∀ w ∈ GW, w.before args s = true) (hown : s.vm.findClass own = some m.cls) (hcl : Cond.classLink own index "java/lang/Object" ∈ GW) (hover : va_AO "java/lang/Object" s) (hK : va_K D vwCl (TYS cA) s) (hP : va_P D vwCl ws H) (hD : va_D A ws) (hS : va_S A s.heap H locs) (hA : ∀ q, s.heap.size ≤ q → A q) {n : Int32} (N' : Nat) (hn : ¬ n < 0) (hN : n.toNatClampNeg = N') (hbytes : N' * 4 ≤ 536870912) (hcells : cells + 1 ≤ R.cells) (hslots : slots + N' ≤ R.slots) (d : decode cc pc = .ok (.anewarray index, 3))
    (kk : ∀ (q : Nat) (H1 : Heap), va_P D vwCl (ws ++ [(q, .inl (cA 4, N', .inr (.inr (.inr (.inr (fun _ => none))))))]) H1 → va_D A (ws ++ [(q, .inl (cA 4, N', .inr (.inr (.inr (.inr (fun _ => none))))))]) → va_S A s.heap H1 locs → W p l e R s m args below meth c H1 locs (cells + 1) (slots + N') Q (F0 m (pc + 3) ls (.ref q :: rest))) : W p l e R s m args below meth c H locs cells slots Q (F0 m pc ls (.int n :: rest)) := by
  refine va_newq hx hb hown (hG _ hcl) hover hK hP hD hS hA hn hN hbytes hcells hslots d (fun q c1 H1 hK1 hP1 hD1 hS1 => ?_)
  obtain ⟨_, _, -, -, -, e1⟩ := (hK1.2 6 (c1, .object "java/lang/Object") rfl).2
  obtain ⟨_, _, -, -, -, e2⟩ := (hK.2 4 (cA 4, .object "java/lang/Object") rfl).2
  cases Option.some.inj (e1.symm.trans e2)
  exact kk q H1 hP1 hD1 hS1
theorem k_iald (hx : p.tables.exec = Jvm.exec) (hb : c.code = cc) (hK : va_K D vwCl (TYS cA) s) (hP : va_P D vwCl ws H) (q0 : Nat) {n : Nat} {f : Nat → Int32} (ha : ws[q0]? = some (a, .inl (cA 0, n, .inl f))) {i : Int32} (j : Nat) {v : Int32} (hj : i.toNatClampNeg = j) (hv : f j = v) (hin : vp_in i n) (d : decode cc pc = .ok (.iaload, 1)) (kk : W p l e R s m args below meth c H locs cells slots Q (F0 m (pc + 1) ls (.int v :: rest))) : W p l e R s m args below meth c H locs cells slots Q (F0 m pc ls (.int i :: .ref a :: rest)) := va_iald hx hb hK hP q0 0 ha rfl hin d (by rw [hj, hv]; exact kk)
theorem k_lald (hx : p.tables.exec = Jvm.exec) (hb : c.code = cc) (hK : va_K D vwCl (TYS cA) s) (hP : va_P D vwCl ws H) (q0 : Nat) {n : Nat} {f : Nat → Int64} (ha : ws[q0]? = some (a, .inl (cA 1, n, .inr (.inl f)))) {i : Int32} (j : Nat) {v : Int64} (hj : i.toNatClampNeg = j) (hv : f j = v) (hin : vp_in i n) (d : decode cc pc = .ok (.laload, 1)) (kk : W p l e R s m args below meth c H locs cells slots Q (F0 m (pc + 1) ls (.long v :: rest))) : W p l e R s m args below meth c H locs cells slots Q (F0 m pc ls (.int i :: .ref a :: rest)) := va_lald hx hb hK hP q0 1 ha rfl hin d (by rw [hj, hv]; exact kk)
theorem k_cald (hx : p.tables.exec = Jvm.exec) (hb : c.code = cc) (hK : va_K D vwCl (TYS cA) s) (hP : va_P D vwCl ws H) (q0 : Nat) {n : Nat} {f : Nat → Int32} (ha : ws[q0]? = some (a, .inl (cA 2, n, .inl f))) {i : Int32} (j : Nat) {v : Int32} (hj : i.toNatClampNeg = j) (hv : f j = v) (hin : vp_in i n) (d : decode cc pc = .ok (.caload, 1)) (kk : W p l e R s m args below meth c H locs cells slots Q (F0 m (pc + 1) ls (.int v :: rest))) : W p l e R s m args below meth c H locs cells slots Q (F0 m pc ls (.int i :: .ref a :: rest)) := va_cald hx hb hK hP q0 2 ha rfl hin d (by rw [hj, hv]; exact kk)
theorem k_zald (hx : p.tables.exec = Jvm.exec) (hb : c.code = cc) (hK : va_K D vwCl (TYS cA) s) (hP : va_P D vwCl ws H) (q0 : Nat) {n : Nat} {f : Nat → Int32} (ha : ws[q0]? = some (a, .inl (cA 3, n, .inl f))) {i : Int32} (j : Nat) {v : Int32} (hj : i.toNatClampNeg = j) (hv : f j = v) (hin : vp_in i n) (d : decode cc pc = .ok (.baload, 1)) (kk : W p l e R s m args below meth c H locs cells slots Q (F0 m (pc + 1) ls (.int v :: rest))) : W p l e R s m args below meth c H locs cells slots Q (F0 m pc ls (.int i :: .ref a :: rest)) := va_zald hx hb hK hP q0 3 ha rfl hin d (by rw [hj, hv]; exact kk)
theorem k_dald (hx : p.tables.exec = Jvm.exec) (hb : c.code = cc) (hK : va_K D vwCl (TYS cA) s) (hP : va_P D vwCl ws H) (q0 : Nat) {n : Nat} {f : Nat → UInt64} (ha : ws[q0]? = some (a, .inl (cA 5, n, .inr (.inr (.inr (.inl f)))))) {i : Int32} (j : Nat) {v : UInt64} (hj : i.toNatClampNeg = j) (hv : f j = v) (hin : vp_in i n) (d : decode cc pc = .ok (.daload, 1)) (kk : W p l e R s m args below meth c H locs cells slots Q (F0 m (pc + 1) ls (.double v :: rest))) : W p l e R s m args below meth c H locs cells slots Q (F0 m pc ls (.int i :: .ref a :: rest)) := va_dald hx hb hK hP q0 5 ha rfl hin d (by rw [hj, hv]; exact kk)
theorem k_iast (hx : p.tables.exec = Jvm.exec) (hb : c.code = cc) (hK : va_K D vwCl (TYS cA) s) (hP : va_P D vwCl ws H) (hD : va_D A ws) (hS : va_S A s.heap H locs) (q0 : Nat) {n : Nat} {f : Nat → Int32} (ha : ws[q0]? = some (a, .inl (cA 0, n, .inl f))) {i : Int32} {x : Int32} {ws1 : va_W} (hw : ws.set q0 (a, .inl (cA 0, n, .inl (upd f i.toNatClampNeg x))) = ws1) (hin : vp_in i n) (d : decode cc pc = .ok (.iastore, 1))
    (kk : ∀ (H1 : Heap) (locs1 : List Loc), va_P D vwCl ws1 H1 → va_D A ws1 → va_S A s.heap H1 locs1 → W p l e R s m args below meth c H1 locs1 cells slots Q (F0 m (pc + 1) ls rest)) : W p l e R s m args below meth c H locs cells slots Q (F0 m pc ls (.int x :: .int i :: .ref a :: rest)) := by
  subst hw
  exact va_iast hx hb hK hP hD hS q0 0 ha rfl hin d kk
theorem k_last (hx : p.tables.exec = Jvm.exec) (hb : c.code = cc) (hK : va_K D vwCl (TYS cA) s) (hP : va_P D vwCl ws H) (hD : va_D A ws) (hS : va_S A s.heap H locs) (q0 : Nat) {n : Nat} {f : Nat → Int64} (ha : ws[q0]? = some (a, .inl (cA 1, n, .inr (.inl f)))) {i : Int32} {x : Int64} {ws1 : va_W} (hw : ws.set q0 (a, .inl (cA 1, n, .inr (.inl (vp_updL f i.toNatClampNeg x)))) = ws1) (hin : vp_in i n) (d : decode cc pc = .ok (.lastore, 1))
    (kk : ∀ (H1 : Heap) (locs1 : List Loc), va_P D vwCl ws1 H1 → va_D A ws1 → va_S A s.heap H1 locs1 → W p l e R s m args below meth c H1 locs1 cells slots Q (F0 m (pc + 1) ls rest)) : W p l e R s m args below meth c H locs cells slots Q (F0 m pc ls (.long x :: .int i :: .ref a :: rest)) := by
  subst hw
  exact va_last hx hb hK hP hD hS q0 1 ha rfl hin d kk
theorem k_cast (hx : p.tables.exec = Jvm.exec) (hb : c.code = cc) (hK : va_K D vwCl (TYS cA) s) (hP : va_P D vwCl ws H) (hD : va_D A ws) (hS : va_S A s.heap H locs) (q0 : Nat) {n : Nat} {f : Nat → Int32} (ha : ws[q0]? = some (a, .inl (cA 2, n, .inl f))) {i : Int32} {x : Int32} {ws1 : va_W} (hw : ws.set q0 (a, .inl (cA 2, n, .inl (upd f i.toNatClampNeg (vp_nar .char x)))) = ws1) (hin : vp_in i n) (d : decode cc pc = .ok (.castore, 1))
    (kk : ∀ (H1 : Heap) (locs1 : List Loc), va_P D vwCl ws1 H1 → va_D A ws1 → va_S A s.heap H1 locs1 → W p l e R s m args below meth c H1 locs1 cells slots Q (F0 m (pc + 1) ls rest)) : W p l e R s m args below meth c H locs cells slots Q (F0 m pc ls (.int x :: .int i :: .ref a :: rest)) := by
  subst hw
  exact va_cast hx hb hK hP hD hS q0 2 ha rfl hin d kk
theorem k_zast (hx : p.tables.exec = Jvm.exec) (hb : c.code = cc) (hK : va_K D vwCl (TYS cA) s) (hP : va_P D vwCl ws H) (hD : va_D A ws) (hS : va_S A s.heap H locs) (q0 : Nat) {n : Nat} {f : Nat → Int32} (ha : ws[q0]? = some (a, .inl (cA 3, n, .inl f))) {i : Int32} {x : Int32} {ws1 : va_W} (hw : ws.set q0 (a, .inl (cA 3, n, .inl (upd f i.toNatClampNeg (vp_nar .boolean x)))) = ws1) (hin : vp_in i n) (d : decode cc pc = .ok (.bastore, 1))
    (kk : ∀ (H1 : Heap) (locs1 : List Loc), va_P D vwCl ws1 H1 → va_D A ws1 → va_S A s.heap H1 locs1 → W p l e R s m args below meth c H1 locs1 cells slots Q (F0 m (pc + 1) ls rest)) : W p l e R s m args below meth c H locs cells slots Q (F0 m pc ls (.int x :: .int i :: .ref a :: rest)) := by
  subst hw
  exact va_zast hx hb hK hP hD hS q0 3 ha rfl hin d kk
theorem k_astq (hx : p.tables.exec = Jvm.exec) (hb : c.code = cc) (hK : va_K D vwCl (TYS cA) s) (hP : va_P D vwCl ws H) (hD : va_D A ws) (hS : va_S A s.heap H locs) (hN : ∀ w ∈ NW, va_Nw w s) (q0 qk ci : Nat) {r : vw_C} {n v : Nat} {vs : List Value} {f : Nat → Option Nat} (ha : ws[q0]? = some (a, .inl (cA 4, n, .inr (.inr (.inr (.inr f)))))) (hca : Cond.castable r.1 "java/lang/Object" ∈ NW) (hv : ws[qk]? = some (v, .inr (ci, vs))) (hc : vwCl[ci]? = some r) {i : Int32} {ws1 : va_W} (hw : ws.set q0 (a, .inl (cA 4, n, .inr (.inr (.inr (.inr (va_up f i.toNatClampNeg (some v))))))) = ws1) (hin : vp_in i n) (d : decode cc pc = .ok (.aastore, 1))
    (kk : ∀ (H1 : Heap) (locs1 : List Loc), va_P D vwCl ws1 H1 → va_D A ws1 → va_S A s.heap H1 locs1 → W p l e R s m args below meth c H1 locs1 cells slots Q (F0 m (pc + 1) ls rest)) : W p l e R s m args below meth c H locs cells slots Q (F0 m pc ls (.ref v :: .int i :: .ref a :: rest)) := by
  subst hw
  exact va_astqO hx hb hK hP hD hS q0 4 qk ci ha rfl (hN _ hca) hv hc hin d kk
theorem k_alen (hx : p.tables.exec = Jvm.exec) (hb : c.code = cc) (hK : va_K D vwCl (TYS cA) s) (hP : va_P D vwCl ws H) (q0 t0 : Nat) {cc0 : ClassId} {x : vp_A} (ha : ws[q0]? = some (a, .inl (cc0, x))) {ty : FieldType} (ht : (TYS cA)[t0]? = some (cc0, ty)) {v : Int32} (hv : Int32.ofNat x.1 = v) (d : decode cc pc = .ok (.arraylength, 1)) (kk : W p l e R s m args below meth c H locs cells slots Q (F0 m (pc + 1) ls (.int v :: rest))) : W p l e R s m args below meth c H locs cells slots Q (F0 m pc ls (.ref a :: rest)) := va_alen hx hb hK hP q0 t0 ha ht hv d kk
theorem k_ldcS (hx : p.tables.exec = Jvm.exec) (hb : c.code = cc) {g : gv_T} (hGV : GV g A s s.heap) {own tx : String} {index : Nat} (i : Nat) (hi : STR[i]? = some (own, index, tx)) (hown : s.vm.findClass own = some m.cls) (d : decode cc pc = .ok (.ldc index, 2)) (kk : W p l e R s m args below meth c H locs cells slots Q (F0 m (pc + 2) ls (.ref (g.2.1 i) :: rest))) : W p l e R s m args below meth c H locs cells slots Q (F0 m pc ls rest) := va_ldcS hx hb hown (hGV.2.2.2.1 i _ hi) d kk
theorem k_getsE (hx : p.tables.exec = Jvm.exec) (hb : c.code = cc) {g : gv_T} (hG : ∀ w ∈ GW, w.before args s = true) (hGV : GV g A s s.heap) (hS : va_S A s.heap H locs) {own : String} {index : Nat} (hown : s.vm.findClass own = some m.cls) (hlink : Cond.fieldLink own index "java/util/ArrayList" "DEFAULTCAPACITY_EMPTY_ELEMENTDATA" "[Ljava/lang/Object;" ∈ GW) (d : decode cc pc = .ok (.getstatic index, 3)) (kk : W p l e R s m args below meth c H locs cells slots Q (F0 m (pc + 3) ls (.ref g.1 :: rest))) : W p l e R s m args below meth c H locs cells slots Q (F0 m pc ls rest) := va_gets hx hb hGV.2.1.1 hS hown (hG _ hlink) (fun _ h => h) d kk
theorem k_getsC (hx : p.tables.exec = Jvm.exec) (hb : c.code = cc) {g : gv_T} (hG : ∀ w ∈ GW, w.before args s = true) (hGV : GV g A s s.heap) (hS : va_S A s.heap H locs) {own : String} {index : Nat} (hown : s.vm.findClass own = some m.cls) (hlink : Cond.fieldLink own index "java/lang/String" "COMPACT_STRINGS" "Z" ∈ GW) (d : decode cc pc = .ok (.getstatic index, 3)) (kk : W p l e R s m args below meth c H locs cells slots Q (F0 m (pc + 3) ls (.int 1 :: rest))) : W p l e R s m args below meth c H locs cells slots Q (F0 m pc ls rest) := va_gets hx hb hGV.2.2.1.1 hS hown (hG _ hlink) (fun _ h => h) d kk
theorem k_elen (hx : p.tables.exec = Jvm.exec) (hb : c.code = cc) {g : gv_T} (hGV : GV g A s s.heap) (hS : va_S A s.heap H locs) (d : decode cc pc = .ok (.arraylength, 1)) (kk : W p l e R s m args below meth c H locs cells slots Q (F0 m (pc + 1) ls (.int 0 :: rest))) : W p l e R s m args below meth c H locs cells slots Q (F0 m pc ls (.ref g.1 :: rest)) := va_tlen hx hb hGV.2.1.2 hS rfl d kk
theorem k_slen (hx : p.tables.exec = Jvm.exec) (hb : c.code = cc) {g : gv_T} (hGV : GV g A s s.heap) (hS : va_S A s.heap H locs) (d : decode cc pc = .ok (.arraylength, 1)) (kk : W p l e R s m args below meth c H locs cells slots Q (F0 m (pc + 1) ls (.int 3 :: rest))) : W p l e R s m args below meth c H locs cells slots Q (F0 m pc ls (.ref g.2.2 :: rest)) := va_tlen hx hb (hGV.2.2.1.2.1 0 (by decide)).2.2.2 hS (show Int32.ofNat 3 = 3 from rfl) d kk
theorem k_sld (hx : p.tables.exec = Jvm.exec) (hb : c.code = cc) {g : gv_T} (hGV : GV g A s s.heap) (hS : va_S A s.heap H locs) {i : Int32} (hin : vp_in i 3) {v : Int32} (hv : Value.int (([[45, 112, 114]].getD 0 []).getD i.toNatClampNeg 0) = .int v) (d : decode cc pc = .ok (.baload, 1)) (kk : W p l e R s m args below meth c H locs cells slots Q (F0 m (pc + 1) ls (.int v :: rest))) : W p l e R s m args below meth c H locs cells slots Q (F0 m pc ls (.int i :: .ref g.2.2 :: rest)) := va_tb hx hb (hGV.2.2.1.2.1 0 (by decide)).2.2.2 hS hin hv d kk
theorem k_svalue (hx : p.tables.exec = Jvm.exec) (hb : c.code = cc) {g : gv_T} (hG : ∀ w ∈ GW, w.before args s = true) (hGV : GV g A s s.heap) (hS : va_S A s.heap H locs) {own : String} {index : Nat} (hown : s.vm.findClass own = some m.cls) (hlink : Cond.fieldLink own index "java/lang/String" "value" "[B" ∈ GW) (d : decode cc pc = .ok (.getfield index, 3)) (kk : W p l e R s m args below meth c H locs cells slots Q (F0 m (pc + 3) ls (.ref g.2.2 :: rest))) : W p l e R s m args below meth c H locs cells slots Q (F0 m pc ls (.ref (g.2.1 0) :: rest)) := vk_getf hx hb (hGV.2.2.1.2.1 0 (by decide)).2.2.1 hS hown (hG _ hlink) (fun _ h => h) d kk
theorem k_scoder (hx : p.tables.exec = Jvm.exec) (hb : c.code = cc) {g : gv_T} (hG : ∀ w ∈ GW, w.before args s = true) (hGV : GV g A s s.heap) (hS : va_S A s.heap H locs) {own : String} {index : Nat} (hown : s.vm.findClass own = some m.cls) (hlink : Cond.fieldLink own index "java/lang/String" "coder" "B" ∈ GW) (d : decode cc pc = .ok (.getfield index, 3)) (kk : W p l e R s m args below meth c H locs cells slots Q (F0 m (pc + 3) ls (.int 0 :: rest))) : W p l e R s m args below meth c H locs cells slots Q (F0 m pc ls (.ref (g.2.1 0) :: rest)) := vk_getf hx hb (hGV.2.2.1.2.1 0 (by decide)).2.1 hS hown (hG _ hlink) (fun _ h => h) d kk
theorem k_mabsl (hx : p.tables.exec = Jvm.exec) (hb : c.code = cc) (hml : c.maxLocals = ls.size) {own : String} {index : Nat} (hown : s.vm.findClass own = some m.cls) (h1 : (Cond.methodLink own index Lib.MathLoose.abs_long.x).before args s = true) (h2 : (Cond.static Lib.MathLoose.abs_long.x).before args s = true) (h3 : (Cond.initialized "java/lang/Math").before args s = true) (h4 : (Cond.code Lib.MathLoose.abs_long.x Lib.MathLoose.abs_long.code 2 (some .long)).before args s = true) (hf : 1 ≤ R.frames) (hlo : (rest.map fun v => v.category).sum + 13 ≤ R.locals) (hc : cells ≤ R.cells) (hs : slots ≤ R.slots) {x v : Int64} (d : decode cc pc = .ok (.invokestatic index, 3)) (hv : (if 0 < x then x else -x) = v) (kk : W p l e R s m args below meth c H locs cells slots Q (F0 m (pc + 3) ls (.long v :: rest))) : W p l e R s m args below meth c H locs cells slots Q (F0 m pc ls (.long x :: rest)) := va_mabs_long hx hb hml hown h1 h2 h3 h4 hf hlo hc hs d (by rw [hv]; exact kk)
theorem k_mmax (hx : p.tables.exec = Jvm.exec) (hb : c.code = cc) (hml : c.maxLocals = ls.size) {own : String} {index : Nat} (hown : s.vm.findClass own = some m.cls) (h1 : (Cond.methodLink own index Lib.Math.max.name).before args s = true) (h2 : (Cond.static Lib.Math.max.name).before args s = true) (h3 : (Cond.initialized "java/lang/Math").before args s = true) (h4 : (Cond.code Lib.Math.max.name Lib.Math.max.code 2 (some .int)).before args s = true) (hf : 1 ≤ R.frames) (hlo : (rest.map fun v => v.category).sum + 13 ≤ R.locals) (hc : cells ≤ R.cells) (hs : slots ≤ R.slots) {x y v : Int32} (d : decode cc pc = .ok (.invokestatic index, 3)) (hv : (if x < y then y else x) = v) (kk : W p l e R s m args below meth c H locs cells slots Q (F0 m (pc + 3) ls (.int v :: rest))) : W p l e R s m args below meth c H locs cells slots Q (F0 m pc ls (.int y :: .int x :: rest)) := va_mmax hx hb hml hown h1 h2 h3 h4 hf hlo hc hs d (by rw [hv]; exact kk)
theorem k_mmin (hx : p.tables.exec = Jvm.exec) (hb : c.code = cc) (hml : c.maxLocals = ls.size) {own : String} {index : Nat} (hown : s.vm.findClass own = some m.cls) (h1 : (Cond.methodLink own index Lib.Math.min.name).before args s = true) (h2 : (Cond.static Lib.Math.min.name).before args s = true) (h3 : (Cond.initialized "java/lang/Math").before args s = true) (h4 : (Cond.code Lib.Math.min.name Lib.Math.min.code 2 (some .int)).before args s = true) (hf : 1 ≤ R.frames) (hlo : (rest.map fun v => v.category).sum + 13 ≤ R.locals) (hc : cells ≤ R.cells) (hs : slots ≤ R.slots) {x y v : Int32} (d : decode cc pc = .ok (.invokestatic index, 3)) (hv : (if y < x then y else x) = v) (kk : W p l e R s m args below meth c H locs cells slots Q (F0 m (pc + 3) ls (.int v :: rest))) : W p l e R s m args below meth c H locs cells slots Q (F0 m pc ls (.int y :: .int x :: rest)) := va_mmin hx hb hml hown h1 h2 h3 h4 hf hlo hc hs d (by rw [hv]; exact kk)
end KR
/-! calls and ends -/
theorem fm_of {α β : Type} {f : α → Option β} {is : List α} {l : List β} (h : is.map f = l.map some) : is.filterMap f = l := by
  have e : is.filterMap f = (is.map f).filterMap id := by rw [List.filterMap_map]; rfl
  rw [e, h]
  clear e h
  induction l with
  | nil => rfl
  | cons x t ih => simp [ih]
section KC
variable {p : Program} {l : Launch} {e : Env} {R : Room} {s : State} {m : MethodId} {args : Array Value} {below : List Frame} {meth : Method} {c : Code} {H : Heap} {locs : List Loc} {cells slots : Nat} {Q : State → Prop}
variable {cc : ByteArray} {pc nL : Nat} {ls : Array Slot} {rest st0 : List Value} {D : va_G} {cA : Nat → ClassId} {A : Nat → Prop} {a : Nat} {ws wc wr : va_W} {g : gv_T}
variable {y : MethodName} {b : ByteArray} {n idx : Nat} {ret : Option FieldType} {R' : Room} {av As : List Value} {rv : (Nat → Nat) → Option Value} {wsr W1 : (Nat → Nat) → va_W} {own C E : String} {hh : List (Nat × Nat × Nat × Nat)}
theorem pc_of (hP : va_P D vwCl ws H) (hD : va_D A ws) (hS : va_S A s.heap H locs) (hA : ∀ q, s.heap.size ≤ q → A q) (hK : va_K D vwCl (TYS cA) s) (hGV : GV g A s s.heap) (isC : List Nat) (hC : isC.map (fun i => ws[i]?) = wc.map some) (hnC : va_nd isC = true) :
    ∀ U : State, U.heap = H → s.WarmedH U.vm → PcG D cA g av wc H.size av.toArray U := by
  intro U hU hW
  refine ⟨rfl, by rw [hU], by rw [hU]; exact hP.sub isC (fm_of hC), va_K.moved hW.alike hK, (hD.sub isC hnC hC).weaken (fun _ _ _ _ => trivial), ?_⟩
  rw [hU]
  exact GV.warm hW ((hGV.kept hS.2.1).narrow (va_free hD hS hA isC hC))
theorem ct_go {mc ms : Nat} {a0 : Array Value} (hr : va_Run p l e R s m args below meth c H locs cells slots mc ms (F0 m pc ls st0) rest (QcG D (va_A wc H.size) rv wsr a0) (va_A wc H.size)) (hP : va_P D vwCl ws H) (hD : va_D A ws) (hS : va_S A s.heap H locs) (hA : ∀ q, s.heap.size ≤ q → A q) (isC isR : List Nat) (hC : isC.map (fun i => ws[i]?) = wc.map some) (hR : isR.map (fun i => ws[i]?) = wr.map some) (hn : va_nd isR = true) (hdis : ∀ i ∈ isR, i ∉ isC) (hW1 : ∀ q, wr ++ wsr q = W1 q)
    (kk : ∀ (q : Nat → Nat) (H1 : Heap) (locs1 : List Loc), va_P D vwCl (W1 q) H1 → va_D A (W1 q) → va_S A s.heap H1 locs1 → W p l e R s m args below meth c H1 locs1 (cells + mc) (slots + ms) Q (F0 m (pc + 3) ls ((rv q).toList ++ rest))) : W p l e R s m args below meth c H locs cells slots Q (F0 m pc ls st0) := by
  intro T hT X
  obtain ⟨v, st₀, t, T', L, h0, X', hL, e1, e2, ⟨⟨q, hv, hp, hd⟩, hz, hk⟩, st⟩ := hr T hT X
  have hv : v = rv q := Outcome.returned.inj hv
  subst hv
  rw [h0] at hz hk
  have hF := va_free hD hS hA isC hC
  have hk1 : ∀ q, q < H.size → ¬ va_A wc H.size q → T'.heap[q]? = H[q]? := fun q h1 h2 => by rw [e1]; exact hk q h1 h2
  obtain ⟨hP1, hD1⟩ := va_join hP hD isC isR hC hR hn hdis hk1 hF (by rw [e1]; exact hp) hd
  rw [hW1 q] at hP1 hD1
  obtain ⟨t2, a1, b1⟩ := kk q T'.heap (locs ++ L) hP1 hD1 ⟨Nat.le_trans hS.1 (by rw [e1]; exact hz), fun q h1 h2 => by rw [e1, hk q (Nat.lt_of_lt_of_le h1 hS.1) (fun z => h2 (hF q z))]; exact hS.2.1 q h1 h2, fun q hq => by
    rcases List.mem_append.mp hq with h | h
    · exact hS.2.2 q h
    · exact hF _ (hL q h)⟩ T' rfl X'
  exact ⟨t2, st t2 a1, b1⟩
theorem cx_go {mc ms : Nat} (hr : vx_Run p l e R s m args below meth c H locs cells slots mc ms (F0 m pc ls st0) rest (fun _ _ _ => False) (XcG D (va_A wc H.size) E wsr) (va_A wc H.size)) (hP : va_P D vwCl ws H) (hD : va_D A ws) (hS : va_S A s.heap H locs) (hA : ∀ q, s.heap.size ≤ q → A q) (isC isR : List Nat) (hC : isC.map (fun i => ws[i]?) = wc.map some) (hR : isR.map (fun i => ws[i]?) = wr.map some) (hn : va_nd isR = true) (hdis : ∀ i ∈ isR, i ∉ isC) (hW1 : ∀ q, wr ++ wsr q = W1 q)
    (kk : ∀ (q : Nat → Nat) (H1 : Heap) (locs1 : List Loc) (q9 : Addr) (ce : Cell), va_P D vwCl (W1 q) H1 → va_D A (W1 q) → va_S A s.heap H1 locs1 → H1[q9]? = some ce → ce.vm = .none → s.vm.findClass E = some ce.cls → vx_W p l e R s m args below meth c H1 locs1 (cells + mc) (slots + ms) Q (F0 m pc ls rest) q9) : W p l e R s m args below meth c H locs cells slots Q (F0 m pc ls st0) := by
  intro T hT X
  rcases hr T hT X with ⟨v, st₀, t, T', L, h0, X', hL, e1, e2, hf, st⟩ | ⟨q9, st₀, t, T', L, E', ce, h0, X', hL, e1, e2, ⟨rfl, ⟨q, hp, hd⟩, hz, hk⟩, hce, hcv, hcl, st⟩
  · exact hf.elim
  · rw [h0] at hz hk
    have hF := va_free hD hS hA isC hC
    have hk1 : ∀ q, q < H.size → ¬ va_A wc H.size q → T'.heap[q]? = H[q]? := fun q h1 h2 => by rw [e1]; exact hk q h1 h2
    obtain ⟨hP1, hD1⟩ := va_join hP hD isC isR hC hR hn hdis hk1 hF (by rw [e1]; exact hp) hd
    rw [hW1 q] at hP1 hD1
    obtain ⟨t2, a1, b1⟩ := kk q T'.heap (locs ++ L) q9 ce hP1 hD1 ⟨Nat.le_trans hS.1 (by rw [e1]; exact hz), fun q h1 h2 => by rw [e1, hk q (Nat.lt_of_lt_of_le h1 hS.1) (fun z => h2 (hF q z))]; exact hS.2.1 q h1 h2, fun q hq => by
      rcases List.mem_append.mp hq with h | h
      · exact hS.2.2 q h
      · exact hF _ (hL q h)⟩ (by rw [e1]; exact hce) hcv hcl T' rfl X'
    exact ⟨t2, st.trans a1, b1⟩
abbrev CF (p : Program) (m : MethodId) (c : Code) (cc : ByteArray) (nL : Nat) (s : State) (args : Array Value) (own : String) : Prop := CallFix p m c cc nL s args GW own
theorem ct_V (S : CF p m c cc nL s args own) (hl : ls.size = nL) (hP : va_P D vwCl ws H) (hD : va_D A ws) (hS : va_S A s.heap H locs) (hA : ∀ q, s.heap.size ≤ q → A q) (hK : va_K D vwCl (TYS cA) s) (hGV : GV g A s s.heap)
    (hM : CT l y b n ret R' D cA g (.ref a :: As) wc rv wsr) (go : GoodIn GW (wsV own idx C y (.code y b n ret :: GW))) (hd : y.cls = C ∧ y.cls ≠ "java/lang/invoke/MethodHandle" ∧ y.cls ≠ "java/lang/invoke/VarHandle" ∧ (parseMethodDescriptor y.desc).map (fun d => d.parameters.length) = some As.length)
    (hR' : R'.frames + 1 ≤ R.frames ∧ 8 + (n + 11) + R'.locals ≤ R.locals) (hcs : cells + R'.cells ≤ R.cells ∧ slots + R'.slots ≤ R.slots) (hrc : ∃ cell : Cell, H[a]? = some cell ∧ cell.vm.isStatics = false ∧ s.vm.findClass C = some cell.cls)
    (d : decode cc pc = .ok (.invokevirtual idx, 3)) (hst : st0 = As.reverse ++ .ref a :: rest) (hW : (rest.map fun v => v.category).sum ≤ 8)
    (isC isR : List Nat) (hC : isC.map (fun i => ws[i]?) = wc.map some) (hnC : va_nd isC = true) (hR : isR.map (fun i => ws[i]?) = wr.map some) (hn : va_nd isR = true) (hdis : ∀ i ∈ isR, i ∉ isC) (W1 : (Nat → Nat) → va_W) (hW1 : ∀ q, wr ++ wsr q = W1 q)
    (kk : ∀ (q : Nat → Nat) (H1 : Heap) (locs1 : List Loc), va_P D vwCl (W1 q) H1 → va_D A (W1 q) → va_S A s.heap H1 locs1 → W p l e R s m args below meth c H1 locs1 (cells + R'.cells) (slots + R'.slots) Q (F0 m (pc + 3) ls ((rv q).toList ++ rest))) : W p l e R s m args below meth c H locs cells slots Q (F0 m pc ls st0) :=
  ct_go (va_runV S (hM H.size) (cwV As.length S.2.2.2.2 go rfl rfl rfl hd hR') ⟨PcG.blind _ _ _ _ _ _, hrc, pc_of hP hD hS hA hK hGV isC hC hnC⟩ rfl rfl hl hst (lv_room hW) d hcs) hP hD hS hA isC isR hC hR hn hdis hW1 kk
theorem ct_S (S : CF p m c cc nL s args own) (hl : ls.size = nL) (hP : va_P D vwCl ws H) (hD : va_D A ws) (hS : va_S A s.heap H locs) (hA : ∀ q, s.heap.size ≤ q → A q) (hK : va_K D vwCl (TYS cA) s) (hGV : GV g A s s.heap)
    (hM : CT l y b n ret R' D cA g As wc rv wsr) (go : GoodIn GW (va_wsS own idx y (.code y b n ret :: GW))) (hd : y.cls ≠ "java/lang/invoke/MethodHandle" ∧ y.cls ≠ "java/lang/invoke/VarHandle" ∧ (parseMethodDescriptor y.desc).map (fun d => d.parameters.length) = some As.length)
    (hR' : R'.frames + 1 ≤ R.frames ∧ 8 + (n + 11) + R'.locals ≤ R.locals) (hcs : cells + R'.cells ≤ R.cells ∧ slots + R'.slots ≤ R.slots)
    (d : decode cc pc = .ok (.invokestatic idx, 3)) (hst : st0 = As.reverse ++ rest) (hW : (rest.map fun v => v.category).sum ≤ 8)
    (isC isR : List Nat) (hC : isC.map (fun i => ws[i]?) = wc.map some) (hnC : va_nd isC = true) (hR : isR.map (fun i => ws[i]?) = wr.map some) (hn : va_nd isR = true) (hdis : ∀ i ∈ isR, i ∉ isC) (W1 : (Nat → Nat) → va_W) (hW1 : ∀ q, wr ++ wsr q = W1 q)
    (kk : ∀ (q : Nat → Nat) (H1 : Heap) (locs1 : List Loc), va_P D vwCl (W1 q) H1 → va_D A (W1 q) → va_S A s.heap H1 locs1 → W p l e R s m args below meth c H1 locs1 (cells + R'.cells) (slots + R'.slots) Q (F0 m (pc + 3) ls ((rv q).toList ++ rest))) : W p l e R s m args below meth c H locs cells slots Q (F0 m pc ls st0) :=
  ct_go (va_runS S (hM H.size) (va_cwS As.length S.2.2.2.2 go rfl rfl rfl hd hR') ⟨PcG.blind _ _ _ _ _ _, pc_of hP hD hS hA hK hGV isC hC hnC⟩ rfl rfl hl hst (lv_room hW) d hcs) hP hD hS hA isC isR hC hR hn hdis hW1 kk
theorem ct_SW (S : CF p m c cc nL s args own) (hl : ls.size = nL) (hP : va_P D vwCl ws H) (hD : va_D A ws) (hS : va_S A s.heap H locs) (hA : ∀ q, s.heap.size ≤ q → A q) (hK : va_K D vwCl (TYS cA) s) (hGV : GV g A s s.heap)
    (hM : CW l y b n ret hh R' D cA g As wc rv wsr) (go : GoodIn GW (va_wsS own idx y (.codeWith y b n ret hh :: GW))) (hd : y.cls ≠ "java/lang/invoke/MethodHandle" ∧ y.cls ≠ "java/lang/invoke/VarHandle" ∧ (parseMethodDescriptor y.desc).map (fun d => d.parameters.length) = some As.length)
    (hR' : R'.frames + 1 ≤ R.frames ∧ 8 + (n + 11) + R'.locals ≤ R.locals) (hcs : cells + R'.cells ≤ R.cells ∧ slots + R'.slots ≤ R.slots)
    (d : decode cc pc = .ok (.invokestatic idx, 3)) (hst : st0 = As.reverse ++ rest) (hW : (rest.map fun v => v.category).sum ≤ 8)
    (isC isR : List Nat) (hC : isC.map (fun i => ws[i]?) = wc.map some) (hnC : va_nd isC = true) (hR : isR.map (fun i => ws[i]?) = wr.map some) (hn : va_nd isR = true) (hdis : ∀ i ∈ isR, i ∉ isC) (W1 : (Nat → Nat) → va_W) (hW1 : ∀ q, wr ++ wsr q = W1 q)
    (kk : ∀ (q : Nat → Nat) (H1 : Heap) (locs1 : List Loc), va_P D vwCl (W1 q) H1 → va_D A (W1 q) → va_S A s.heap H1 locs1 → W p l e R s m args below meth c H1 locs1 (cells + R'.cells) (slots + R'.slots) Q (F0 m (pc + 3) ls ((rv q).toList ++ rest))) : W p l e R s m args below meth c H locs cells slots Q (F0 m pc ls st0) :=
  ct_go (vx_runSW S (hM H.size) (vx_cwSW As.length S.2.2.2.2 go rfl rfl rfl hd hR') ⟨PcG.blind _ _ _ _ _ _, pc_of hP hD hS hA hK hGV isC hC hnC⟩ rfl rfl hl hst (lv_room hW) d hcs) hP hD hS hA isC isR hC hR hn hdis hW1 kk
theorem ct_I (S : CF p m c cc nL s args own) (hl : ls.size = nL) (hP : va_P D vwCl ws H) (hD : va_D A ws) (hS : va_S A s.heap H locs) (hA : ∀ q, s.heap.size ≤ q → A q) (hK : va_K D vwCl (TYS cA) s) (hGV : GV g A s s.heap)
    (hM : CT l y b n none R' D cA g (.ref a :: As) wc rv wsr) (h1 : Cond.methodLink own idx y ∈ GW) (h2 : Cond.instanceMethod y ∈ GW) (h3 : Cond.initialized y.cls ∈ GW) (h4 : Cond.code y b n none ∈ GW) (hy : y.name = "<init>") (hd : y.cls ≠ "java/lang/invoke/MethodHandle" ∧ y.cls ≠ "java/lang/invoke/VarHandle" ∧ (parseMethodDescriptor y.desc).map (fun d => d.parameters.length) = some As.length)
    (hR' : R'.frames + 1 ≤ R.frames ∧ 8 + (n + 11) + R'.locals ≤ R.locals) (hcs : cells + R'.cells ≤ R.cells ∧ slots + R'.slots ≤ R.slots)
    (d : decode cc pc = .ok (.invokespecial idx, 3)) (hst : st0 = As.reverse ++ .ref a :: rest) (hW : (rest.map fun v => v.category).sum ≤ 8)
    (isC isR : List Nat) (hC : isC.map (fun i => ws[i]?) = wc.map some) (hnC : va_nd isC = true) (hR : isR.map (fun i => ws[i]?) = wr.map some) (hn : va_nd isR = true) (hdis : ∀ i ∈ isR, i ∉ isC) (W1 : (Nat → Nat) → va_W) (hW1 : ∀ q, wr ++ wsr q = W1 q)
    (kk : ∀ (q : Nat → Nat) (H1 : Heap) (locs1 : List Loc), va_P D vwCl (W1 q) H1 → va_D A (W1 q) → va_S A s.heap H1 locs1 → W p l e R s m args below meth c H1 locs1 (cells + R'.cells) (slots + R'.slots) Q (F0 m (pc + 3) ls ((rv q).toList ++ rest))) : W p l e R s m args below meth c H locs cells slots Q (F0 m pc ls st0) :=
  ct_go (va_runI S (hM H.size) (cwI As.length S.2.2.2.2 (goC h4) rfl rfl rfl (S.2.2.2.2 _ h3) (S.2.2.2.2 _ h1) (S.2.2.2.2 _ h2) hy hd hR') ⟨PcG.blind _ _ _ _ _ _, pc_of hP hD hS hA hK hGV isC hC hnC⟩ rfl rfl hl hst (lv_room hW) d hcs) hP hD hS hA isC isR hC hR hn hdis hW1 kk
theorem ct_IN {host : String} (S : CF p m c cc nL s args own) (hl : ls.size = nL) (hP : va_P D vwCl ws H) (hD : va_D A ws) (hS : va_S A s.heap H locs) (hA : ∀ q, s.heap.size ≤ q → A q) (hK : va_K D vwCl (TYS cA) s) (hGV : GV g A s s.heap)
    (hM : CT l y b n none R' D cA g (.ref a :: As) wc rv wsr) (h1 : Cond.methodLinkNest own idx y host ∈ NW) (h2 : Cond.instanceMethod y ∈ GW) (h3 : Cond.initialized y.cls ∈ GW) (h4 : Cond.code y b n none ∈ GW) (hy : y.name = "<init>") (hd : y.cls ≠ "java/lang/invoke/MethodHandle" ∧ y.cls ≠ "java/lang/invoke/VarHandle" ∧ (parseMethodDescriptor y.desc).map (fun d => d.parameters.length) = some As.length)
    (hR' : R'.frames + 1 ≤ R.frames ∧ 8 + (n + 11) + R'.locals ≤ R.locals) (hcs : cells + R'.cells ≤ R.cells ∧ slots + R'.slots ≤ R.slots)
    (d : decode cc pc = .ok (.invokespecial idx, 3)) (hst : st0 = As.reverse ++ .ref a :: rest) (hW : (rest.map fun v => v.category).sum ≤ 8)
    (isC isR : List Nat) (hC : isC.map (fun i => ws[i]?) = wc.map some) (hnC : va_nd isC = true) (hR : isR.map (fun i => ws[i]?) = wr.map some) (hn : va_nd isR = true) (hdis : ∀ i ∈ isR, i ∉ isC) (W1 : (Nat → Nat) → va_W) (hW1 : ∀ q, wr ++ wsr q = W1 q)
    (kk : ∀ (q : Nat → Nat) (H1 : Heap) (locs1 : List Loc), va_P D vwCl (W1 q) H1 → va_D A (W1 q) → va_S A s.heap H1 locs1 → W p l e R s m args below meth c H1 locs1 (cells + R'.cells) (slots + R'.slots) Q (F0 m (pc + 3) ls ((rv q).toList ++ rest))) : W p l e R s m args below meth c H locs cells slots Q (F0 m pc ls st0) :=
  ct_go (va_runIN S (hM H.size) ⟨va_cnB As.length S.2.2.2.2 (goC h4) rfl rfl rfl (hGV.2.2.2.2.1 _ h1) (S.2.2.2.2 _ h3) hd hR', hy, S.2.2.2.2 _ h2⟩ ⟨PcG.blind _ _ _ _ _ _, pc_of hP hD hS hA hK hGV isC hC hnC⟩ rfl rfl hl hst (lv_room hW) d hcs) hP hD hS hA isC isR hC hR hn hdis hW1 kk
theorem cx_V (S : CF p m c cc nL s args own) (hl : ls.size = nL) (hP : va_P D vwCl ws H) (hD : va_D A ws) (hS : va_S A s.heap H locs) (hA : ∀ q, s.heap.size ≤ q → A q) (hK : va_K D vwCl (TYS cA) s) (hGV : GV g A s s.heap)
    (hM : CX l y b n ret R' D cA g (.ref a :: As) wc E wsr) (go : GoodIn GW (wsV own idx C y (.code y b n ret :: GW))) (hd : y.cls = C ∧ y.cls ≠ "java/lang/invoke/MethodHandle" ∧ y.cls ≠ "java/lang/invoke/VarHandle" ∧ (parseMethodDescriptor y.desc).map (fun d => d.parameters.length) = some As.length)
    (hR' : R'.frames + 1 ≤ R.frames ∧ 8 + (n + 11) + R'.locals ≤ R.locals) (hcs : cells + R'.cells ≤ R.cells ∧ slots + R'.slots ≤ R.slots) (hrc : ∃ cell : Cell, H[a]? = some cell ∧ cell.vm.isStatics = false ∧ s.vm.findClass C = some cell.cls)
    (d : decode cc pc = .ok (.invokevirtual idx, 3)) (hst : st0 = As.reverse ++ .ref a :: rest) (hW : (rest.map fun v => v.category).sum ≤ 8)
    (isC isR : List Nat) (hC : isC.map (fun i => ws[i]?) = wc.map some) (hnC : va_nd isC = true) (hR : isR.map (fun i => ws[i]?) = wr.map some) (hn : va_nd isR = true) (hdis : ∀ i ∈ isR, i ∉ isC) (W1 : (Nat → Nat) → va_W) (hW1 : ∀ q, wr ++ wsr q = W1 q)
    (kk : ∀ (q : Nat → Nat) (H1 : Heap) (locs1 : List Loc) (q9 : Addr) (ce : Cell), va_P D vwCl (W1 q) H1 → va_D A (W1 q) → va_S A s.heap H1 locs1 → H1[q9]? = some ce → ce.vm = .none → s.vm.findClass E = some ce.cls → vx_W p l e R s m args below meth c H1 locs1 (cells + R'.cells) (slots + R'.slots) Q (F0 m pc ls rest) q9) : W p l e R s m args below meth c H locs cells slots Q (F0 m pc ls st0) :=
  cx_go (vx_runV S (hM H.size) (cwV As.length S.2.2.2.2 go rfl rfl rfl hd hR') ⟨PcG.blind _ _ _ _ _ _, hrc, pc_of hP hD hS hA hK hGV isC hC hnC⟩ rfl rfl hl hst (lv_room hW) d hcs) hP hD hS hA isC isR hC hR hn hdis hW1 kk
/-! ends -/
variable {ws' : (Nat → Nat) → va_W} {mc ms : Nat}
theorem e_i (q : Nat → Nat) {v : Int32} {ty : FieldType} (hx : p.tables.exec = Jvm.exec) (hb : c.code = cc) (hr : meth.sig.returnType = some ty) (hlocks : meth.locks = false) (hrv : rv q = some (.int v)) (hn : narrow ty (.int v) = .int v) (hP : va_P D vwCl (ws' q) H) (hD : va_D A (ws' q)) (hS : va_S A s.heap H locs) (hc : cells ≤ mc) (hs : slots ≤ ms) (d : decode cc pc = .ok (.ireturn, 1)) :
    W p l e R s m args below meth c H locs cells slots (MQ below (QcG D A rv ws') args s mc ms A) (F0 m pc ls [.int v]) :=
  W.widen hc hs (W.zret hx hb hr hn (fun t ht _ => ⟨⟨q, by rw [hrv], by rw [ht]; exact hP, hD⟩, hS.F ht⟩) hS.2.2 d hlocks)
theorem e_l (q : Nat → Nat) {v : Int64} (hx : p.tables.exec = Jvm.exec) (hb : c.code = cc) (hr : meth.sig.returnType = some .long) (hlocks : meth.locks = false) (hrv : rv q = some (.long v)) (hP : va_P D vwCl (ws' q) H) (hD : va_D A (ws' q)) (hS : va_S A s.heap H locs) (hc : cells ≤ mc) (hs : slots ≤ ms) (d : decode cc pc = .ok (.lreturn, 1)) :
    W p l e R s m args below meth c H locs cells slots (MQ below (QcG D A rv ws') args s mc ms A) (F0 m pc ls [.long v]) :=
  W.widen hc hs (W.lret hx hb hr (fun t ht _ => ⟨⟨q, by rw [hrv], by rw [ht]; exact hP, hD⟩, hS.F ht⟩) hS.2.2 d hlocks)
theorem e_v (q : Nat → Nat) (hx : p.tables.exec = Jvm.exec) (hb : c.code = cc) (hr : meth.sig.returnType = none) (hlocks : meth.locks = false) (hrv : rv q = none) (hP : va_P D vwCl (ws' q) H) (hD : va_D A (ws' q)) (hS : va_S A s.heap H locs) (hc : cells ≤ mc) (hs : slots ≤ ms) (d : decode cc pc = .ok (.return_, 1)) :
    W p l e R s m args below meth c H locs cells slots (MQ below (QcG D A rv ws') args s mc ms A) (F0 m pc ls []) :=
  W.widen hc hs (W.vret hx hb hr (fun t ht _ => ⟨⟨q, by rw [hrv], by rw [ht]; exact hP, hD⟩, hS.F ht⟩) hS.2.2 d hlocks)
theorem e_r (q : Nat → Nat) {v : Nat} {rt : FieldType} (hx : p.tables.exec = Jvm.exec) (hb : c.code = cc) (hr : meth.sig.returnType = some rt) (hrt : (∃ n, rt = .object n) ∨ ∃ t, rt = .array t) (hlocks : meth.locks = false) (hrv : rv q = some (.ref v)) (hP : va_P D vwCl (ws' q) H) (hD : va_D A (ws' q)) (hS : va_S A s.heap H locs) (hc : cells ≤ mc) (hs : slots ≤ ms) (d : decode cc pc = .ok (.areturn, 1)) :
    W p l e R s m args below meth c H locs cells slots (MQ below (QcG D A rv ws') args s mc ms A) (F0 m pc ls [.ref v]) :=
  W.widen hc hs (W.aret hx hb hr hrt (Or.inr ⟨v, rfl⟩) (fun t ht _ => ⟨⟨q, by rw [hrv], by rw [ht]; exact hP, hD⟩, hS.F ht⟩) hS.2.2 d hlocks)
/-- a throw leaves the method -/
theorem e_out (q : Nat → Nat) {q9 : Addr} {ce : Cell} (htab : ∀ x ∈ c.exceptionTable.toList, False) (hlocks : meth.locks = false) (h9 : H[q9]? = some ce) (hv : ce.vm = .none) (hcl : s.vm.findClass E = some ce.cls) (hP : va_P D vwCl (ws' q) H) (hD : va_D A (ws' q)) (hS : va_S A s.heap H locs) (hc : cells ≤ mc) (hs : slots ≤ ms) :
    vx_W p l e R s m args below meth c H locs cells slots (vx_MQ below (fun _ _ _ _ => False) (XcG D A E ws') args s mc ms A) (F0 m pc ls rest) q9 :=
  vx_out (fun x hx => (htab x hx).elim) hlocks h9 hv hcl (fun t ht _ => ⟨rfl, ⟨q, by rw [ht]; exact hP, hD⟩, hS.F ht⟩) hS.2.2 hc hs
theorem e_throw (q : Nat → Nat) {text : String} {ik is ic : Nat} {names : List String} (i : Nat) (hx : p.tables.exec = Jvm.exec) (hb : c.code = cc) (hfl : l.stackTraces = false) (hown : s.vm.findClass own = some m.cls) (hG : ∀ w ∈ GW, w.before args s = true) (hGV : GV g A s s.heap) (htab : ∀ x ∈ c.exceptionTable.toList, False) (hlocks : meth.locks = false) (hlz : ls.size = c.maxLocals)
    (hcls : Bundle.fit E = true) (hnames : ∀ n ∈ names, Bundle.fit n = true) (hk : Cond.classLink own ik E ∈ GW) (hini : Cond.initialized E ∈ GW) (hi : STR[i]? = some (own, is, text)) (hat : ∀ w ∈ vx_atS own ic E names, w ∈ lw_tbl ∧ (goodWord w || nwWord w) = true)
    (hP : va_P D vwCl (ws' q) H) (hD : va_D A (ws' q)) (hS : va_S A s.heap H locs)
    (d0 : decode cc pc = .ok (.new ik, 3)) (d3 : decode cc (pc + 3) = .ok (.dup, 1)) (d4 : decode cc (pc + 4) = .ok (.ldc is, 2)) (d6 : decode cc (pc + 6) = .ok (.invokespecial ic, 3)) (d9 : decode cc (pc + 9) = .ok (.athrow, 1))
    (hRf : names.length + 3 < R.frames) (hRl : (rest.map fun v => v.category).sum + (13 * (names.length + 1) + 43) ≤ R.locals) (hRc : cells + 1 ≤ R.cells) (hRs : slots + 6 ≤ R.slots) (hc : cells + 1 ≤ mc) (hs : slots + 6 ≤ ms) :
    W p l e R s m args below meth c H locs cells slots (vx_MQ below (fun _ _ _ _ => False) (XcG D A E ws') args s mc ms A) (F0 m pc ls rest) := by
  have hat2 : ∀ w ∈ vx_atS own ic E names, w.before args s = true := by
    intro w hw
    obtain ⟨h1, h2⟩ := hat w hw
    rcases Bool.or_eq_true_iff.mp h2 with h | h
    · exact hG w (List.mem_filter.mpr ⟨h1, h⟩)
    · exact va_Nw.use (nw_tab h) (hGV.2.2.2.2.1 w (List.mem_filter.mpr ⟨h1, h⟩))
  have hgood : ∀ w ∈ Cond.classLink own ik E :: Cond.initialized E :: vx_atS own ic E names, vx_ot w = true := by
    intro w hw
    rcases List.mem_cons.mp hw with rfl | hw
    · rfl
    · rcases List.mem_cons.mp hw with rfl | hw
      · rfl
      · rcases Bool.or_eq_true_iff.mp (hat w hw).2 with h | h
        · unfold vx_ot; rw [h]; exact Bool.or_true _
        · unfold vx_ot; rw [nw_tab h]; rfl
  refine vx_throwS hx hb hfl hown hcls hnames (hG _ hk) (hG _ hini) (hGV.2.2.2.1 i _ hi) hat2 hgood hGV.1.1 hGV.1.2 hS hlz d0 d3 d4 d6 d9 (fun x hx => (htab x hx).elim) hRf hRl hRc hRs hlocks ?_ hS.2.2 hc hs
  intro t ht hz hk9
  refine ⟨rfl, ⟨q, hP.kept (fun k z hz9 => hk9 _ (hP k z hz9).lt), hD⟩, Nat.le_trans hS.1 hz, fun x h1 h2 => ?_⟩
  rw [hk9 x (Nat.lt_of_lt_of_le h1 hS.1)]
  exact hS.2.1 x h1 h2
theorem e_throwW (q : Nat → Nat) {text : String} {ik is ic : Nat} {names : List String} (i : Nat) (hx : p.tables.exec = Jvm.exec) (hb : c.code = cc) (hfl : l.stackTraces = false) (hown : s.vm.findClass own = some m.cls) (hG : ∀ w ∈ GW, w.before args s = true) (hGV : GV g A s s.heap) (htab : ∀ x ∈ c.exceptionTable.toList, False) (hlocks : meth.locks = false) (hlz : ls.size = c.maxLocals)
    (hcls : Bundle.fit E = true) (hnames : ∀ n ∈ names, Bundle.fit n = true) (hk : Cond.classLink own ik E ∈ GW) (hini : Cond.initialized E ∈ GW) (hi : STR[i]? = some (own, is, text)) (hat : ∀ w ∈ vx_atS own ic E names, w ∈ lw_tbl ∧ (goodWord w || nwWord w) = true)
    (hP : va_P D vwCl (ws' q) H) (hD : va_D A (ws' q)) (hS : va_S A s.heap H locs)
    (d0 : decode cc pc = .ok (.new ik, 3)) (d3 : decode cc (pc + 3) = .ok (.dup, 1)) (d4 : decode cc (pc + 4) = .ok (.ldc_w is, 3)) (d7 : decode cc (pc + 7) = .ok (.invokespecial ic, 3)) (d10 : decode cc (pc + 10) = .ok (.athrow, 1))
    (hRf : names.length + 3 < R.frames) (hRl : (rest.map fun v => v.category).sum + (13 * (names.length + 1) + 43) ≤ R.locals) (hRc : cells + 1 ≤ R.cells) (hRs : slots + 6 ≤ R.slots) (hc : cells + 1 ≤ mc) (hs : slots + 6 ≤ ms) :
    W p l e R s m args below meth c H locs cells slots (vx_MQ below (fun _ _ _ _ => False) (XcG D A E ws') args s mc ms A) (F0 m pc ls rest) := by
  have hat2 : ∀ w ∈ vx_atS own ic E names, w.before args s = true := by
    intro w hw
    obtain ⟨h1, h2⟩ := hat w hw
    rcases Bool.or_eq_true_iff.mp h2 with h | h
    · exact hG w (List.mem_filter.mpr ⟨h1, h⟩)
    · exact va_Nw.use (nw_tab h) (hGV.2.2.2.2.1 w (List.mem_filter.mpr ⟨h1, h⟩))
  have hgood : ∀ w ∈ Cond.classLink own ik E :: Cond.initialized E :: vx_atS own ic E names, vx_ot w = true := by
    intro w hw
    rcases List.mem_cons.mp hw with rfl | hw
    · rfl
    · rcases List.mem_cons.mp hw with rfl | hw
      · rfl
      · rcases Bool.or_eq_true_iff.mp (hat w hw).2 with h | h
        · unfold vx_ot; rw [h]; exact Bool.or_true _
        · unfold vx_ot; rw [nw_tab h]; rfl
  refine vx_throwSW hx hb hfl hown hcls hnames (hG _ hk) (hG _ hini) (hGV.2.2.2.1 i _ hi) hat2 hgood hGV.1.1 hGV.1.2 hS hlz d0 d3 d4 d7 d10 (fun x hx => (htab x hx).elim) hRf hRl hRc hRs hlocks ?_ hS.2.2 hc hs
  intro t ht hz hk9
  refine ⟨rfl, ⟨q, hP.kept (fun k z hz9 => hk9 _ (hP k z hz9).lt), hD⟩, Nat.le_trans hS.1 hz, fun x h1 h2 => ?_⟩
  rw [hk9 x (Nat.lt_of_lt_of_le h1 hS.1)]
  exact hS.2.1 x h1 h2
end KC
end
section
theorem dX6_init_0 : decode cX6_init 0 = .ok (.aload_n 0, 1) := by decide +kernel
theorem dX6_init_1 : decode cX6_init 1 = .ok (.invokespecial 3, 3) := by decide +kernel
theorem dX6_init_4 : decode cX6_init 4 = .ok (.aload_n 0, 1) := by decide +kernel
theorem dX6_init_5 : decode cX6_init 5 = .ok (.new 9, 3) := by decide +kernel
theorem dX6_init_8 : decode cX6_init 8 = .ok (.dup, 1) := by decide +kernel
theorem dX6_init_9 : decode cX6_init 9 = .ok (.invokespecial 11, 3) := by decide +kernel
theorem dX2_init_0 : decode cX2_init 0 = .ok (.aload_n 0, 1) := by decide +kernel
theorem dX2_init_1 : decode cX2_init 1 = .ok (.invokespecial 3, 3) := by decide +kernel
theorem dX2_init_4 : decode cX2_init 4 = .ok (.aload_n 0, 1) := by decide +kernel
theorem dX2_init_5 : decode cX2_init 5 = .ok (.bipush 16, 2) := by decide +kernel
theorem dX2_init_7 : decode cX2_init 7 = .ok (.newarray .int, 2) := by decide +kernel
theorem dX2_init_9 : decode cX2_init 9 = .ok (.putfield 9, 3) := by decide +kernel
theorem dX2_init_12 : decode cX2_init 12 = .ok (.aload_n 0, 1) := by decide +kernel
theorem dX2_init_13 : decode cX2_init 13 = .ok (.bipush 16, 2) := by decide +kernel
theorem dX2_init_15 : decode cX2_init 15 = .ok (.newarray .int, 2) := by decide +kernel
theorem dX2_init_17 : decode cX2_init 17 = .ok (.putfield 15, 3) := by decide +kernel
theorem dX2_init_20 : decode cX2_init 20 = .ok (.aload_n 0, 1) := by decide +kernel
theorem dX2_init_21 : decode cX2_init 21 = .ok (.bipush 8, 2) := by decide +kernel
theorem dX2_init_23 : decode cX2_init 23 = .ok (.newarray .int, 2) := by decide +kernel
theorem dX2_init_25 : decode cX2_init 25 = .ok (.putfield 18, 3) := by decide +kernel
theorem dX2_init_28 : decode cX2_init 28 = .ok (.aload_n 0, 1) := by decide +kernel
theorem dX2_init_29 : decode cX2_init 29 = .ok (.bipush 8, 2) := by decide +kernel
theorem dX2_init_31 : decode cX2_init 31 = .ok (.newarray .char, 2) := by decide +kernel
theorem dX2_init_33 : decode cX2_init 33 = .ok (.putfield 21, 3) := by decide +kernel
theorem dX2_init_36 : decode cX2_init 36 = .ok (.aload_n 0, 1) := by decide +kernel
theorem dX2_init_37 : decode cX2_init 37 = .ok (.bipush 9, 2) := by decide +kernel
theorem dX2_init_39 : decode cX2_init 39 = .ok (.newarray .int, 2) := by decide +kernel
theorem dX2_init_41 : decode cX2_init 41 = .ok (.putfield 25, 3) := by decide +kernel
theorem dX2_init_44 : decode cX2_init 44 = .ok (.aload_n 0, 1) := by decide +kernel
theorem dX2_init_45 : decode cX2_init 45 = .ok (.bipush 9, 2) := by decide +kernel
theorem dX2_init_47 : decode cX2_init 47 = .ok (.newarray .int, 2) := by decide +kernel
theorem dX2_init_49 : decode cX2_init 49 = .ok (.putfield 28, 3) := by decide +kernel
theorem dX2_init_52 : decode cX2_init 52 = .ok (.aload_n 0, 1) := by decide +kernel
theorem dX2_init_53 : decode cX2_init 53 = .ok (.bipush 9, 2) := by decide +kernel
theorem dX2_init_55 : decode cX2_init 55 = .ok (.newarray .int, 2) := by decide +kernel
theorem dX2_init_57 : decode cX2_init 57 = .ok (.putfield 31, 3) := by decide +kernel
theorem dX2_init_60 : decode cX2_init 60 = .ok (.aload_n 0, 1) := by decide +kernel
theorem dX2_init_61 : decode cX2_init 61 = .ok (.bipush 9, 2) := by decide +kernel
theorem dX2_init_63 : decode cX2_init 63 = .ok (.newarray .int, 2) := by decide +kernel
theorem dX2_init_65 : decode cX2_init 65 = .ok (.putfield 34, 3) := by decide +kernel
theorem dX2_init_68 : decode cX2_init 68 = .ok (.aload_n 0, 1) := by decide +kernel
theorem dX2_init_69 : decode cX2_init 69 = .ok (.bipush 9, 2) := by decide +kernel
theorem dX2_init_71 : decode cX2_init 71 = .ok (.newarray .int, 2) := by decide +kernel
theorem dX2_init_73 : decode cX2_init 73 = .ok (.putfield 37, 3) := by decide +kernel
theorem dX2_init_76 : decode cX2_init 76 = .ok (.aload_n 0, 1) := by decide +kernel
theorem dX2_init_77 : decode cX2_init 77 = .ok (.bipush 9, 2) := by decide +kernel
theorem dX2_init_79 : decode cX2_init 79 = .ok (.newarray .int, 2) := by decide +kernel
theorem dX2_init_81 : decode cX2_init 81 = .ok (.putfield 40, 3) := by decide +kernel
theorem dX2_init_84 : decode cX2_init 84 = .ok (.return_, 1) := by decide +kernel
theorem dX6_init_12 : decode cX6_init 12 = .ok (.putfield 12, 3) := by decide +kernel
theorem dX6_init_15 : decode cX6_init 15 = .ok (.aload_n 0, 1) := by decide +kernel
theorem dX6_init_16 : decode cX6_init 16 = .ok (.new 16, 3) := by decide +kernel
theorem dX6_init_19 : decode cX6_init 19 = .ok (.dup, 1) := by decide +kernel
theorem dX6_init_20 : decode cX6_init 20 = .ok (.invokespecial 18, 3) := by decide +kernel
theorem dX1_init_0 : decode cX1_init 0 = .ok (.aload_n 0, 1) := by decide +kernel
theorem dX1_init_1 : decode cX1_init 1 = .ok (.invokespecial 3, 3) := by decide +kernel
theorem dX1_init_4 : decode cX1_init 4 = .ok (.aload_n 0, 1) := by decide +kernel
theorem dX1_init_5 : decode cX1_init 5 = .ok (.bipush 25, 2) := by decide +kernel
theorem dX1_init_7 : decode cX1_init 7 = .ok (.newarray .long, 2) := by decide +kernel
theorem dX1_init_9 : decode cX1_init 9 = .ok (.putfield 11, 3) := by decide +kernel
theorem dX1_init_12 : decode cX1_init 12 = .ok (.aload_n 0, 1) := by decide +kernel
theorem dX1_init_13 : decode cX1_init 13 = .ok (.bipush 25, 2) := by decide +kernel
theorem dX1_init_15 : decode cX1_init 15 = .ok (.newarray .long, 2) := by decide +kernel
theorem dX1_init_17 : decode cX1_init 17 = .ok (.putfield 15, 3) := by decide +kernel
theorem dX1_init_20 : decode cX1_init 20 = .ok (.aload_n 0, 1) := by decide +kernel
theorem dX1_init_21 : decode cX1_init 21 = .ok (.bipush 9, 2) := by decide +kernel
theorem dX1_init_23 : decode cX1_init 23 = .ok (.newarray .long, 2) := by decide +kernel
theorem dX1_init_25 : decode cX1_init 25 = .ok (.putfield 18, 3) := by decide +kernel
theorem dX1_init_28 : decode cX1_init 28 = .ok (.aload_n 0, 1) := by decide +kernel
theorem dX1_init_29 : decode cX1_init 29 = .ok (.bipush 81, 2) := by decide +kernel
theorem dX1_init_31 : decode cX1_init 31 = .ok (.newarray .int, 2) := by decide +kernel
theorem dX1_init_33 : decode cX1_init 33 = .ok (.putfield 21, 3) := by decide +kernel
theorem dX1_init_36 : decode cX1_init 36 = .ok (.aload_n 0, 1) := by decide +kernel
theorem dX1_init_37 : decode cX1_init 37 = .ok (.bipush 9, 2) := by decide +kernel
theorem dX1_init_39 : decode cX1_init 39 = .ok (.newarray .int, 2) := by decide +kernel
theorem dX1_init_41 : decode cX1_init 41 = .ok (.putfield 25, 3) := by decide +kernel
theorem dX1_init_44 : decode cX1_init 44 = .ok (.aload_n 0, 1) := by decide +kernel
theorem dX1_init_45 : decode cX1_init 45 = .ok (.bipush 9, 2) := by decide +kernel
theorem dX1_init_47 : decode cX1_init 47 = .ok (.newarray .int, 2) := by decide +kernel
theorem dX1_init_49 : decode cX1_init 49 = .ok (.putfield 28, 3) := by decide +kernel
theorem dX1_init_52 : decode cX1_init 52 = .ok (.aload_n 0, 1) := by decide +kernel
theorem dX1_init_53 : decode cX1_init 53 = .ok (.sipush 512, 3) := by decide +kernel
theorem dX1_init_56 : decode cX1_init 56 = .ok (.newarray .long, 2) := by decide +kernel
theorem dX1_init_58 : decode cX1_init 58 = .ok (.putfield 31, 3) := by decide +kernel
theorem dX1_init_61 : decode cX1_init 61 = .ok (.aload_n 0, 1) := by decide +kernel
theorem dX1_init_62 : decode cX1_init 62 = .ok (.sipush 512, 3) := by decide +kernel
theorem dX1_init_65 : decode cX1_init 65 = .ok (.newarray .long, 2) := by decide +kernel
theorem dX1_init_67 : decode cX1_init 67 = .ok (.putfield 34, 3) := by decide +kernel
theorem dX1_init_70 : decode cX1_init 70 = .ok (.aload_n 0, 1) := by decide +kernel
theorem dX1_init_71 : decode cX1_init 71 = .ok (.sipush 512, 3) := by decide +kernel
theorem dX1_init_74 : decode cX1_init 74 = .ok (.newarray .long, 2) := by decide +kernel
theorem dX1_init_76 : decode cX1_init 76 = .ok (.putfield 37, 3) := by decide +kernel
theorem dX1_init_79 : decode cX1_init 79 = .ok (.aload_n 0, 1) := by decide +kernel
theorem dX1_init_80 : decode cX1_init 80 = .ok (.new 40, 3) := by decide +kernel
theorem dX1_init_83 : decode cX1_init 83 = .ok (.dup, 1) := by decide +kernel
theorem dX1_init_84 : decode cX1_init 84 = .ok (.invokespecial 42, 3) := by decide +kernel
theorem dX5_init_0 : decode cX5_init 0 = .ok (.aload_n 0, 1) := by decide +kernel
theorem dX5_init_1 : decode cX5_init 1 = .ok (.invokespecial 1, 3) := by decide +kernel
theorem dX5_init_4 : decode cX5_init 4 = .ok (.aload_n 0, 1) := by decide +kernel
theorem dX5_init_5 : decode cX5_init 5 = .ok (.bipush 8, 2) := by decide +kernel
theorem dX5_init_7 : decode cX5_init 7 = .ok (.newarray .long, 2) := by decide +kernel
theorem dX5_init_9 : decode cX5_init 9 = .ok (.putfield 9, 3) := by decide +kernel
theorem dX5_init_12 : decode cX5_init 12 = .ok (.return_, 1) := by decide +kernel
theorem dX1_init_87 : decode cX1_init 87 = .ok (.putfield 43, 3) := by decide +kernel
theorem dX1_init_90 : decode cX1_init 90 = .ok (.aload_n 0, 1) := by decide +kernel
theorem dX1_init_91 : decode cX1_init 91 = .ok (.new 40, 3) := by decide +kernel
theorem dX1_init_94 : decode cX1_init 94 = .ok (.dup, 1) := by decide +kernel
theorem dX1_init_95 : decode cX1_init 95 = .ok (.invokespecial 42, 3) := by decide +kernel
theorem dX1_init_98 : decode cX1_init 98 = .ok (.putfield 47, 3) := by decide +kernel
theorem dX1_init_101 : decode cX1_init 101 = .ok (.aload_n 0, 1) := by decide +kernel
theorem dX1_init_102 : decode cX1_init 102 = .ok (.new 40, 3) := by decide +kernel
theorem dX1_init_105 : decode cX1_init 105 = .ok (.dup, 1) := by decide +kernel
theorem dX1_init_106 : decode cX1_init 106 = .ok (.invokespecial 42, 3) := by decide +kernel
theorem dX1_init_109 : decode cX1_init 109 = .ok (.putfield 50, 3) := by decide +kernel
theorem dX1_init_112 : decode cX1_init 112 = .ok (.aload_n 0, 1) := by decide +kernel
theorem dX1_init_113 : decode cX1_init 113 = .ok (.new 40, 3) := by decide +kernel
theorem dX1_init_116 : decode cX1_init 116 = .ok (.dup, 1) := by decide +kernel
theorem dX1_init_117 : decode cX1_init 117 = .ok (.invokespecial 42, 3) := by decide +kernel
theorem dX1_init_120 : decode cX1_init 120 = .ok (.putfield 53, 3) := by decide +kernel
theorem dX1_init_123 : decode cX1_init 123 = .ok (.aload_n 0, 1) := by decide +kernel
theorem dX1_init_124 : decode cX1_init 124 = .ok (.new 40, 3) := by decide +kernel
theorem dX1_init_127 : decode cX1_init 127 = .ok (.dup, 1) := by decide +kernel
theorem dX1_init_128 : decode cX1_init 128 = .ok (.invokespecial 42, 3) := by decide +kernel
theorem dX1_init_131 : decode cX1_init 131 = .ok (.putfield 56, 3) := by decide +kernel
theorem dX1_init_134 : decode cX1_init 134 = .ok (.return_, 1) := by decide +kernel
theorem dX6_init_23 : decode cX6_init 23 = .ok (.putfield 19, 3) := by decide +kernel
theorem dX6_init_26 : decode cX6_init 26 = .ok (.aload_n 0, 1) := by decide +kernel
theorem dX6_init_27 : decode cX6_init 27 = .ok (.new 23, 3) := by decide +kernel
theorem dX6_init_30 : decode cX6_init 30 = .ok (.dup, 1) := by decide +kernel
theorem dX6_init_31 : decode cX6_init 31 = .ok (.invokespecial 25, 3) := by decide +kernel
theorem dX3_init_0 : decode cX3_init 0 = .ok (.aload_n 0, 1) := by decide +kernel
theorem dX3_init_1 : decode cX3_init 1 = .ok (.invokespecial 3, 3) := by decide +kernel
theorem dX3_init_4 : decode cX3_init 4 = .ok (.aload_n 0, 1) := by decide +kernel
theorem dX3_init_5 : decode cX3_init 5 = .ok (.bipush 12, 2) := by decide +kernel
theorem dX3_init_7 : decode cX3_init 7 = .ok (.newarray .int, 2) := by decide +kernel
theorem dX3_init_9 : decode cX3_init 9 = .ok (.putfield 9, 3) := by decide +kernel
theorem dX3_init_12 : decode cX3_init 12 = .ok (.aload_n 0, 1) := by decide +kernel
theorem dX3_init_13 : decode cX3_init 13 = .ok (.bipush 12, 2) := by decide +kernel
theorem dX3_init_15 : decode cX3_init 15 = .ok (.newarray .int, 2) := by decide +kernel
theorem dX3_init_17 : decode cX3_init 17 = .ok (.putfield 15, 3) := by decide +kernel
theorem dX3_init_20 : decode cX3_init 20 = .ok (.aload_n 0, 1) := by decide +kernel
theorem dX3_init_21 : decode cX3_init 21 = .ok (.bipush 12, 2) := by decide +kernel
theorem dX3_init_23 : decode cX3_init 23 = .ok (.newarray .int, 2) := by decide +kernel
theorem dX3_init_25 : decode cX3_init 25 = .ok (.putfield 18, 3) := by decide +kernel
theorem dX3_init_28 : decode cX3_init 28 = .ok (.aload_n 0, 1) := by decide +kernel
theorem dX3_init_29 : decode cX3_init 29 = .ok (.bipush 12, 2) := by decide +kernel
theorem dX3_init_31 : decode cX3_init 31 = .ok (.newarray .int, 2) := by decide +kernel
theorem dX3_init_33 : decode cX3_init 33 = .ok (.putfield 21, 3) := by decide +kernel
theorem dX3_init_36 : decode cX3_init 36 = .ok (.aload_n 0, 1) := by decide +kernel
theorem dX3_init_37 : decode cX3_init 37 = .ok (.bipush 12, 2) := by decide +kernel
theorem dX3_init_39 : decode cX3_init 39 = .ok (.newarray .int, 2) := by decide +kernel
theorem dX3_init_41 : decode cX3_init 41 = .ok (.putfield 24, 3) := by decide +kernel
theorem dX3_init_44 : decode cX3_init 44 = .ok (.return_, 1) := by decide +kernel
theorem dX6_init_34 : decode cX6_init 34 = .ok (.putfield 26, 3) := by decide +kernel
theorem dX6_init_37 : decode cX6_init 37 = .ok (.aload_n 0, 1) := by decide +kernel
theorem dX6_init_38 : decode cX6_init 38 = .ok (.new 30, 3) := by decide +kernel
theorem dX6_init_41 : decode cX6_init 41 = .ok (.dup, 1) := by decide +kernel
theorem dX6_init_42 : decode cX6_init 42 = .ok (.invokespecial 32, 3) := by decide +kernel
theorem dX0_init_0 : decode cX0_init 0 = .ok (.aload_n 0, 1) := by decide +kernel
theorem dX0_init_1 : decode cX0_init 1 = .ok (.invokespecial 3, 3) := by decide +kernel
theorem dX0_init_4 : decode cX0_init 4 = .ok (.aload_n 0, 1) := by decide +kernel
theorem dX0_init_5 : decode cX0_init 5 = .ok (.bipush 9, 2) := by decide +kernel
theorem dX0_init_7 : decode cX0_init 7 = .ok (.newarray .int, 2) := by decide +kernel
theorem dX0_init_9 : decode cX0_init 9 = .ok (.putfield 9, 3) := by decide +kernel
theorem dX0_init_12 : decode cX0_init 12 = .ok (.aload_n 0, 1) := by decide +kernel
theorem dX0_init_13 : decode cX0_init 13 = .ok (.iconst 5, 1) := by decide +kernel
theorem dX0_init_14 : decode cX0_init 14 = .ok (.newarray .int, 2) := by decide +kernel
theorem dX0_init_16 : decode cX0_init 16 = .ok (.putfield 15, 3) := by decide +kernel
theorem dX0_init_19 : decode cX0_init 19 = .ok (.aload_n 0, 1) := by decide +kernel
theorem dX0_init_20 : decode cX0_init 20 = .ok (.iconst 5, 1) := by decide +kernel
theorem dX0_init_21 : decode cX0_init 21 = .ok (.newarray .int, 2) := by decide +kernel
theorem dX0_init_23 : decode cX0_init 23 = .ok (.putfield 18, 3) := by decide +kernel
theorem dX0_init_26 : decode cX0_init 26 = .ok (.aload_n 0, 1) := by decide +kernel
theorem dX0_init_27 : decode cX0_init 27 = .ok (.iconst 5, 1) := by decide +kernel
theorem dX0_init_28 : decode cX0_init 28 = .ok (.newarray .int, 2) := by decide +kernel
theorem dX0_init_30 : decode cX0_init 30 = .ok (.putfield 21, 3) := by decide +kernel
theorem dX0_init_33 : decode cX0_init 33 = .ok (.aload_n 0, 1) := by decide +kernel
theorem dX0_init_34 : decode cX0_init 34 = .ok (.sipush 512, 3) := by decide +kernel
theorem dX0_init_37 : decode cX0_init 37 = .ok (.newarray .int, 2) := by decide +kernel
theorem dX0_init_39 : decode cX0_init 39 = .ok (.putfield 24, 3) := by decide +kernel
theorem dX0_init_42 : decode cX0_init 42 = .ok (.aload_n 0, 1) := by decide +kernel
theorem dX0_init_43 : decode cX0_init 43 = .ok (.sipush 512, 3) := by decide +kernel
theorem dX0_init_46 : decode cX0_init 46 = .ok (.newarray .int, 2) := by decide +kernel
theorem dX0_init_48 : decode cX0_init 48 = .ok (.putfield 27, 3) := by decide +kernel
theorem dX0_init_51 : decode cX0_init 51 = .ok (.aload_n 0, 1) := by decide +kernel
theorem dX0_init_52 : decode cX0_init 52 = .ok (.sipush 512, 3) := by decide +kernel
theorem dX0_init_55 : decode cX0_init 55 = .ok (.newarray .long, 2) := by decide +kernel
theorem dX0_init_57 : decode cX0_init 57 = .ok (.putfield 30, 3) := by decide +kernel
theorem dX0_init_60 : decode cX0_init 60 = .ok (.return_, 1) := by decide +kernel
theorem dX6_init_45 : decode cX6_init 45 = .ok (.putfield 33, 3) := by decide +kernel
theorem dX6_init_48 : decode cX6_init 48 = .ok (.aload_n 0, 1) := by decide +kernel
theorem dX6_init_49 : decode cX6_init 49 = .ok (.new 37, 3) := by decide +kernel
theorem dX6_init_52 : decode cX6_init 52 = .ok (.dup, 1) := by decide +kernel
theorem dX6_init_53 : decode cX6_init 53 = .ok (.invokespecial 39, 3) := by decide +kernel
theorem dX4_init_0 : decode cX4_init 0 = .ok (.aload_n 0, 1) := by decide +kernel
theorem dX4_init_1 : decode cX4_init 1 = .ok (.invokespecial 3, 3) := by decide +kernel
theorem dX4_init_4 : decode cX4_init 4 = .ok (.aload_n 0, 1) := by decide +kernel
theorem dX4_init_5 : decode cX4_init 5 = .ok (.iconst 2, 1) := by decide +kernel
theorem dX4_init_6 : decode cX4_init 6 = .ok (.putfield 9, 3) := by decide +kernel
theorem dX4_init_9 : decode cX4_init 9 = .ok (.aload_n 0, 1) := by decide +kernel
theorem dX4_init_10 : decode cX4_init 10 = .ok (.bipush 45, 2) := by decide +kernel
theorem dX4_init_12 : decode cX4_init 12 = .ok (.newarray .int, 2) := by decide +kernel
theorem dX4_init_14 : decode cX4_init 14 = .ok (.putfield 17, 3) := by decide +kernel
theorem dX4_init_17 : decode cX4_init 17 = .ok (.aload_n 0, 1) := by decide +kernel
theorem dX4_init_18 : decode cX4_init 18 = .ok (.bipush 9, 2) := by decide +kernel
theorem dX4_init_20 : decode cX4_init 20 = .ok (.newarray .int, 2) := by decide +kernel
theorem dX4_init_22 : decode cX4_init 22 = .ok (.putfield 21, 3) := by decide +kernel
theorem dX4_init_25 : decode cX4_init 25 = .ok (.aload_n 0, 1) := by decide +kernel
theorem dX4_init_26 : decode cX4_init 26 = .ok (.sipush 512, 3) := by decide +kernel
theorem dX4_init_29 : decode cX4_init 29 = .ok (.newarray .int, 2) := by decide +kernel
theorem dX4_init_31 : decode cX4_init 31 = .ok (.putfield 24, 3) := by decide +kernel
theorem dX4_init_34 : decode cX4_init 34 = .ok (.aload_n 0, 1) := by decide +kernel
theorem dX4_init_35 : decode cX4_init 35 = .ok (.sipush 512, 3) := by decide +kernel
theorem dX4_init_38 : decode cX4_init 38 = .ok (.newarray .boolean, 2) := by decide +kernel
theorem dX4_init_40 : decode cX4_init 40 = .ok (.putfield 27, 3) := by decide +kernel
theorem dX4_init_43 : decode cX4_init 43 = .ok (.aload_n 0, 1) := by decide +kernel
theorem dX4_init_44 : decode cX4_init 44 = .ok (.bipush 9, 2) := by decide +kernel
theorem dX4_init_46 : decode cX4_init 46 = .ok (.newarray .int, 2) := by decide +kernel
theorem dX4_init_48 : decode cX4_init 48 = .ok (.putfield 31, 3) := by decide +kernel
theorem dX4_init_51 : decode cX4_init 51 = .ok (.return_, 1) := by decide +kernel
theorem dX6_init_56 : decode cX6_init 56 = .ok (.putfield 40, 3) := by decide +kernel
theorem dX6_init_59 : decode cX6_init 59 = .ok (.return_, 1) := by decide +kernel
theorem dX12_init_0 : decode cX12_init 0 = .ok (.aload_n 0, 1) := by decide +kernel
theorem dX12_init_1 : decode cX12_init 1 = .ok (.invokespecial 1, 3) := by decide +kernel
theorem dX12_init_4 : decode cX12_init 4 = .ok (.aload_n 0, 1) := by decide +kernel
theorem dX12_init_5 : decode cX12_init 5 = .ok (.new 7, 3) := by decide +kernel
theorem dX12_init_8 : decode cX12_init 8 = .ok (.dup, 1) := by decide +kernel
theorem dX12_init_9 : decode cX12_init 9 = .ok (.invokespecial 9, 3) := by decide +kernel
theorem dJx4a65c_init_da8c8_0 : decode cJx4a65c_init_da8c8 0 = .ok (.aload_n 0, 1) := by decide +kernel
theorem dJx4a65c_init_da8c8_1 : decode cJx4a65c_init_da8c8 1 = .ok (.invokespecial 1, 3) := by decide +kernel
theorem dJxc12de_init_da8c8_0 : decode cJxc12de_init_da8c8 0 = .ok (.aload_n 0, 1) := by decide +kernel
theorem dJxc12de_init_da8c8_1 : decode cJxc12de_init_da8c8 1 = .ok (.invokespecial 1, 3) := by decide +kernel
theorem dJxa1e45_init_da8c8_0 : decode cJxa1e45_init_da8c8 0 = .ok (.aload_n 0, 1) := by decide +kernel
theorem dJxa1e45_init_da8c8_1 : decode cJxa1e45_init_da8c8 1 = .ok (.invokespecial 1, 3) := by decide +kernel
theorem dJxa1e45_init_da8c8_4 : decode cJxa1e45_init_da8c8 4 = .ok (.return_, 1) := by decide +kernel
theorem dJxc12de_init_da8c8_4 : decode cJxc12de_init_da8c8 4 = .ok (.aload_n 0, 1) := by decide +kernel
theorem dJxc12de_init_da8c8_5 : decode cJxc12de_init_da8c8 5 = .ok (.iconst 0, 1) := by decide +kernel
theorem dJxc12de_init_da8c8_6 : decode cJxc12de_init_da8c8 6 = .ok (.putfield 7, 3) := by decide +kernel
theorem dJxc12de_init_da8c8_9 : decode cJxc12de_init_da8c8 9 = .ok (.return_, 1) := by decide +kernel
theorem dJx4a65c_init_da8c8_4 : decode cJx4a65c_init_da8c8 4 = .ok (.aload_n 0, 1) := by decide +kernel
theorem dJx4a65c_init_da8c8_5 : decode cJx4a65c_init_da8c8 5 = .ok (.getstatic 39, 3) := by decide +kernel
theorem dJx4a65c_init_da8c8_8 : decode cJx4a65c_init_da8c8 8 = .ok (.putfield 9, 3) := by decide +kernel
theorem dJx4a65c_init_da8c8_11 : decode cJx4a65c_init_da8c8 11 = .ok (.return_, 1) := by decide +kernel
theorem dX12_init_12 : decode cX12_init 12 = .ok (.putfield 10, 3) := by decide +kernel
theorem dX12_init_15 : decode cX12_init 15 = .ok (.aload_n 0, 1) := by decide +kernel
theorem dX12_init_16 : decode cX12_init 16 = .ok (.new 7, 3) := by decide +kernel
theorem dX12_init_19 : decode cX12_init 19 = .ok (.dup, 1) := by decide +kernel
theorem dX12_init_20 : decode cX12_init 20 = .ok (.invokespecial 9, 3) := by decide +kernel
theorem dX12_init_23 : decode cX12_init 23 = .ok (.putfield 16, 3) := by decide +kernel
theorem dX12_init_26 : decode cX12_init 26 = .ok (.aload_n 0, 1) := by decide +kernel
theorem dX12_init_27 : decode cX12_init 27 = .ok (.new 7, 3) := by decide +kernel
theorem dX12_init_30 : decode cX12_init 30 = .ok (.dup, 1) := by decide +kernel
theorem dX12_init_31 : decode cX12_init 31 = .ok (.invokespecial 9, 3) := by decide +kernel
theorem dX12_init_34 : decode cX12_init 34 = .ok (.putfield 19, 3) := by decide +kernel
theorem dX12_init_37 : decode cX12_init 37 = .ok (.aload_n 0, 1) := by decide +kernel
theorem dX12_init_38 : decode cX12_init 38 = .ok (.new 7, 3) := by decide +kernel
theorem dX12_init_41 : decode cX12_init 41 = .ok (.dup, 1) := by decide +kernel
theorem dX12_init_42 : decode cX12_init 42 = .ok (.invokespecial 9, 3) := by decide +kernel
theorem dX12_init_45 : decode cX12_init 45 = .ok (.putfield 22, 3) := by decide +kernel
theorem dX12_init_48 : decode cX12_init 48 = .ok (.aload_n 0, 1) := by decide +kernel
theorem dX12_init_49 : decode cX12_init 49 = .ok (.sipush 512, 3) := by decide +kernel
theorem dX12_init_52 : decode cX12_init 52 = .ok (.newarray .long, 2) := by decide +kernel
theorem dX12_init_54 : decode cX12_init 54 = .ok (.putfield 25, 3) := by decide +kernel
theorem dX12_init_57 : decode cX12_init 57 = .ok (.aload_n 0, 1) := by decide +kernel
theorem dX12_init_58 : decode cX12_init 58 = .ok (.bipush 9, 2) := by decide +kernel
theorem dX12_init_60 : decode cX12_init 60 = .ok (.newarray .long, 2) := by decide +kernel
theorem dX12_init_62 : decode cX12_init 62 = .ok (.putfield 29, 3) := by decide +kernel
theorem dX12_init_65 : decode cX12_init 65 = .ok (.aload_n 0, 1) := by decide +kernel
theorem dX12_init_66 : decode cX12_init 66 = .ok (.bipush 9, 2) := by decide +kernel
theorem dX12_init_68 : decode cX12_init 68 = .ok (.newarray .long, 2) := by decide +kernel
theorem dX12_init_70 : decode cX12_init 70 = .ok (.putfield 32, 3) := by decide +kernel
theorem dX12_init_73 : decode cX12_init 73 = .ok (.aload_n 0, 1) := by decide +kernel
theorem dX12_init_74 : decode cX12_init 74 = .ok (.sipush 512, 3) := by decide +kernel
theorem dX12_init_77 : decode cX12_init 77 = .ok (.newarray .boolean, 2) := by decide +kernel
theorem dX12_init_79 : decode cX12_init 79 = .ok (.putfield 35, 3) := by decide +kernel
theorem dX12_init_82 : decode cX12_init 82 = .ok (.aload_n 0, 1) := by decide +kernel
theorem dX12_init_83 : decode cX12_init 83 = .ok (.sipush 512, 3) := by decide +kernel
theorem dX12_init_86 : decode cX12_init 86 = .ok (.newarray .boolean, 2) := by decide +kernel
theorem dX12_init_88 : decode cX12_init 88 = .ok (.putfield 39, 3) := by decide +kernel
theorem dX12_init_91 : decode cX12_init 91 = .ok (.aload_n 0, 1) := by decide +kernel
theorem dX12_init_92 : decode cX12_init 92 = .ok (.sipush 512, 3) := by decide +kernel
theorem dX12_init_95 : decode cX12_init 95 = .ok (.newarray .int, 2) := by decide +kernel
theorem dX12_init_97 : decode cX12_init 97 = .ok (.putfield 42, 3) := by decide +kernel
theorem dX12_init_100 : decode cX12_init 100 = .ok (.aload_n 0, 1) := by decide +kernel
theorem dX12_init_101 : decode cX12_init 101 = .ok (.bipush 9, 2) := by decide +kernel
theorem dX12_init_103 : decode cX12_init 103 = .ok (.newarray .int, 2) := by decide +kernel
theorem dX12_init_105 : decode cX12_init 105 = .ok (.putfield 46, 3) := by decide +kernel
theorem dX12_init_108 : decode cX12_init 108 = .ok (.aload_n 0, 1) := by decide +kernel
theorem dX12_init_109 : decode cX12_init 109 = .ok (.bipush 9, 2) := by decide +kernel
theorem dX12_init_111 : decode cX12_init 111 = .ok (.newarray .int, 2) := by decide +kernel
theorem dX12_init_113 : decode cX12_init 113 = .ok (.putfield 49, 3) := by decide +kernel
theorem dX12_init_116 : decode cX12_init 116 = .ok (.aload_n 0, 1) := by decide +kernel
theorem dX12_init_117 : decode cX12_init 117 = .ok (.bipush 9, 2) := by decide +kernel
theorem dX12_init_119 : decode cX12_init 119 = .ok (.newarray .int, 2) := by decide +kernel
theorem dX12_init_121 : decode cX12_init 121 = .ok (.putfield 52, 3) := by decide +kernel
theorem dX12_init_124 : decode cX12_init 124 = .ok (.aload_n 0, 1) := by decide +kernel
theorem dX12_init_125 : decode cX12_init 125 = .ok (.iconst 5, 1) := by decide +kernel
theorem dX12_init_126 : decode cX12_init 126 = .ok (.newarray .int, 2) := by decide +kernel
theorem dX12_init_128 : decode cX12_init 128 = .ok (.putfield 55, 3) := by decide +kernel
theorem dX12_init_131 : decode cX12_init 131 = .ok (.aload_n 0, 1) := by decide +kernel
theorem dX12_init_132 : decode cX12_init 132 = .ok (.bipush 9, 2) := by decide +kernel
theorem dX12_init_134 : decode cX12_init 134 = .ok (.newarray .int, 2) := by decide +kernel
theorem dX12_init_136 : decode cX12_init 136 = .ok (.putfield 58, 3) := by decide +kernel
theorem dX12_init_139 : decode cX12_init 139 = .ok (.aload_n 0, 1) := by decide +kernel
theorem dX12_init_140 : decode cX12_init 140 = .ok (.sipush 512, 3) := by decide +kernel
theorem dX12_init_143 : decode cX12_init 143 = .ok (.newarray .int, 2) := by decide +kernel
theorem dX12_init_145 : decode cX12_init 145 = .ok (.putfield 61, 3) := by decide +kernel
theorem dX12_init_148 : decode cX12_init 148 = .ok (.aload_n 0, 1) := by decide +kernel
theorem dX12_init_149 : decode cX12_init 149 = .ok (.sipush 512, 3) := by decide +kernel
theorem dX12_init_152 : decode cX12_init 152 = .ok (.newarray .int, 2) := by decide +kernel
theorem dX12_init_154 : decode cX12_init 154 = .ok (.putfield 64, 3) := by decide +kernel
theorem dX12_init_157 : decode cX12_init 157 = .ok (.aload_n 0, 1) := by decide +kernel
theorem dX12_init_158 : decode cX12_init 158 = .ok (.sipush 512, 3) := by decide +kernel
theorem dX12_init_161 : decode cX12_init 161 = .ok (.newarray .int, 2) := by decide +kernel
theorem dX12_init_163 : decode cX12_init 163 = .ok (.putfield 67, 3) := by decide +kernel
theorem dX12_init_166 : decode cX12_init 166 = .ok (.aload_n 0, 1) := by decide +kernel
theorem dX12_init_167 : decode cX12_init 167 = .ok (.iconst 2, 1) := by decide +kernel
theorem dX12_init_168 : decode cX12_init 168 = .ok (.putfield 70, 3) := by decide +kernel
theorem dX12_init_171 : decode cX12_init 171 = .ok (.return_, 1) := by decide +kernel
theorem gw117 : Cond.methodLink RX6 3 objectInit ∈ GW := gw_of (i := 117) (by decide +kernel) rfl
theorem gw118 : Cond.instanceMethod objectInit ∈ GW := gw_of (i := 118) (by decide +kernel) rfl
theorem gw119 : Cond.code objectInit ⟨#[0xb1]⟩ 1 none ∈ GW := gw_of (i := 119) (by decide +kernel) rfl
theorem gw120 : Cond.classLink RX6 9 RX2 ∈ GW := gw_of (i := 120) (by decide +kernel) rfl
theorem gw121 : Cond.instantiable RX2 12 ∈ GW := gw_of (i := 121) (by decide +kernel) rfl
theorem gw76 : Cond.initialized RX2 ∈ GW := gw_of (i := 76) (by decide +kernel) rfl
theorem gw125 : Cond.methodLink RX2 3 objectInit ∈ GW := gw_of (i := 125) (by decide +kernel) rfl
theorem gw178 : Cond.arrayClass .int ∈ GW := gw_of (i := 178) (by decide +kernel) rfl
theorem gw134 : Cond.fieldLink RX2 9 "Tenonyard$Frame" "places" "[I" ∈ GW := gw_of (i := 134) (by decide +kernel) rfl
theorem gw136 : Cond.fieldLink RX2 15 "Tenonyard$Frame" "loads" "[I" ∈ GW := gw_of (i := 136) (by decide +kernel) rfl
theorem gw138 : Cond.fieldLink RX2 18 "Tenonyard$Frame" "loadCounts" "[I" ∈ GW := gw_of (i := 138) (by decide +kernel) rfl
theorem gw179 : Cond.arrayClass .char ∈ GW := gw_of (i := 179) (by decide +kernel) rfl
theorem gw139 : Cond.fieldLink RX2 21 "Tenonyard$Frame" "kinds" "[C" ∈ GW := gw_of (i := 139) (by decide +kernel) rfl
theorem gw140 : Cond.fieldLink RX2 25 "Tenonyard$Frame" "firstNodes" "[I" ∈ GW := gw_of (i := 140) (by decide +kernel) rfl
theorem gw141 : Cond.fieldLink RX2 28 "Tenonyard$Frame" "secondNodes" "[I" ∈ GW := gw_of (i := 141) (by decide +kernel) rfl
theorem gw142 : Cond.fieldLink RX2 31 "Tenonyard$Frame" "breadths" "[I" ∈ GW := gw_of (i := 142) (by decide +kernel) rfl
theorem gw145 : Cond.fieldLink RX2 34 "Tenonyard$Frame" "grades" "[I" ∈ GW := gw_of (i := 145) (by decide +kernel) rfl
theorem gw147 : Cond.fieldLink RX2 37 "Tenonyard$Frame" "cutMoistures" "[I" ∈ GW := gw_of (i := 147) (by decide +kernel) rfl
theorem gw150 : Cond.fieldLink RX2 40 "Tenonyard$Frame" "driedMoistures" "[I" ∈ GW := gw_of (i := 150) (by decide +kernel) rfl
theorem gw123 : Cond.instanceMethod yX2_init ∈ GW := gw_of (i := 123) (by decide +kernel) rfl
theorem gw124 : Cond.code yX2_init cX2_init 1 none ∈ GW := gw_of (i := 124) (by decide +kernel) rfl
theorem gw122 : Cond.methodLinkNest RX6 11 yX2_init "Tenonyard" ∈ NW := nw_of (i := 122) (by decide +kernel) rfl
theorem gw363 : Cond.fieldLink RX6 12 "Tenonyard" "frame" "LTenonyard$Frame;" ∈ GW := gw_of (i := 363) (by decide +kernel) rfl
theorem gw180 : Cond.classLink RX6 16 RX1 ∈ GW := gw_of (i := 180) (by decide +kernel) rfl
theorem gw181 : Cond.instantiable RX1 17 ∈ GW := gw_of (i := 181) (by decide +kernel) rfl
theorem gw77 : Cond.initialized RX1 ∈ GW := gw_of (i := 77) (by decide +kernel) rfl
theorem gw185 : Cond.methodLink RX1 3 objectInit ∈ GW := gw_of (i := 185) (by decide +kernel) rfl
theorem gw196 : Cond.arrayClass .long ∈ GW := gw_of (i := 196) (by decide +kernel) rfl
theorem gw202 : Cond.fieldLink RX1 11 "Tenonyard$Forces" "wholes" "[J" ∈ GW := gw_of (i := 202) (by decide +kernel) rfl
theorem gw203 : Cond.fieldLink RX1 15 "Tenonyard$Forces" "rests" "[J" ∈ GW := gw_of (i := 203) (by decide +kernel) rfl
theorem gw204 : Cond.fieldLink RX1 18 "Tenonyard$Forces" "amounts" "[J" ∈ GW := gw_of (i := 204) (by decide +kernel) rfl
theorem gw206 : Cond.fieldLink RX1 21 "Tenonyard$Forces" "ways" "[I" ∈ GW := gw_of (i := 206) (by decide +kernel) rfl
theorem gw207 : Cond.fieldLink RX1 25 "Tenonyard$Forces" "highAsked" "[I" ∈ GW := gw_of (i := 207) (by decide +kernel) rfl
theorem gw208 : Cond.fieldLink RX1 28 "Tenonyard$Forces" "lowAsked" "[I" ∈ GW := gw_of (i := 208) (by decide +kernel) rfl
theorem gw209 : Cond.fieldLink RX1 31 "Tenonyard$Forces" "plain" "[J" ∈ GW := gw_of (i := 209) (by decide +kernel) rfl
theorem gw210 : Cond.fieldLink RX1 34 "Tenonyard$Forces" "high" "[J" ∈ GW := gw_of (i := 210) (by decide +kernel) rfl
theorem gw211 : Cond.fieldLink RX1 37 "Tenonyard$Forces" "low" "[J" ∈ GW := gw_of (i := 211) (by decide +kernel) rfl
theorem gw186 : Cond.classLink RX1 40 RX5 ∈ GW := gw_of (i := 186) (by decide +kernel) rfl
theorem gw187 : Cond.instantiable RX5 1 ∈ GW := gw_of (i := 187) (by decide +kernel) rfl
theorem gw78 : Cond.initialized RX5 ∈ GW := gw_of (i := 78) (by decide +kernel) rfl
theorem gw191 : Cond.methodLink RX5 1 objectInit ∈ GW := gw_of (i := 191) (by decide +kernel) rfl
theorem gw192 : Cond.fieldLink RX5 9 "Tenonyard$Wide" "parts" "[J" ∈ GW := gw_of (i := 192) (by decide +kernel) rfl
theorem gw189 : Cond.instanceMethod yX5_init ∈ GW := gw_of (i := 189) (by decide +kernel) rfl
theorem gw190 : Cond.code yX5_init cX5_init 1 none ∈ GW := gw_of (i := 190) (by decide +kernel) rfl
theorem gw188 : Cond.methodLinkNest RX1 42 yX5_init "Tenonyard" ∈ NW := nw_of (i := 188) (by decide +kernel) rfl
theorem gw212 : Cond.fieldLink RX1 43 "Tenonyard$Forces" "factor" "LTenonyard$Wide;" ∈ GW := gw_of (i := 212) (by decide +kernel) rfl
theorem gw213 : Cond.fieldLink RX1 47 "Tenonyard$Forces" "wideDivisor" "LTenonyard$Wide;" ∈ GW := gw_of (i := 213) (by decide +kernel) rfl
theorem gw214 : Cond.fieldLink RX1 50 "Tenonyard$Forces" "product" "LTenonyard$Wide;" ∈ GW := gw_of (i := 214) (by decide +kernel) rfl
theorem gw215 : Cond.fieldLink RX1 53 "Tenonyard$Forces" "square" "LTenonyard$Wide;" ∈ GW := gw_of (i := 215) (by decide +kernel) rfl
theorem gw216 : Cond.fieldLink RX1 56 "Tenonyard$Forces" "greatestSquare" "LTenonyard$Wide;" ∈ GW := gw_of (i := 216) (by decide +kernel) rfl
theorem gw183 : Cond.instanceMethod yX1_init ∈ GW := gw_of (i := 183) (by decide +kernel) rfl
theorem gw184 : Cond.code yX1_init cX1_init 1 none ∈ GW := gw_of (i := 184) (by decide +kernel) rfl
theorem gw182 : Cond.methodLinkNest RX6 18 yX1_init "Tenonyard" ∈ NW := nw_of (i := 182) (by decide +kernel) rfl
theorem gw364 : Cond.fieldLink RX6 19 "Tenonyard" "forces" "LTenonyard$Forces;" ∈ GW := gw_of (i := 364) (by decide +kernel) rfl
theorem gw252 : Cond.classLink RX6 23 RX3 ∈ GW := gw_of (i := 252) (by decide +kernel) rfl
theorem gw253 : Cond.instantiable RX3 6 ∈ GW := gw_of (i := 253) (by decide +kernel) rfl
theorem gw79 : Cond.initialized RX3 ∈ GW := gw_of (i := 79) (by decide +kernel) rfl
theorem gw257 : Cond.methodLink RX3 3 objectInit ∈ GW := gw_of (i := 257) (by decide +kernel) rfl
theorem gw261 : Cond.fieldLink RX3 9 "Tenonyard$Joinery" "goingIn" "[I" ∈ GW := gw_of (i := 261) (by decide +kernel) rfl
theorem gw262 : Cond.fieldLink RX3 15 "Tenonyard$Joinery" "receiving" "[I" ∈ GW := gw_of (i := 262) (by decide +kernel) rfl
theorem gw263 : Cond.fieldLink RX3 18 "Tenonyard$Joinery" "ways" "[I" ∈ GW := gw_of (i := 263) (by decide +kernel) rfl
theorem gw264 : Cond.fieldLink RX3 21 "Tenonyard$Joinery" "thicknesses" "[I" ∈ GW := gw_of (i := 264) (by decide +kernel) rfl
theorem gw265 : Cond.fieldLink RX3 24 "Tenonyard$Joinery" "marks" "[I" ∈ GW := gw_of (i := 265) (by decide +kernel) rfl
theorem gw255 : Cond.instanceMethod yX3_init ∈ GW := gw_of (i := 255) (by decide +kernel) rfl
theorem gw256 : Cond.code yX3_init cX3_init 1 none ∈ GW := gw_of (i := 256) (by decide +kernel) rfl
theorem gw254 : Cond.methodLinkNest RX6 25 yX3_init "Tenonyard" ∈ NW := nw_of (i := 254) (by decide +kernel) rfl
theorem gw365 : Cond.fieldLink RX6 26 "Tenonyard" "joinery" "LTenonyard$Joinery;" ∈ GW := gw_of (i := 365) (by decide +kernel) rfl
theorem gw279 : Cond.classLink RX6 30 RX0 ∈ GW := gw_of (i := 279) (by decide +kernel) rfl
theorem gw280 : Cond.instantiable RX0 11 ∈ GW := gw_of (i := 280) (by decide +kernel) rfl
theorem gw80 : Cond.initialized RX0 ∈ GW := gw_of (i := 80) (by decide +kernel) rfl
theorem gw284 : Cond.methodLink RX0 3 objectInit ∈ GW := gw_of (i := 284) (by decide +kernel) rfl
theorem gw293 : Cond.fieldLink RX0 9 "Tenonyard$Cutting" "chosen" "[I" ∈ GW := gw_of (i := 293) (by decide +kernel) rfl
theorem gw295 : Cond.fieldLink RX0 15 "Tenonyard$Cutting" "lengths" "[I" ∈ GW := gw_of (i := 295) (by decide +kernel) rfl
theorem gw296 : Cond.fieldLink RX0 18 "Tenonyard$Cutting" "breadths" "[I" ∈ GW := gw_of (i := 296) (by decide +kernel) rfl
theorem gw297 : Cond.fieldLink RX0 21 "Tenonyard$Cutting" "grades" "[I" ∈ GW := gw_of (i := 297) (by decide +kernel) rfl
theorem gw298 : Cond.fieldLink RX0 24 "Tenonyard$Cutting" "spans" "[I" ∈ GW := gw_of (i := 298) (by decide +kernel) rfl
theorem gw299 : Cond.fieldLink RX0 27 "Tenonyard$Cutting" "weights" "[I" ∈ GW := gw_of (i := 299) (by decide +kernel) rfl
theorem gw300 : Cond.fieldLink RX0 30 "Tenonyard$Cutting" "costs" "[J" ∈ GW := gw_of (i := 300) (by decide +kernel) rfl
theorem gw282 : Cond.instanceMethod yX0_init ∈ GW := gw_of (i := 282) (by decide +kernel) rfl
theorem gw283 : Cond.code yX0_init cX0_init 1 none ∈ GW := gw_of (i := 283) (by decide +kernel) rfl
theorem gw281 : Cond.methodLinkNest RX6 32 yX0_init "Tenonyard" ∈ NW := nw_of (i := 281) (by decide +kernel) rfl
theorem gw366 : Cond.fieldLink RX6 33 "Tenonyard" "cutting" "LTenonyard$Cutting;" ∈ GW := gw_of (i := 366) (by decide +kernel) rfl
theorem gw324 : Cond.classLink RX6 37 RX4 ∈ GW := gw_of (i := 324) (by decide +kernel) rfl
theorem gw325 : Cond.instantiable RX4 9 ∈ GW := gw_of (i := 325) (by decide +kernel) rfl
theorem gw81 : Cond.initialized RX4 ∈ GW := gw_of (i := 81) (by decide +kernel) rfl
theorem gw329 : Cond.methodLink RX4 3 objectInit ∈ GW := gw_of (i := 329) (by decide +kernel) rfl
theorem gw330 : Cond.fieldLink RX4 9 "Tenonyard$Raising" "limit" "I" ∈ GW := gw_of (i := 330) (by decide +kernel) rfl
theorem gw336 : Cond.fieldLink RX4 17 "Tenonyard$Raising" "asking" "[I" ∈ GW := gw_of (i := 336) (by decide +kernel) rfl
theorem gw337 : Cond.fieldLink RX4 21 "Tenonyard$Raising" "joined" "[I" ∈ GW := gw_of (i := 337) (by decide +kernel) rfl
theorem gw338 : Cond.fieldLink RX4 24 "Tenonyard$Raising" "orderCounts" "[I" ∈ GW := gw_of (i := 338) (by decide +kernel) rfl
theorem gw362 : Cond.arrayClass .boolean ∈ GW := gw_of (i := 362) (by decide +kernel) rfl
theorem gw339 : Cond.fieldLink RX4 27 "Tenonyard$Raising" "leadsToAll" "[Z" ∈ GW := gw_of (i := 339) (by decide +kernel) rfl
theorem gw341 : Cond.fieldLink RX4 31 "Tenonyard$Raising" "order" "[I" ∈ GW := gw_of (i := 341) (by decide +kernel) rfl
theorem gw327 : Cond.instanceMethod yX4_init ∈ GW := gw_of (i := 327) (by decide +kernel) rfl
theorem gw328 : Cond.code yX4_init cX4_init 1 none ∈ GW := gw_of (i := 328) (by decide +kernel) rfl
theorem gw326 : Cond.methodLinkNest RX6 39 yX4_init "Tenonyard" ∈ NW := nw_of (i := 326) (by decide +kernel) rfl
theorem gw367 : Cond.fieldLink RX6 40 "Tenonyard" "raising" "LTenonyard$Raising;" ∈ GW := gw_of (i := 367) (by decide +kernel) rfl
theorem gw1192 : Cond.methodLink RX12 1 objectInit ∈ GW := gw_of (i := 1192) (by decide +kernel) rfl
theorem gw1193 : Cond.classLink RX12 7 RJx4a65c ∈ GW := gw_of (i := 1193) (by decide +kernel) rfl
theorem gw1194 : Cond.instantiable RJx4a65c 3 ∈ GW := gw_of (i := 1194) (by decide +kernel) rfl
theorem gw85 : Cond.initialized RJx4a65c ∈ GW := gw_of (i := 85) (by decide +kernel) rfl
theorem gw1204 : Cond.methodLink RJxa1e45 1 objectInit ∈ GW := gw_of (i := 1204) (by decide +kernel) rfl
theorem gw1202 : Cond.instanceMethod yJxa1e45_init_da8c8 ∈ GW := gw_of (i := 1202) (by decide +kernel) rfl
theorem gw83 : Cond.initialized RJxa1e45 ∈ GW := gw_of (i := 83) (by decide +kernel) rfl
theorem gw1203 : Cond.code yJxa1e45_init_da8c8 cJxa1e45_init_da8c8 1 none ∈ GW := gw_of (i := 1203) (by decide +kernel) rfl
theorem gw1201 : Cond.methodLink RJxc12de 1 yJxa1e45_init_da8c8 ∈ GW := gw_of (i := 1201) (by decide +kernel) rfl
theorem gw1209 : Cond.fieldLink RJxc12de 7 "java/util/AbstractList" "modCount" "I" ∈ GW := gw_of (i := 1209) (by decide +kernel) rfl
theorem gw1199 : Cond.instanceMethod yJxc12de_init_da8c8 ∈ GW := gw_of (i := 1199) (by decide +kernel) rfl
theorem gw84 : Cond.initialized RJxc12de ∈ GW := gw_of (i := 84) (by decide +kernel) rfl
theorem gw1200 : Cond.code yJxc12de_init_da8c8 cJxc12de_init_da8c8 1 none ∈ GW := gw_of (i := 1200) (by decide +kernel) rfl
theorem gw1198 : Cond.methodLink RJx4a65c 1 yJxc12de_init_da8c8 ∈ GW := gw_of (i := 1198) (by decide +kernel) rfl
theorem gw1205 : Cond.fieldLink RJx4a65c 39 "java/util/ArrayList" "DEFAULTCAPACITY_EMPTY_ELEMENTDATA" "[Ljava/lang/Object;" ∈ GW := gw_of (i := 1205) (by decide +kernel) rfl
theorem gw1207 : Cond.fieldLink RJx4a65c 9 "java/util/ArrayList" "elementData" "[Ljava/lang/Object;" ∈ GW := gw_of (i := 1207) (by decide +kernel) rfl
theorem gw1196 : Cond.instanceMethod yJx4a65c_init_da8c8 ∈ GW := gw_of (i := 1196) (by decide +kernel) rfl
theorem gw1197 : Cond.code yJx4a65c_init_da8c8 cJx4a65c_init_da8c8 1 none ∈ GW := gw_of (i := 1197) (by decide +kernel) rfl
theorem gw1195 : Cond.methodLink RX12 9 yJx4a65c_init_da8c8 ∈ GW := gw_of (i := 1195) (by decide +kernel) rfl
theorem gw1219 : Cond.fieldLink RX12 10 "TenonyardModel" "nodes" "Ljava/util/ArrayList;" ∈ GW := gw_of (i := 1219) (by decide +kernel) rfl
theorem gw1220 : Cond.fieldLink RX12 16 "TenonyardModel" "members" "Ljava/util/ArrayList;" ∈ GW := gw_of (i := 1220) (by decide +kernel) rfl
theorem gw1221 : Cond.fieldLink RX12 19 "TenonyardModel" "joints" "Ljava/util/ArrayList;" ∈ GW := gw_of (i := 1221) (by decide +kernel) rfl
theorem gw1222 : Cond.fieldLink RX12 22 "TenonyardModel" "sticks" "Ljava/util/ArrayList;" ∈ GW := gw_of (i := 1222) (by decide +kernel) rfl
theorem gw1223 : Cond.fieldLink RX12 25 "TenonyardModel" "minors" "[J" ∈ GW := gw_of (i := 1223) (by decide +kernel) rfl
theorem gw1224 : Cond.fieldLink RX12 29 "TenonyardModel" "pulls" "[J" ∈ GW := gw_of (i := 1224) (by decide +kernel) rfl
theorem gw1225 : Cond.fieldLink RX12 32 "TenonyardModel" "forces" "[J" ∈ GW := gw_of (i := 1225) (by decide +kernel) rfl
theorem gw1226 : Cond.fieldLink RX12 35 "TenonyardModel" "isEnd" "[Z" ∈ GW := gw_of (i := 1226) (by decide +kernel) rfl
theorem gw1227 : Cond.fieldLink RX12 39 "TenonyardModel" "canCut" "[Z" ∈ GW := gw_of (i := 1227) (by decide +kernel) rfl
theorem gw1228 : Cond.fieldLink RX12 42 "TenonyardModel" "ways" "[I" ∈ GW := gw_of (i := 1228) (by decide +kernel) rfl
theorem gw1229 : Cond.fieldLink RX12 46 "TenonyardModel" "order" "[I" ∈ GW := gw_of (i := 1229) (by decide +kernel) rfl
theorem gw1230 : Cond.fieldLink RX12 49 "TenonyardModel" "best" "[I" ∈ GW := gw_of (i := 1230) (by decide +kernel) rfl
theorem gw1231 : Cond.fieldLink RX12 52 "TenonyardModel" "tried" "[I" ∈ GW := gw_of (i := 1231) (by decide +kernel) rfl
theorem gw1232 : Cond.fieldLink RX12 55 "TenonyardModel" "left" "[I" ∈ GW := gw_of (i := 1232) (by decide +kernel) rfl
theorem gw1233 : Cond.fieldLink RX12 58 "TenonyardModel" "needs" "[I" ∈ GW := gw_of (i := 1233) (by decide +kernel) rfl
theorem gw1234 : Cond.fieldLink RX12 61 "TenonyardModel" "lengths" "[I" ∈ GW := gw_of (i := 1234) (by decide +kernel) rfl
theorem gw1235 : Cond.fieldLink RX12 64 "TenonyardModel" "breadths" "[I" ∈ GW := gw_of (i := 1235) (by decide +kernel) rfl
theorem gw1236 : Cond.fieldLink RX12 67 "TenonyardModel" "grades" "[I" ∈ GW := gw_of (i := 1236) (by decide +kernel) rfl
theorem gw1239 : Cond.fieldLink RX12 70 "TenonyardModel" "props" "I" ∈ GW := gw_of (i := 1239) (by decide +kernel) rfl
theorem inX6 : ∀ w ∈ u_ws RX6 TX6 5, w ∈ GW := fun w hw => List.mem_filter.mpr ((show ∀ w ∈ u_ws RX6 TX6 5, w ∈ lw_tbl ∧ goodWord w = true by decide +kernel) w hw)
theorem inX0 : ∀ w ∈ u_ws RX0 TX0 11, w ∈ GW := fun w hw => List.mem_filter.mpr ((show ∀ w ∈ u_ws RX0 TX0 11, w ∈ lw_tbl ∧ goodWord w = true by decide +kernel) w hw)
theorem inX1 : ∀ w ∈ u_ws RX1 TX1 17, w ∈ GW := fun w hw => List.mem_filter.mpr ((show ∀ w ∈ u_ws RX1 TX1 17, w ∈ lw_tbl ∧ goodWord w = true by decide +kernel) w hw)
theorem inX2 : ∀ w ∈ u_ws RX2 TX2 12, w ∈ GW := fun w hw => List.mem_filter.mpr ((show ∀ w ∈ u_ws RX2 TX2 12, w ∈ lw_tbl ∧ goodWord w = true by decide +kernel) w hw)
theorem inX3 : ∀ w ∈ u_ws RX3 TX3 6, w ∈ GW := fun w hw => List.mem_filter.mpr ((show ∀ w ∈ u_ws RX3 TX3 6, w ∈ lw_tbl ∧ goodWord w = true by decide +kernel) w hw)
theorem inX4 : ∀ w ∈ u_ws RX4 TX4 9, w ∈ GW := fun w hw => List.mem_filter.mpr ((show ∀ w ∈ u_ws RX4 TX4 9, w ∈ lw_tbl ∧ goodWord w = true by decide +kernel) w hw)
theorem inX5 : ∀ w ∈ u_ws RX5 TX5 1, w ∈ GW := fun w hw => List.mem_filter.mpr ((show ∀ w ∈ u_ws RX5 TX5 1, w ∈ lw_tbl ∧ goodWord w = true by decide +kernel) w hw)
theorem inX12 : ∀ w ∈ u_ws RX12 TX12 27, w ∈ GW := fun w hw => List.mem_filter.mpr ((show ∀ w ∈ u_ws RX12 TX12 27, w ∈ lw_tbl ∧ goodWord w = true by decide +kernel) w hw)
theorem inJx4a65c : ∀ w ∈ u_ws RJx4a65c TJx4a65c 3, w ∈ GW := fun w hw => List.mem_filter.mpr ((show ∀ w ∈ u_ws RJx4a65c TJx4a65c 3, w ∈ lw_tbl ∧ goodWord w = true by decide +kernel) w hw)
theorem pd_X2_init : yX2_init.cls = RX2 ∧ yX2_init.cls ≠ "java/lang/invoke/MethodHandle" ∧ yX2_init.cls ≠ "java/lang/invoke/VarHandle" ∧ (parseMethodDescriptor yX2_init.desc).map (fun d => d.parameters.length) = some 0 := ⟨rfl, by decide +kernel, by decide +kernel, by decide +kernel⟩
theorem pd_X5_init : yX5_init.cls = RX5 ∧ yX5_init.cls ≠ "java/lang/invoke/MethodHandle" ∧ yX5_init.cls ≠ "java/lang/invoke/VarHandle" ∧ (parseMethodDescriptor yX5_init.desc).map (fun d => d.parameters.length) = some 0 := ⟨rfl, by decide +kernel, by decide +kernel, by decide +kernel⟩
theorem pd_X1_init : yX1_init.cls = RX1 ∧ yX1_init.cls ≠ "java/lang/invoke/MethodHandle" ∧ yX1_init.cls ≠ "java/lang/invoke/VarHandle" ∧ (parseMethodDescriptor yX1_init.desc).map (fun d => d.parameters.length) = some 0 := ⟨rfl, by decide +kernel, by decide +kernel, by decide +kernel⟩
theorem pd_X3_init : yX3_init.cls = RX3 ∧ yX3_init.cls ≠ "java/lang/invoke/MethodHandle" ∧ yX3_init.cls ≠ "java/lang/invoke/VarHandle" ∧ (parseMethodDescriptor yX3_init.desc).map (fun d => d.parameters.length) = some 0 := ⟨rfl, by decide +kernel, by decide +kernel, by decide +kernel⟩
theorem pd_X0_init : yX0_init.cls = RX0 ∧ yX0_init.cls ≠ "java/lang/invoke/MethodHandle" ∧ yX0_init.cls ≠ "java/lang/invoke/VarHandle" ∧ (parseMethodDescriptor yX0_init.desc).map (fun d => d.parameters.length) = some 0 := ⟨rfl, by decide +kernel, by decide +kernel, by decide +kernel⟩
theorem pd_X4_init : yX4_init.cls = RX4 ∧ yX4_init.cls ≠ "java/lang/invoke/MethodHandle" ∧ yX4_init.cls ≠ "java/lang/invoke/VarHandle" ∧ (parseMethodDescriptor yX4_init.desc).map (fun d => d.parameters.length) = some 0 := ⟨rfl, by decide +kernel, by decide +kernel, by decide +kernel⟩
theorem pd_Jxa1e45_init_da8c8 : yJxa1e45_init_da8c8.cls = RJxa1e45 ∧ yJxa1e45_init_da8c8.cls ≠ "java/lang/invoke/MethodHandle" ∧ yJxa1e45_init_da8c8.cls ≠ "java/lang/invoke/VarHandle" ∧ (parseMethodDescriptor yJxa1e45_init_da8c8.desc).map (fun d => d.parameters.length) = some 0 := ⟨rfl, by decide +kernel, by decide +kernel, by decide +kernel⟩
theorem pd_Jxc12de_init_da8c8 : yJxc12de_init_da8c8.cls = RJxc12de ∧ yJxc12de_init_da8c8.cls ≠ "java/lang/invoke/MethodHandle" ∧ yJxc12de_init_da8c8.cls ≠ "java/lang/invoke/VarHandle" ∧ (parseMethodDescriptor yJxc12de_init_da8c8.desc).map (fun d => d.parameters.length) = some 0 := ⟨rfl, by decide +kernel, by decide +kernel, by decide +kernel⟩
theorem pd_Jx4a65c_init_da8c8 : yJx4a65c_init_da8c8.cls = RJx4a65c ∧ yJx4a65c_init_da8c8.cls ≠ "java/lang/invoke/MethodHandle" ∧ yJx4a65c_init_da8c8.cls ≠ "java/lang/invoke/VarHandle" ∧ (parseMethodDescriptor yJx4a65c_init_da8c8.desc).map (fun d => d.parameters.length) = some 0 := ⟨rfl, by decide +kernel, by decide +kernel, by decide +kernel⟩
end
section
set_option maxHeartbeats 4000000 in
set_option maxRecDepth 100000 in
theorem c0_X2_init (l : Launch) (hfl : l.stackTraces = false) (D : va_G) (cA : Nat → ClassId) (g : gv_T) (h0 : Nat) : CT l yX2_init cX2_init 1 none (RM 1 10 102 24) D cA g [.ref h0] [(h0, .inr (5, [.int 0, .int 0, .null, .null, .null, .null, .null, .null, .null, .null, .null, .null]))] (fun q => none) (fun q => [(h0, .inr (5, [.int 0, .int 0, .ref (q 0), .ref (q 1), .ref (q 2), .ref (q 3), .ref (q 4), .ref (q 5), .ref (q 6), .ref (q 7), .ref (q 8), .ref (q 9)])), ((q 0), .inl (cA 0, 16, .inl (fun _ => 0))), ((q 1), .inl (cA 0, 16, .inl (fun _ => 0))), ((q 2), .inl (cA 0, 8, .inl (fun _ => 0))), ((q 3), .inl (cA 2, 8, .inl (fun _ => 0))), ((q 4), .inl (cA 0, 9, .inl (fun _ => 0))), ((q 5), .inl (cA 0, 9, .inl (fun _ => 0))), ((q 6), .inl (cA 0, 9, .inl (fun _ => 0))), ((q 7), .inl (cA 0, 9, .inl (fun _ => 0))), ((q 8), .inl (cA 0, 9, .inl (fun _ => 0))), ((q 9), .inl (cA 0, 9, .inl (fun _ => 0)))]) := by
  refine CT.of (by decide +kernel) (Nat.le_of_ble_eq_true rfl) ?_
  intro p e s m args below meth c A ls hx hb hr hml hown hG hlocks hnm hA hS hP hK hD hGV hl
  have hown : s.vm.findClass RX2 = some m.cls := hown
  have hl : lv_has ls 1 [(0, .ref h0)] := hl
  have hSF : CF p m c cX2_init 1 s args RX2 := ⟨hx, hb, hml, hown, hG⟩
  refine lv_aload_n hx hb dX2_init_0 rfl (lv_at hl 0 rfl) ?_
  refine W.objInit hx hb hown (hG _ gw125) (hG _ gw118) (hG _ gw119) rfl (hl.1.trans hml.symm) rfl dX2_init_1 (Nat.le_of_ble_eq_true rfl) (Nat.le_of_ble_eq_true rfl) ?_
  refine W.eq (g2 := F0 m 4 ls []) rfl ?_
  refine lv_aload_n hx hb dX2_init_4 rfl (lv_at hl 0 rfl) ?_
  refine lv_bipush (v := 16) hx hb dX2_init_5 (by decide) ?_
  refine k_newa_int hx hb hG gw178 hK hP hD hS hA 16 (by decide) (by decide) (Nat.le_of_ble_eq_true rfl) (Nat.le_of_ble_eq_true rfl) (Nat.le_of_ble_eq_true rfl) dX2_init_7 (fun a1 H hP hD hS => ?_)
  have hP : va_P D vwCl [(h0, .inr (5, [.int 0, .int 0, .null, .null, .null, .null, .null, .null, .null, .null, .null, .null])), (a1, .inl (cA 0, 16, .inl (fun _ => 0)))] H := hP
  have hD : va_D _ [(h0, .inr (5, [.int 0, .int 0, .null, .null, .null, .null, .null, .null, .null, .null, .null, .null])), (a1, .inl (cA 0, 16, .inl (fun _ => 0)))] := hD
  refine k_putF (ci := 5) (C := RX2) (T := TX2) (N := 12) (v := .ref a1) (ws1 := [(h0, .inr (5, [.int 0, .int 0, .ref a1, .null, .null, .null, .null, .null, .null, .null, .null, .null])), (a1, .inl (cA 0, 16, .inl (fun _ => 0)))]) hx hb hG inX2 tyX2 tyX2_ok nmX2 hown hK hP hD hS 0 rfl rfl 2 (by decide) gw134 rfl hnm rfl ⟨rfl, rfl⟩ rfl (Nat.le_of_ble_eq_true rfl) dX2_init_9 (fun H locs hP hD hS => ?_)
  refine lv_aload_n hx hb dX2_init_12 rfl (lv_at hl 0 rfl) ?_
  refine lv_bipush (v := 16) hx hb dX2_init_13 (by decide) ?_
  refine k_newa_int hx hb hG gw178 hK hP hD hS hA 16 (by decide) (by decide) (Nat.le_of_ble_eq_true rfl) (Nat.le_of_ble_eq_true rfl) (Nat.le_of_ble_eq_true rfl) dX2_init_15 (fun a2 H hP hD hS => ?_)
  have hP : va_P D vwCl [(h0, .inr (5, [.int 0, .int 0, .ref a1, .null, .null, .null, .null, .null, .null, .null, .null, .null])), (a1, .inl (cA 0, 16, .inl (fun _ => 0))), (a2, .inl (cA 0, 16, .inl (fun _ => 0)))] H := hP
  have hD : va_D _ [(h0, .inr (5, [.int 0, .int 0, .ref a1, .null, .null, .null, .null, .null, .null, .null, .null, .null])), (a1, .inl (cA 0, 16, .inl (fun _ => 0))), (a2, .inl (cA 0, 16, .inl (fun _ => 0)))] := hD
  refine k_putF (ci := 5) (C := RX2) (T := TX2) (N := 12) (v := .ref a2) (ws1 := [(h0, .inr (5, [.int 0, .int 0, .ref a1, .ref a2, .null, .null, .null, .null, .null, .null, .null, .null])), (a1, .inl (cA 0, 16, .inl (fun _ => 0))), (a2, .inl (cA 0, 16, .inl (fun _ => 0)))]) hx hb hG inX2 tyX2 tyX2_ok nmX2 hown hK hP hD hS 0 rfl rfl 3 (by decide) gw136 rfl hnm rfl ⟨rfl, rfl⟩ rfl (Nat.le_of_ble_eq_true rfl) dX2_init_17 (fun H locs hP hD hS => ?_)
  refine lv_aload_n hx hb dX2_init_20 rfl (lv_at hl 0 rfl) ?_
  refine lv_bipush (v := 8) hx hb dX2_init_21 (by decide) ?_
  refine k_newa_int hx hb hG gw178 hK hP hD hS hA 8 (by decide) (by decide) (Nat.le_of_ble_eq_true rfl) (Nat.le_of_ble_eq_true rfl) (Nat.le_of_ble_eq_true rfl) dX2_init_23 (fun a3 H hP hD hS => ?_)
  have hP : va_P D vwCl [(h0, .inr (5, [.int 0, .int 0, .ref a1, .ref a2, .null, .null, .null, .null, .null, .null, .null, .null])), (a1, .inl (cA 0, 16, .inl (fun _ => 0))), (a2, .inl (cA 0, 16, .inl (fun _ => 0))), (a3, .inl (cA 0, 8, .inl (fun _ => 0)))] H := hP
  have hD : va_D _ [(h0, .inr (5, [.int 0, .int 0, .ref a1, .ref a2, .null, .null, .null, .null, .null, .null, .null, .null])), (a1, .inl (cA 0, 16, .inl (fun _ => 0))), (a2, .inl (cA 0, 16, .inl (fun _ => 0))), (a3, .inl (cA 0, 8, .inl (fun _ => 0)))] := hD
  refine k_putF (ci := 5) (C := RX2) (T := TX2) (N := 12) (v := .ref a3) (ws1 := [(h0, .inr (5, [.int 0, .int 0, .ref a1, .ref a2, .ref a3, .null, .null, .null, .null, .null, .null, .null])), (a1, .inl (cA 0, 16, .inl (fun _ => 0))), (a2, .inl (cA 0, 16, .inl (fun _ => 0))), (a3, .inl (cA 0, 8, .inl (fun _ => 0)))]) hx hb hG inX2 tyX2 tyX2_ok nmX2 hown hK hP hD hS 0 rfl rfl 4 (by decide) gw138 rfl hnm rfl ⟨rfl, rfl⟩ rfl (Nat.le_of_ble_eq_true rfl) dX2_init_25 (fun H locs hP hD hS => ?_)
  refine lv_aload_n hx hb dX2_init_28 rfl (lv_at hl 0 rfl) ?_
  refine lv_bipush (v := 8) hx hb dX2_init_29 (by decide) ?_
  refine k_newa_char hx hb hG gw179 hK hP hD hS hA 8 (by decide) (by decide) (Nat.le_of_ble_eq_true rfl) (Nat.le_of_ble_eq_true rfl) (Nat.le_of_ble_eq_true rfl) dX2_init_31 (fun a4 H hP hD hS => ?_)
  have hP : va_P D vwCl [(h0, .inr (5, [.int 0, .int 0, .ref a1, .ref a2, .ref a3, .null, .null, .null, .null, .null, .null, .null])), (a1, .inl (cA 0, 16, .inl (fun _ => 0))), (a2, .inl (cA 0, 16, .inl (fun _ => 0))), (a3, .inl (cA 0, 8, .inl (fun _ => 0))), (a4, .inl (cA 2, 8, .inl (fun _ => 0)))] H := hP
  have hD : va_D _ [(h0, .inr (5, [.int 0, .int 0, .ref a1, .ref a2, .ref a3, .null, .null, .null, .null, .null, .null, .null])), (a1, .inl (cA 0, 16, .inl (fun _ => 0))), (a2, .inl (cA 0, 16, .inl (fun _ => 0))), (a3, .inl (cA 0, 8, .inl (fun _ => 0))), (a4, .inl (cA 2, 8, .inl (fun _ => 0)))] := hD
  refine k_putF (ci := 5) (C := RX2) (T := TX2) (N := 12) (v := .ref a4) (ws1 := [(h0, .inr (5, [.int 0, .int 0, .ref a1, .ref a2, .ref a3, .ref a4, .null, .null, .null, .null, .null, .null])), (a1, .inl (cA 0, 16, .inl (fun _ => 0))), (a2, .inl (cA 0, 16, .inl (fun _ => 0))), (a3, .inl (cA 0, 8, .inl (fun _ => 0))), (a4, .inl (cA 2, 8, .inl (fun _ => 0)))]) hx hb hG inX2 tyX2 tyX2_ok nmX2 hown hK hP hD hS 0 rfl rfl 5 (by decide) gw139 rfl hnm rfl ⟨rfl, rfl⟩ rfl (Nat.le_of_ble_eq_true rfl) dX2_init_33 (fun H locs hP hD hS => ?_)
  refine lv_aload_n hx hb dX2_init_36 rfl (lv_at hl 0 rfl) ?_
  refine lv_bipush (v := 9) hx hb dX2_init_37 (by decide) ?_
  refine k_newa_int hx hb hG gw178 hK hP hD hS hA 9 (by decide) (by decide) (Nat.le_of_ble_eq_true rfl) (Nat.le_of_ble_eq_true rfl) (Nat.le_of_ble_eq_true rfl) dX2_init_39 (fun a5 H hP hD hS => ?_)
  have hP : va_P D vwCl [(h0, .inr (5, [.int 0, .int 0, .ref a1, .ref a2, .ref a3, .ref a4, .null, .null, .null, .null, .null, .null])), (a1, .inl (cA 0, 16, .inl (fun _ => 0))), (a2, .inl (cA 0, 16, .inl (fun _ => 0))), (a3, .inl (cA 0, 8, .inl (fun _ => 0))), (a4, .inl (cA 2, 8, .inl (fun _ => 0))), (a5, .inl (cA 0, 9, .inl (fun _ => 0)))] H := hP
  have hD : va_D _ [(h0, .inr (5, [.int 0, .int 0, .ref a1, .ref a2, .ref a3, .ref a4, .null, .null, .null, .null, .null, .null])), (a1, .inl (cA 0, 16, .inl (fun _ => 0))), (a2, .inl (cA 0, 16, .inl (fun _ => 0))), (a3, .inl (cA 0, 8, .inl (fun _ => 0))), (a4, .inl (cA 2, 8, .inl (fun _ => 0))), (a5, .inl (cA 0, 9, .inl (fun _ => 0)))] := hD
  refine k_putF (ci := 5) (C := RX2) (T := TX2) (N := 12) (v := .ref a5) (ws1 := [(h0, .inr (5, [.int 0, .int 0, .ref a1, .ref a2, .ref a3, .ref a4, .ref a5, .null, .null, .null, .null, .null])), (a1, .inl (cA 0, 16, .inl (fun _ => 0))), (a2, .inl (cA 0, 16, .inl (fun _ => 0))), (a3, .inl (cA 0, 8, .inl (fun _ => 0))), (a4, .inl (cA 2, 8, .inl (fun _ => 0))), (a5, .inl (cA 0, 9, .inl (fun _ => 0)))]) hx hb hG inX2 tyX2 tyX2_ok nmX2 hown hK hP hD hS 0 rfl rfl 6 (by decide) gw140 rfl hnm rfl ⟨rfl, rfl⟩ rfl (Nat.le_of_ble_eq_true rfl) dX2_init_41 (fun H locs hP hD hS => ?_)
  refine lv_aload_n hx hb dX2_init_44 rfl (lv_at hl 0 rfl) ?_
  refine lv_bipush (v := 9) hx hb dX2_init_45 (by decide) ?_
  refine k_newa_int hx hb hG gw178 hK hP hD hS hA 9 (by decide) (by decide) (Nat.le_of_ble_eq_true rfl) (Nat.le_of_ble_eq_true rfl) (Nat.le_of_ble_eq_true rfl) dX2_init_47 (fun a6 H hP hD hS => ?_)
  have hP : va_P D vwCl [(h0, .inr (5, [.int 0, .int 0, .ref a1, .ref a2, .ref a3, .ref a4, .ref a5, .null, .null, .null, .null, .null])), (a1, .inl (cA 0, 16, .inl (fun _ => 0))), (a2, .inl (cA 0, 16, .inl (fun _ => 0))), (a3, .inl (cA 0, 8, .inl (fun _ => 0))), (a4, .inl (cA 2, 8, .inl (fun _ => 0))), (a5, .inl (cA 0, 9, .inl (fun _ => 0))), (a6, .inl (cA 0, 9, .inl (fun _ => 0)))] H := hP
  have hD : va_D _ [(h0, .inr (5, [.int 0, .int 0, .ref a1, .ref a2, .ref a3, .ref a4, .ref a5, .null, .null, .null, .null, .null])), (a1, .inl (cA 0, 16, .inl (fun _ => 0))), (a2, .inl (cA 0, 16, .inl (fun _ => 0))), (a3, .inl (cA 0, 8, .inl (fun _ => 0))), (a4, .inl (cA 2, 8, .inl (fun _ => 0))), (a5, .inl (cA 0, 9, .inl (fun _ => 0))), (a6, .inl (cA 0, 9, .inl (fun _ => 0)))] := hD
  refine k_putF (ci := 5) (C := RX2) (T := TX2) (N := 12) (v := .ref a6) (ws1 := [(h0, .inr (5, [.int 0, .int 0, .ref a1, .ref a2, .ref a3, .ref a4, .ref a5, .ref a6, .null, .null, .null, .null])), (a1, .inl (cA 0, 16, .inl (fun _ => 0))), (a2, .inl (cA 0, 16, .inl (fun _ => 0))), (a3, .inl (cA 0, 8, .inl (fun _ => 0))), (a4, .inl (cA 2, 8, .inl (fun _ => 0))), (a5, .inl (cA 0, 9, .inl (fun _ => 0))), (a6, .inl (cA 0, 9, .inl (fun _ => 0)))]) hx hb hG inX2 tyX2 tyX2_ok nmX2 hown hK hP hD hS 0 rfl rfl 7 (by decide) gw141 rfl hnm rfl ⟨rfl, rfl⟩ rfl (Nat.le_of_ble_eq_true rfl) dX2_init_49 (fun H locs hP hD hS => ?_)
  refine lv_aload_n hx hb dX2_init_52 rfl (lv_at hl 0 rfl) ?_
  refine lv_bipush (v := 9) hx hb dX2_init_53 (by decide) ?_
  refine k_newa_int hx hb hG gw178 hK hP hD hS hA 9 (by decide) (by decide) (Nat.le_of_ble_eq_true rfl) (Nat.le_of_ble_eq_true rfl) (Nat.le_of_ble_eq_true rfl) dX2_init_55 (fun a7 H hP hD hS => ?_)
  have hP : va_P D vwCl [(h0, .inr (5, [.int 0, .int 0, .ref a1, .ref a2, .ref a3, .ref a4, .ref a5, .ref a6, .null, .null, .null, .null])), (a1, .inl (cA 0, 16, .inl (fun _ => 0))), (a2, .inl (cA 0, 16, .inl (fun _ => 0))), (a3, .inl (cA 0, 8, .inl (fun _ => 0))), (a4, .inl (cA 2, 8, .inl (fun _ => 0))), (a5, .inl (cA 0, 9, .inl (fun _ => 0))), (a6, .inl (cA 0, 9, .inl (fun _ => 0))), (a7, .inl (cA 0, 9, .inl (fun _ => 0)))] H := hP
  have hD : va_D _ [(h0, .inr (5, [.int 0, .int 0, .ref a1, .ref a2, .ref a3, .ref a4, .ref a5, .ref a6, .null, .null, .null, .null])), (a1, .inl (cA 0, 16, .inl (fun _ => 0))), (a2, .inl (cA 0, 16, .inl (fun _ => 0))), (a3, .inl (cA 0, 8, .inl (fun _ => 0))), (a4, .inl (cA 2, 8, .inl (fun _ => 0))), (a5, .inl (cA 0, 9, .inl (fun _ => 0))), (a6, .inl (cA 0, 9, .inl (fun _ => 0))), (a7, .inl (cA 0, 9, .inl (fun _ => 0)))] := hD
  refine k_putF (ci := 5) (C := RX2) (T := TX2) (N := 12) (v := .ref a7) (ws1 := [(h0, .inr (5, [.int 0, .int 0, .ref a1, .ref a2, .ref a3, .ref a4, .ref a5, .ref a6, .ref a7, .null, .null, .null])), (a1, .inl (cA 0, 16, .inl (fun _ => 0))), (a2, .inl (cA 0, 16, .inl (fun _ => 0))), (a3, .inl (cA 0, 8, .inl (fun _ => 0))), (a4, .inl (cA 2, 8, .inl (fun _ => 0))), (a5, .inl (cA 0, 9, .inl (fun _ => 0))), (a6, .inl (cA 0, 9, .inl (fun _ => 0))), (a7, .inl (cA 0, 9, .inl (fun _ => 0)))]) hx hb hG inX2 tyX2 tyX2_ok nmX2 hown hK hP hD hS 0 rfl rfl 8 (by decide) gw142 rfl hnm rfl ⟨rfl, rfl⟩ rfl (Nat.le_of_ble_eq_true rfl) dX2_init_57 (fun H locs hP hD hS => ?_)
  refine lv_aload_n hx hb dX2_init_60 rfl (lv_at hl 0 rfl) ?_
  refine lv_bipush (v := 9) hx hb dX2_init_61 (by decide) ?_
  refine k_newa_int hx hb hG gw178 hK hP hD hS hA 9 (by decide) (by decide) (Nat.le_of_ble_eq_true rfl) (Nat.le_of_ble_eq_true rfl) (Nat.le_of_ble_eq_true rfl) dX2_init_63 (fun a8 H hP hD hS => ?_)
  have hP : va_P D vwCl [(h0, .inr (5, [.int 0, .int 0, .ref a1, .ref a2, .ref a3, .ref a4, .ref a5, .ref a6, .ref a7, .null, .null, .null])), (a1, .inl (cA 0, 16, .inl (fun _ => 0))), (a2, .inl (cA 0, 16, .inl (fun _ => 0))), (a3, .inl (cA 0, 8, .inl (fun _ => 0))), (a4, .inl (cA 2, 8, .inl (fun _ => 0))), (a5, .inl (cA 0, 9, .inl (fun _ => 0))), (a6, .inl (cA 0, 9, .inl (fun _ => 0))), (a7, .inl (cA 0, 9, .inl (fun _ => 0))), (a8, .inl (cA 0, 9, .inl (fun _ => 0)))] H := hP
  have hD : va_D _ [(h0, .inr (5, [.int 0, .int 0, .ref a1, .ref a2, .ref a3, .ref a4, .ref a5, .ref a6, .ref a7, .null, .null, .null])), (a1, .inl (cA 0, 16, .inl (fun _ => 0))), (a2, .inl (cA 0, 16, .inl (fun _ => 0))), (a3, .inl (cA 0, 8, .inl (fun _ => 0))), (a4, .inl (cA 2, 8, .inl (fun _ => 0))), (a5, .inl (cA 0, 9, .inl (fun _ => 0))), (a6, .inl (cA 0, 9, .inl (fun _ => 0))), (a7, .inl (cA 0, 9, .inl (fun _ => 0))), (a8, .inl (cA 0, 9, .inl (fun _ => 0)))] := hD
  refine k_putF (ci := 5) (C := RX2) (T := TX2) (N := 12) (v := .ref a8) (ws1 := [(h0, .inr (5, [.int 0, .int 0, .ref a1, .ref a2, .ref a3, .ref a4, .ref a5, .ref a6, .ref a7, .ref a8, .null, .null])), (a1, .inl (cA 0, 16, .inl (fun _ => 0))), (a2, .inl (cA 0, 16, .inl (fun _ => 0))), (a3, .inl (cA 0, 8, .inl (fun _ => 0))), (a4, .inl (cA 2, 8, .inl (fun _ => 0))), (a5, .inl (cA 0, 9, .inl (fun _ => 0))), (a6, .inl (cA 0, 9, .inl (fun _ => 0))), (a7, .inl (cA 0, 9, .inl (fun _ => 0))), (a8, .inl (cA 0, 9, .inl (fun _ => 0)))]) hx hb hG inX2 tyX2 tyX2_ok nmX2 hown hK hP hD hS 0 rfl rfl 9 (by decide) gw145 rfl hnm rfl ⟨rfl, rfl⟩ rfl (Nat.le_of_ble_eq_true rfl) dX2_init_65 (fun H locs hP hD hS => ?_)
  refine lv_aload_n hx hb dX2_init_68 rfl (lv_at hl 0 rfl) ?_
  refine lv_bipush (v := 9) hx hb dX2_init_69 (by decide) ?_
  refine k_newa_int hx hb hG gw178 hK hP hD hS hA 9 (by decide) (by decide) (Nat.le_of_ble_eq_true rfl) (Nat.le_of_ble_eq_true rfl) (Nat.le_of_ble_eq_true rfl) dX2_init_71 (fun a9 H hP hD hS => ?_)
  have hP : va_P D vwCl [(h0, .inr (5, [.int 0, .int 0, .ref a1, .ref a2, .ref a3, .ref a4, .ref a5, .ref a6, .ref a7, .ref a8, .null, .null])), (a1, .inl (cA 0, 16, .inl (fun _ => 0))), (a2, .inl (cA 0, 16, .inl (fun _ => 0))), (a3, .inl (cA 0, 8, .inl (fun _ => 0))), (a4, .inl (cA 2, 8, .inl (fun _ => 0))), (a5, .inl (cA 0, 9, .inl (fun _ => 0))), (a6, .inl (cA 0, 9, .inl (fun _ => 0))), (a7, .inl (cA 0, 9, .inl (fun _ => 0))), (a8, .inl (cA 0, 9, .inl (fun _ => 0))), (a9, .inl (cA 0, 9, .inl (fun _ => 0)))] H := hP
  have hD : va_D _ [(h0, .inr (5, [.int 0, .int 0, .ref a1, .ref a2, .ref a3, .ref a4, .ref a5, .ref a6, .ref a7, .ref a8, .null, .null])), (a1, .inl (cA 0, 16, .inl (fun _ => 0))), (a2, .inl (cA 0, 16, .inl (fun _ => 0))), (a3, .inl (cA 0, 8, .inl (fun _ => 0))), (a4, .inl (cA 2, 8, .inl (fun _ => 0))), (a5, .inl (cA 0, 9, .inl (fun _ => 0))), (a6, .inl (cA 0, 9, .inl (fun _ => 0))), (a7, .inl (cA 0, 9, .inl (fun _ => 0))), (a8, .inl (cA 0, 9, .inl (fun _ => 0))), (a9, .inl (cA 0, 9, .inl (fun _ => 0)))] := hD
  refine k_putF (ci := 5) (C := RX2) (T := TX2) (N := 12) (v := .ref a9) (ws1 := [(h0, .inr (5, [.int 0, .int 0, .ref a1, .ref a2, .ref a3, .ref a4, .ref a5, .ref a6, .ref a7, .ref a8, .ref a9, .null])), (a1, .inl (cA 0, 16, .inl (fun _ => 0))), (a2, .inl (cA 0, 16, .inl (fun _ => 0))), (a3, .inl (cA 0, 8, .inl (fun _ => 0))), (a4, .inl (cA 2, 8, .inl (fun _ => 0))), (a5, .inl (cA 0, 9, .inl (fun _ => 0))), (a6, .inl (cA 0, 9, .inl (fun _ => 0))), (a7, .inl (cA 0, 9, .inl (fun _ => 0))), (a8, .inl (cA 0, 9, .inl (fun _ => 0))), (a9, .inl (cA 0, 9, .inl (fun _ => 0)))]) hx hb hG inX2 tyX2 tyX2_ok nmX2 hown hK hP hD hS 0 rfl rfl 10 (by decide) gw147 rfl hnm rfl ⟨rfl, rfl⟩ rfl (Nat.le_of_ble_eq_true rfl) dX2_init_73 (fun H locs hP hD hS => ?_)
  refine lv_aload_n hx hb dX2_init_76 rfl (lv_at hl 0 rfl) ?_
  refine lv_bipush (v := 9) hx hb dX2_init_77 (by decide) ?_
  refine k_newa_int hx hb hG gw178 hK hP hD hS hA 9 (by decide) (by decide) (Nat.le_of_ble_eq_true rfl) (Nat.le_of_ble_eq_true rfl) (Nat.le_of_ble_eq_true rfl) dX2_init_79 (fun a10 H hP hD hS => ?_)
  have hP : va_P D vwCl [(h0, .inr (5, [.int 0, .int 0, .ref a1, .ref a2, .ref a3, .ref a4, .ref a5, .ref a6, .ref a7, .ref a8, .ref a9, .null])), (a1, .inl (cA 0, 16, .inl (fun _ => 0))), (a2, .inl (cA 0, 16, .inl (fun _ => 0))), (a3, .inl (cA 0, 8, .inl (fun _ => 0))), (a4, .inl (cA 2, 8, .inl (fun _ => 0))), (a5, .inl (cA 0, 9, .inl (fun _ => 0))), (a6, .inl (cA 0, 9, .inl (fun _ => 0))), (a7, .inl (cA 0, 9, .inl (fun _ => 0))), (a8, .inl (cA 0, 9, .inl (fun _ => 0))), (a9, .inl (cA 0, 9, .inl (fun _ => 0))), (a10, .inl (cA 0, 9, .inl (fun _ => 0)))] H := hP
  have hD : va_D _ [(h0, .inr (5, [.int 0, .int 0, .ref a1, .ref a2, .ref a3, .ref a4, .ref a5, .ref a6, .ref a7, .ref a8, .ref a9, .null])), (a1, .inl (cA 0, 16, .inl (fun _ => 0))), (a2, .inl (cA 0, 16, .inl (fun _ => 0))), (a3, .inl (cA 0, 8, .inl (fun _ => 0))), (a4, .inl (cA 2, 8, .inl (fun _ => 0))), (a5, .inl (cA 0, 9, .inl (fun _ => 0))), (a6, .inl (cA 0, 9, .inl (fun _ => 0))), (a7, .inl (cA 0, 9, .inl (fun _ => 0))), (a8, .inl (cA 0, 9, .inl (fun _ => 0))), (a9, .inl (cA 0, 9, .inl (fun _ => 0))), (a10, .inl (cA 0, 9, .inl (fun _ => 0)))] := hD
  refine k_putF (ci := 5) (C := RX2) (T := TX2) (N := 12) (v := .ref a10) (ws1 := [(h0, .inr (5, [.int 0, .int 0, .ref a1, .ref a2, .ref a3, .ref a4, .ref a5, .ref a6, .ref a7, .ref a8, .ref a9, .ref a10])), (a1, .inl (cA 0, 16, .inl (fun _ => 0))), (a2, .inl (cA 0, 16, .inl (fun _ => 0))), (a3, .inl (cA 0, 8, .inl (fun _ => 0))), (a4, .inl (cA 2, 8, .inl (fun _ => 0))), (a5, .inl (cA 0, 9, .inl (fun _ => 0))), (a6, .inl (cA 0, 9, .inl (fun _ => 0))), (a7, .inl (cA 0, 9, .inl (fun _ => 0))), (a8, .inl (cA 0, 9, .inl (fun _ => 0))), (a9, .inl (cA 0, 9, .inl (fun _ => 0))), (a10, .inl (cA 0, 9, .inl (fun _ => 0)))]) hx hb hG inX2 tyX2 tyX2_ok nmX2 hown hK hP hD hS 0 rfl rfl 11 (by decide) gw150 rfl hnm rfl ⟨rfl, rfl⟩ rfl (Nat.le_of_ble_eq_true rfl) dX2_init_81 (fun H locs hP hD hS => ?_)
  exact e_v (fun i => match i with | 0 => a1 | 1 => a2 | 2 => a3 | 3 => a4 | 4 => a5 | 5 => a6 | 6 => a7 | 7 => a8 | 8 => a9 | 9 => a10 | _ => 0) hx hb hr hlocks rfl hP hD hS (Nat.le_of_ble_eq_true rfl) (Nat.le_of_ble_eq_true rfl) dX2_init_84
set_option maxHeartbeats 4000000 in
set_option maxRecDepth 100000 in
theorem c1_X5_init (l : Launch) (hfl : l.stackTraces = false) (D : va_G) (cA : Nat → ClassId) (g : gv_T) (h0 : Nat) : CT l yX5_init cX5_init 1 none (RM 1 1 8 24) D cA g [.ref h0] [(h0, .inr (8, [.null]))] (fun q => none) (fun q => [(h0, .inr (8, [.ref (q 0)])), ((q 0), .inl (cA 1, 8, .inr (.inl (fun _ => 0))))]) := by
  refine CT.of (by decide +kernel) (Nat.le_of_ble_eq_true rfl) ?_
  intro p e s m args below meth c A ls hx hb hr hml hown hG hlocks hnm hA hS hP hK hD hGV hl
  have hown : s.vm.findClass RX5 = some m.cls := hown
  have hl : lv_has ls 1 [(0, .ref h0)] := hl
  have hSF : CF p m c cX5_init 1 s args RX5 := ⟨hx, hb, hml, hown, hG⟩
  refine lv_aload_n hx hb dX5_init_0 rfl (lv_at hl 0 rfl) ?_
  refine W.objInit hx hb hown (hG _ gw191) (hG _ gw118) (hG _ gw119) rfl (hl.1.trans hml.symm) rfl dX5_init_1 (Nat.le_of_ble_eq_true rfl) (Nat.le_of_ble_eq_true rfl) ?_
  refine W.eq (g2 := F0 m 4 ls []) rfl ?_
  refine lv_aload_n hx hb dX5_init_4 rfl (lv_at hl 0 rfl) ?_
  refine lv_bipush (v := 8) hx hb dX5_init_5 (by decide) ?_
  refine k_newa_long hx hb hG gw196 hK hP hD hS hA 8 (by decide) (by decide) (Nat.le_of_ble_eq_true rfl) (Nat.le_of_ble_eq_true rfl) (Nat.le_of_ble_eq_true rfl) dX5_init_7 (fun a1 H hP hD hS => ?_)
  have hP : va_P D vwCl [(h0, .inr (8, [.null])), (a1, .inl (cA 1, 8, .inr (.inl (fun _ => 0))))] H := hP
  have hD : va_D _ [(h0, .inr (8, [.null])), (a1, .inl (cA 1, 8, .inr (.inl (fun _ => 0))))] := hD
  refine k_putF (ci := 8) (C := RX5) (T := TX5) (N := 1) (v := .ref a1) (ws1 := [(h0, .inr (8, [.ref a1])), (a1, .inl (cA 1, 8, .inr (.inl (fun _ => 0))))]) hx hb hG inX5 tyX5 tyX5_ok nmX5 hown hK hP hD hS 0 rfl rfl 0 (by decide) gw192 rfl hnm rfl ⟨rfl, rfl⟩ rfl (Nat.le_of_ble_eq_true rfl) dX5_init_9 (fun H locs hP hD hS => ?_)
  exact e_v (fun i => match i with | 0 => a1 | _ => 0) hx hb hr hlocks rfl hP hD hS (Nat.le_of_ble_eq_true rfl) (Nat.le_of_ble_eq_true rfl) dX5_init_12
set_option maxHeartbeats 4000000 in
set_option maxRecDepth 100000 in
theorem c2_X1_init (l : Launch) (hfl : l.stackTraces = false) (D : va_G) (cA : Nat → ClassId) (g : gv_T) (h0 : Nat) : CT l yX1_init cX1_init 1 none (RM 2 19 1739 44) D cA g [.ref h0] [(h0, .inr (4, [.int 0, .int 0, .long 0, .null, .null, .null, .null, .null, .null, .null, .null, .null, .null, .null, .null, .null, .null]))] (fun q => none) (fun q => [(h0, .inr (4, [.int 0, .int 0, .long 0, .ref (q 0), .ref (q 1), .ref (q 2), .ref (q 3), .ref (q 4), .ref (q 5), .ref (q 6), .ref (q 7), .ref (q 8), .ref (q 9), .ref (q 11), .ref (q 13), .ref (q 15), .ref (q 17)])), ((q 0), .inl (cA 1, 25, .inr (.inl (fun _ => 0)))), ((q 1), .inl (cA 1, 25, .inr (.inl (fun _ => 0)))), ((q 2), .inl (cA 1, 9, .inr (.inl (fun _ => 0)))), ((q 3), .inl (cA 0, 81, .inl (fun _ => 0))), ((q 4), .inl (cA 0, 9, .inl (fun _ => 0))), ((q 5), .inl (cA 0, 9, .inl (fun _ => 0))), ((q 6), .inl (cA 1, 512, .inr (.inl (fun _ => 0)))), ((q 7), .inl (cA 1, 512, .inr (.inl (fun _ => 0)))), ((q 8), .inl (cA 1, 512, .inr (.inl (fun _ => 0)))), ((q 9), .inr (8, [.ref (q 10)])), ((q 10), .inl (cA 1, 8, .inr (.inl (fun _ => 0)))), ((q 11), .inr (8, [.ref (q 12)])), ((q 12), .inl (cA 1, 8, .inr (.inl (fun _ => 0)))), ((q 13), .inr (8, [.ref (q 14)])), ((q 14), .inl (cA 1, 8, .inr (.inl (fun _ => 0)))), ((q 15), .inr (8, [.ref (q 16)])), ((q 16), .inl (cA 1, 8, .inr (.inl (fun _ => 0)))), ((q 17), .inr (8, [.ref (q 18)])), ((q 18), .inl (cA 1, 8, .inr (.inl (fun _ => 0))))]) := by
  refine CT.of (by decide +kernel) (Nat.le_of_ble_eq_true rfl) ?_
  intro p e s m args below meth c A ls hx hb hr hml hown hG hlocks hnm hA hS hP hK hD hGV hl
  have hown : s.vm.findClass RX1 = some m.cls := hown
  have hl : lv_has ls 1 [(0, .ref h0)] := hl
  have hSF : CF p m c cX1_init 1 s args RX1 := ⟨hx, hb, hml, hown, hG⟩
  refine lv_aload_n hx hb dX1_init_0 rfl (lv_at hl 0 rfl) ?_
  refine W.objInit hx hb hown (hG _ gw185) (hG _ gw118) (hG _ gw119) rfl (hl.1.trans hml.symm) rfl dX1_init_1 (Nat.le_of_ble_eq_true rfl) (Nat.le_of_ble_eq_true rfl) ?_
  refine W.eq (g2 := F0 m 4 ls []) rfl ?_
  refine lv_aload_n hx hb dX1_init_4 rfl (lv_at hl 0 rfl) ?_
  refine lv_bipush (v := 25) hx hb dX1_init_5 (by decide) ?_
  refine k_newa_long hx hb hG gw196 hK hP hD hS hA 25 (by decide) (by decide) (Nat.le_of_ble_eq_true rfl) (Nat.le_of_ble_eq_true rfl) (Nat.le_of_ble_eq_true rfl) dX1_init_7 (fun a1 H hP hD hS => ?_)
  have hP : va_P D vwCl [(h0, .inr (4, [.int 0, .int 0, .long 0, .null, .null, .null, .null, .null, .null, .null, .null, .null, .null, .null, .null, .null, .null])), (a1, .inl (cA 1, 25, .inr (.inl (fun _ => 0))))] H := hP
  have hD : va_D _ [(h0, .inr (4, [.int 0, .int 0, .long 0, .null, .null, .null, .null, .null, .null, .null, .null, .null, .null, .null, .null, .null, .null])), (a1, .inl (cA 1, 25, .inr (.inl (fun _ => 0))))] := hD
  refine k_putF (ci := 4) (C := RX1) (T := TX1) (N := 17) (v := .ref a1) (ws1 := [(h0, .inr (4, [.int 0, .int 0, .long 0, .ref a1, .null, .null, .null, .null, .null, .null, .null, .null, .null, .null, .null, .null, .null])), (a1, .inl (cA 1, 25, .inr (.inl (fun _ => 0))))]) hx hb hG inX1 tyX1 tyX1_ok nmX1 hown hK hP hD hS 0 rfl rfl 3 (by decide) gw202 rfl hnm rfl ⟨rfl, rfl⟩ rfl (Nat.le_of_ble_eq_true rfl) dX1_init_9 (fun H locs hP hD hS => ?_)
  refine lv_aload_n hx hb dX1_init_12 rfl (lv_at hl 0 rfl) ?_
  refine lv_bipush (v := 25) hx hb dX1_init_13 (by decide) ?_
  refine k_newa_long hx hb hG gw196 hK hP hD hS hA 25 (by decide) (by decide) (Nat.le_of_ble_eq_true rfl) (Nat.le_of_ble_eq_true rfl) (Nat.le_of_ble_eq_true rfl) dX1_init_15 (fun a2 H hP hD hS => ?_)
  have hP : va_P D vwCl [(h0, .inr (4, [.int 0, .int 0, .long 0, .ref a1, .null, .null, .null, .null, .null, .null, .null, .null, .null, .null, .null, .null, .null])), (a1, .inl (cA 1, 25, .inr (.inl (fun _ => 0)))), (a2, .inl (cA 1, 25, .inr (.inl (fun _ => 0))))] H := hP
  have hD : va_D _ [(h0, .inr (4, [.int 0, .int 0, .long 0, .ref a1, .null, .null, .null, .null, .null, .null, .null, .null, .null, .null, .null, .null, .null])), (a1, .inl (cA 1, 25, .inr (.inl (fun _ => 0)))), (a2, .inl (cA 1, 25, .inr (.inl (fun _ => 0))))] := hD
  refine k_putF (ci := 4) (C := RX1) (T := TX1) (N := 17) (v := .ref a2) (ws1 := [(h0, .inr (4, [.int 0, .int 0, .long 0, .ref a1, .ref a2, .null, .null, .null, .null, .null, .null, .null, .null, .null, .null, .null, .null])), (a1, .inl (cA 1, 25, .inr (.inl (fun _ => 0)))), (a2, .inl (cA 1, 25, .inr (.inl (fun _ => 0))))]) hx hb hG inX1 tyX1 tyX1_ok nmX1 hown hK hP hD hS 0 rfl rfl 4 (by decide) gw203 rfl hnm rfl ⟨rfl, rfl⟩ rfl (Nat.le_of_ble_eq_true rfl) dX1_init_17 (fun H locs hP hD hS => ?_)
  refine lv_aload_n hx hb dX1_init_20 rfl (lv_at hl 0 rfl) ?_
  refine lv_bipush (v := 9) hx hb dX1_init_21 (by decide) ?_
  refine k_newa_long hx hb hG gw196 hK hP hD hS hA 9 (by decide) (by decide) (Nat.le_of_ble_eq_true rfl) (Nat.le_of_ble_eq_true rfl) (Nat.le_of_ble_eq_true rfl) dX1_init_23 (fun a3 H hP hD hS => ?_)
  have hP : va_P D vwCl [(h0, .inr (4, [.int 0, .int 0, .long 0, .ref a1, .ref a2, .null, .null, .null, .null, .null, .null, .null, .null, .null, .null, .null, .null])), (a1, .inl (cA 1, 25, .inr (.inl (fun _ => 0)))), (a2, .inl (cA 1, 25, .inr (.inl (fun _ => 0)))), (a3, .inl (cA 1, 9, .inr (.inl (fun _ => 0))))] H := hP
  have hD : va_D _ [(h0, .inr (4, [.int 0, .int 0, .long 0, .ref a1, .ref a2, .null, .null, .null, .null, .null, .null, .null, .null, .null, .null, .null, .null])), (a1, .inl (cA 1, 25, .inr (.inl (fun _ => 0)))), (a2, .inl (cA 1, 25, .inr (.inl (fun _ => 0)))), (a3, .inl (cA 1, 9, .inr (.inl (fun _ => 0))))] := hD
  refine k_putF (ci := 4) (C := RX1) (T := TX1) (N := 17) (v := .ref a3) (ws1 := [(h0, .inr (4, [.int 0, .int 0, .long 0, .ref a1, .ref a2, .ref a3, .null, .null, .null, .null, .null, .null, .null, .null, .null, .null, .null])), (a1, .inl (cA 1, 25, .inr (.inl (fun _ => 0)))), (a2, .inl (cA 1, 25, .inr (.inl (fun _ => 0)))), (a3, .inl (cA 1, 9, .inr (.inl (fun _ => 0))))]) hx hb hG inX1 tyX1 tyX1_ok nmX1 hown hK hP hD hS 0 rfl rfl 5 (by decide) gw204 rfl hnm rfl ⟨rfl, rfl⟩ rfl (Nat.le_of_ble_eq_true rfl) dX1_init_25 (fun H locs hP hD hS => ?_)
  refine lv_aload_n hx hb dX1_init_28 rfl (lv_at hl 0 rfl) ?_
  refine lv_bipush (v := 81) hx hb dX1_init_29 (by decide) ?_
  refine k_newa_int hx hb hG gw178 hK hP hD hS hA 81 (by decide) (by decide) (Nat.le_of_ble_eq_true rfl) (Nat.le_of_ble_eq_true rfl) (Nat.le_of_ble_eq_true rfl) dX1_init_31 (fun a4 H hP hD hS => ?_)
  have hP : va_P D vwCl [(h0, .inr (4, [.int 0, .int 0, .long 0, .ref a1, .ref a2, .ref a3, .null, .null, .null, .null, .null, .null, .null, .null, .null, .null, .null])), (a1, .inl (cA 1, 25, .inr (.inl (fun _ => 0)))), (a2, .inl (cA 1, 25, .inr (.inl (fun _ => 0)))), (a3, .inl (cA 1, 9, .inr (.inl (fun _ => 0)))), (a4, .inl (cA 0, 81, .inl (fun _ => 0)))] H := hP
  have hD : va_D _ [(h0, .inr (4, [.int 0, .int 0, .long 0, .ref a1, .ref a2, .ref a3, .null, .null, .null, .null, .null, .null, .null, .null, .null, .null, .null])), (a1, .inl (cA 1, 25, .inr (.inl (fun _ => 0)))), (a2, .inl (cA 1, 25, .inr (.inl (fun _ => 0)))), (a3, .inl (cA 1, 9, .inr (.inl (fun _ => 0)))), (a4, .inl (cA 0, 81, .inl (fun _ => 0)))] := hD
  refine k_putF (ci := 4) (C := RX1) (T := TX1) (N := 17) (v := .ref a4) (ws1 := [(h0, .inr (4, [.int 0, .int 0, .long 0, .ref a1, .ref a2, .ref a3, .ref a4, .null, .null, .null, .null, .null, .null, .null, .null, .null, .null])), (a1, .inl (cA 1, 25, .inr (.inl (fun _ => 0)))), (a2, .inl (cA 1, 25, .inr (.inl (fun _ => 0)))), (a3, .inl (cA 1, 9, .inr (.inl (fun _ => 0)))), (a4, .inl (cA 0, 81, .inl (fun _ => 0)))]) hx hb hG inX1 tyX1 tyX1_ok nmX1 hown hK hP hD hS 0 rfl rfl 6 (by decide) gw206 rfl hnm rfl ⟨rfl, rfl⟩ rfl (Nat.le_of_ble_eq_true rfl) dX1_init_33 (fun H locs hP hD hS => ?_)
  refine lv_aload_n hx hb dX1_init_36 rfl (lv_at hl 0 rfl) ?_
  refine lv_bipush (v := 9) hx hb dX1_init_37 (by decide) ?_
  refine k_newa_int hx hb hG gw178 hK hP hD hS hA 9 (by decide) (by decide) (Nat.le_of_ble_eq_true rfl) (Nat.le_of_ble_eq_true rfl) (Nat.le_of_ble_eq_true rfl) dX1_init_39 (fun a5 H hP hD hS => ?_)
  have hP : va_P D vwCl [(h0, .inr (4, [.int 0, .int 0, .long 0, .ref a1, .ref a2, .ref a3, .ref a4, .null, .null, .null, .null, .null, .null, .null, .null, .null, .null])), (a1, .inl (cA 1, 25, .inr (.inl (fun _ => 0)))), (a2, .inl (cA 1, 25, .inr (.inl (fun _ => 0)))), (a3, .inl (cA 1, 9, .inr (.inl (fun _ => 0)))), (a4, .inl (cA 0, 81, .inl (fun _ => 0))), (a5, .inl (cA 0, 9, .inl (fun _ => 0)))] H := hP
  have hD : va_D _ [(h0, .inr (4, [.int 0, .int 0, .long 0, .ref a1, .ref a2, .ref a3, .ref a4, .null, .null, .null, .null, .null, .null, .null, .null, .null, .null])), (a1, .inl (cA 1, 25, .inr (.inl (fun _ => 0)))), (a2, .inl (cA 1, 25, .inr (.inl (fun _ => 0)))), (a3, .inl (cA 1, 9, .inr (.inl (fun _ => 0)))), (a4, .inl (cA 0, 81, .inl (fun _ => 0))), (a5, .inl (cA 0, 9, .inl (fun _ => 0)))] := hD
  refine k_putF (ci := 4) (C := RX1) (T := TX1) (N := 17) (v := .ref a5) (ws1 := [(h0, .inr (4, [.int 0, .int 0, .long 0, .ref a1, .ref a2, .ref a3, .ref a4, .ref a5, .null, .null, .null, .null, .null, .null, .null, .null, .null])), (a1, .inl (cA 1, 25, .inr (.inl (fun _ => 0)))), (a2, .inl (cA 1, 25, .inr (.inl (fun _ => 0)))), (a3, .inl (cA 1, 9, .inr (.inl (fun _ => 0)))), (a4, .inl (cA 0, 81, .inl (fun _ => 0))), (a5, .inl (cA 0, 9, .inl (fun _ => 0)))]) hx hb hG inX1 tyX1 tyX1_ok nmX1 hown hK hP hD hS 0 rfl rfl 7 (by decide) gw207 rfl hnm rfl ⟨rfl, rfl⟩ rfl (Nat.le_of_ble_eq_true rfl) dX1_init_41 (fun H locs hP hD hS => ?_)
  refine lv_aload_n hx hb dX1_init_44 rfl (lv_at hl 0 rfl) ?_
  refine lv_bipush (v := 9) hx hb dX1_init_45 (by decide) ?_
  refine k_newa_int hx hb hG gw178 hK hP hD hS hA 9 (by decide) (by decide) (Nat.le_of_ble_eq_true rfl) (Nat.le_of_ble_eq_true rfl) (Nat.le_of_ble_eq_true rfl) dX1_init_47 (fun a6 H hP hD hS => ?_)
  have hP : va_P D vwCl [(h0, .inr (4, [.int 0, .int 0, .long 0, .ref a1, .ref a2, .ref a3, .ref a4, .ref a5, .null, .null, .null, .null, .null, .null, .null, .null, .null])), (a1, .inl (cA 1, 25, .inr (.inl (fun _ => 0)))), (a2, .inl (cA 1, 25, .inr (.inl (fun _ => 0)))), (a3, .inl (cA 1, 9, .inr (.inl (fun _ => 0)))), (a4, .inl (cA 0, 81, .inl (fun _ => 0))), (a5, .inl (cA 0, 9, .inl (fun _ => 0))), (a6, .inl (cA 0, 9, .inl (fun _ => 0)))] H := hP
  have hD : va_D _ [(h0, .inr (4, [.int 0, .int 0, .long 0, .ref a1, .ref a2, .ref a3, .ref a4, .ref a5, .null, .null, .null, .null, .null, .null, .null, .null, .null])), (a1, .inl (cA 1, 25, .inr (.inl (fun _ => 0)))), (a2, .inl (cA 1, 25, .inr (.inl (fun _ => 0)))), (a3, .inl (cA 1, 9, .inr (.inl (fun _ => 0)))), (a4, .inl (cA 0, 81, .inl (fun _ => 0))), (a5, .inl (cA 0, 9, .inl (fun _ => 0))), (a6, .inl (cA 0, 9, .inl (fun _ => 0)))] := hD
  refine k_putF (ci := 4) (C := RX1) (T := TX1) (N := 17) (v := .ref a6) (ws1 := [(h0, .inr (4, [.int 0, .int 0, .long 0, .ref a1, .ref a2, .ref a3, .ref a4, .ref a5, .ref a6, .null, .null, .null, .null, .null, .null, .null, .null])), (a1, .inl (cA 1, 25, .inr (.inl (fun _ => 0)))), (a2, .inl (cA 1, 25, .inr (.inl (fun _ => 0)))), (a3, .inl (cA 1, 9, .inr (.inl (fun _ => 0)))), (a4, .inl (cA 0, 81, .inl (fun _ => 0))), (a5, .inl (cA 0, 9, .inl (fun _ => 0))), (a6, .inl (cA 0, 9, .inl (fun _ => 0)))]) hx hb hG inX1 tyX1 tyX1_ok nmX1 hown hK hP hD hS 0 rfl rfl 8 (by decide) gw208 rfl hnm rfl ⟨rfl, rfl⟩ rfl (Nat.le_of_ble_eq_true rfl) dX1_init_49 (fun H locs hP hD hS => ?_)
  refine lv_aload_n hx hb dX1_init_52 rfl (lv_at hl 0 rfl) ?_
  refine lv_sipush (v := 512) hx hb dX1_init_53 (by decide) ?_
  refine k_newa_long hx hb hG gw196 hK hP hD hS hA 512 (by decide) (by decide) (Nat.le_of_ble_eq_true rfl) (Nat.le_of_ble_eq_true rfl) (Nat.le_of_ble_eq_true rfl) dX1_init_56 (fun a7 H hP hD hS => ?_)
  have hP : va_P D vwCl [(h0, .inr (4, [.int 0, .int 0, .long 0, .ref a1, .ref a2, .ref a3, .ref a4, .ref a5, .ref a6, .null, .null, .null, .null, .null, .null, .null, .null])), (a1, .inl (cA 1, 25, .inr (.inl (fun _ => 0)))), (a2, .inl (cA 1, 25, .inr (.inl (fun _ => 0)))), (a3, .inl (cA 1, 9, .inr (.inl (fun _ => 0)))), (a4, .inl (cA 0, 81, .inl (fun _ => 0))), (a5, .inl (cA 0, 9, .inl (fun _ => 0))), (a6, .inl (cA 0, 9, .inl (fun _ => 0))), (a7, .inl (cA 1, 512, .inr (.inl (fun _ => 0))))] H := hP
  have hD : va_D _ [(h0, .inr (4, [.int 0, .int 0, .long 0, .ref a1, .ref a2, .ref a3, .ref a4, .ref a5, .ref a6, .null, .null, .null, .null, .null, .null, .null, .null])), (a1, .inl (cA 1, 25, .inr (.inl (fun _ => 0)))), (a2, .inl (cA 1, 25, .inr (.inl (fun _ => 0)))), (a3, .inl (cA 1, 9, .inr (.inl (fun _ => 0)))), (a4, .inl (cA 0, 81, .inl (fun _ => 0))), (a5, .inl (cA 0, 9, .inl (fun _ => 0))), (a6, .inl (cA 0, 9, .inl (fun _ => 0))), (a7, .inl (cA 1, 512, .inr (.inl (fun _ => 0))))] := hD
  refine k_putF (ci := 4) (C := RX1) (T := TX1) (N := 17) (v := .ref a7) (ws1 := [(h0, .inr (4, [.int 0, .int 0, .long 0, .ref a1, .ref a2, .ref a3, .ref a4, .ref a5, .ref a6, .ref a7, .null, .null, .null, .null, .null, .null, .null])), (a1, .inl (cA 1, 25, .inr (.inl (fun _ => 0)))), (a2, .inl (cA 1, 25, .inr (.inl (fun _ => 0)))), (a3, .inl (cA 1, 9, .inr (.inl (fun _ => 0)))), (a4, .inl (cA 0, 81, .inl (fun _ => 0))), (a5, .inl (cA 0, 9, .inl (fun _ => 0))), (a6, .inl (cA 0, 9, .inl (fun _ => 0))), (a7, .inl (cA 1, 512, .inr (.inl (fun _ => 0))))]) hx hb hG inX1 tyX1 tyX1_ok nmX1 hown hK hP hD hS 0 rfl rfl 9 (by decide) gw209 rfl hnm rfl ⟨rfl, rfl⟩ rfl (Nat.le_of_ble_eq_true rfl) dX1_init_58 (fun H locs hP hD hS => ?_)
  refine lv_aload_n hx hb dX1_init_61 rfl (lv_at hl 0 rfl) ?_
  refine lv_sipush (v := 512) hx hb dX1_init_62 (by decide) ?_
  refine k_newa_long hx hb hG gw196 hK hP hD hS hA 512 (by decide) (by decide) (Nat.le_of_ble_eq_true rfl) (Nat.le_of_ble_eq_true rfl) (Nat.le_of_ble_eq_true rfl) dX1_init_65 (fun a8 H hP hD hS => ?_)
  have hP : va_P D vwCl [(h0, .inr (4, [.int 0, .int 0, .long 0, .ref a1, .ref a2, .ref a3, .ref a4, .ref a5, .ref a6, .ref a7, .null, .null, .null, .null, .null, .null, .null])), (a1, .inl (cA 1, 25, .inr (.inl (fun _ => 0)))), (a2, .inl (cA 1, 25, .inr (.inl (fun _ => 0)))), (a3, .inl (cA 1, 9, .inr (.inl (fun _ => 0)))), (a4, .inl (cA 0, 81, .inl (fun _ => 0))), (a5, .inl (cA 0, 9, .inl (fun _ => 0))), (a6, .inl (cA 0, 9, .inl (fun _ => 0))), (a7, .inl (cA 1, 512, .inr (.inl (fun _ => 0)))), (a8, .inl (cA 1, 512, .inr (.inl (fun _ => 0))))] H := hP
  have hD : va_D _ [(h0, .inr (4, [.int 0, .int 0, .long 0, .ref a1, .ref a2, .ref a3, .ref a4, .ref a5, .ref a6, .ref a7, .null, .null, .null, .null, .null, .null, .null])), (a1, .inl (cA 1, 25, .inr (.inl (fun _ => 0)))), (a2, .inl (cA 1, 25, .inr (.inl (fun _ => 0)))), (a3, .inl (cA 1, 9, .inr (.inl (fun _ => 0)))), (a4, .inl (cA 0, 81, .inl (fun _ => 0))), (a5, .inl (cA 0, 9, .inl (fun _ => 0))), (a6, .inl (cA 0, 9, .inl (fun _ => 0))), (a7, .inl (cA 1, 512, .inr (.inl (fun _ => 0)))), (a8, .inl (cA 1, 512, .inr (.inl (fun _ => 0))))] := hD
  refine k_putF (ci := 4) (C := RX1) (T := TX1) (N := 17) (v := .ref a8) (ws1 := [(h0, .inr (4, [.int 0, .int 0, .long 0, .ref a1, .ref a2, .ref a3, .ref a4, .ref a5, .ref a6, .ref a7, .ref a8, .null, .null, .null, .null, .null, .null])), (a1, .inl (cA 1, 25, .inr (.inl (fun _ => 0)))), (a2, .inl (cA 1, 25, .inr (.inl (fun _ => 0)))), (a3, .inl (cA 1, 9, .inr (.inl (fun _ => 0)))), (a4, .inl (cA 0, 81, .inl (fun _ => 0))), (a5, .inl (cA 0, 9, .inl (fun _ => 0))), (a6, .inl (cA 0, 9, .inl (fun _ => 0))), (a7, .inl (cA 1, 512, .inr (.inl (fun _ => 0)))), (a8, .inl (cA 1, 512, .inr (.inl (fun _ => 0))))]) hx hb hG inX1 tyX1 tyX1_ok nmX1 hown hK hP hD hS 0 rfl rfl 10 (by decide) gw210 rfl hnm rfl ⟨rfl, rfl⟩ rfl (Nat.le_of_ble_eq_true rfl) dX1_init_67 (fun H locs hP hD hS => ?_)
  refine lv_aload_n hx hb dX1_init_70 rfl (lv_at hl 0 rfl) ?_
  refine lv_sipush (v := 512) hx hb dX1_init_71 (by decide) ?_
  refine k_newa_long hx hb hG gw196 hK hP hD hS hA 512 (by decide) (by decide) (Nat.le_of_ble_eq_true rfl) (Nat.le_of_ble_eq_true rfl) (Nat.le_of_ble_eq_true rfl) dX1_init_74 (fun a9 H hP hD hS => ?_)
  have hP : va_P D vwCl [(h0, .inr (4, [.int 0, .int 0, .long 0, .ref a1, .ref a2, .ref a3, .ref a4, .ref a5, .ref a6, .ref a7, .ref a8, .null, .null, .null, .null, .null, .null])), (a1, .inl (cA 1, 25, .inr (.inl (fun _ => 0)))), (a2, .inl (cA 1, 25, .inr (.inl (fun _ => 0)))), (a3, .inl (cA 1, 9, .inr (.inl (fun _ => 0)))), (a4, .inl (cA 0, 81, .inl (fun _ => 0))), (a5, .inl (cA 0, 9, .inl (fun _ => 0))), (a6, .inl (cA 0, 9, .inl (fun _ => 0))), (a7, .inl (cA 1, 512, .inr (.inl (fun _ => 0)))), (a8, .inl (cA 1, 512, .inr (.inl (fun _ => 0)))), (a9, .inl (cA 1, 512, .inr (.inl (fun _ => 0))))] H := hP
  have hD : va_D _ [(h0, .inr (4, [.int 0, .int 0, .long 0, .ref a1, .ref a2, .ref a3, .ref a4, .ref a5, .ref a6, .ref a7, .ref a8, .null, .null, .null, .null, .null, .null])), (a1, .inl (cA 1, 25, .inr (.inl (fun _ => 0)))), (a2, .inl (cA 1, 25, .inr (.inl (fun _ => 0)))), (a3, .inl (cA 1, 9, .inr (.inl (fun _ => 0)))), (a4, .inl (cA 0, 81, .inl (fun _ => 0))), (a5, .inl (cA 0, 9, .inl (fun _ => 0))), (a6, .inl (cA 0, 9, .inl (fun _ => 0))), (a7, .inl (cA 1, 512, .inr (.inl (fun _ => 0)))), (a8, .inl (cA 1, 512, .inr (.inl (fun _ => 0)))), (a9, .inl (cA 1, 512, .inr (.inl (fun _ => 0))))] := hD
  refine k_putF (ci := 4) (C := RX1) (T := TX1) (N := 17) (v := .ref a9) (ws1 := [(h0, .inr (4, [.int 0, .int 0, .long 0, .ref a1, .ref a2, .ref a3, .ref a4, .ref a5, .ref a6, .ref a7, .ref a8, .ref a9, .null, .null, .null, .null, .null])), (a1, .inl (cA 1, 25, .inr (.inl (fun _ => 0)))), (a2, .inl (cA 1, 25, .inr (.inl (fun _ => 0)))), (a3, .inl (cA 1, 9, .inr (.inl (fun _ => 0)))), (a4, .inl (cA 0, 81, .inl (fun _ => 0))), (a5, .inl (cA 0, 9, .inl (fun _ => 0))), (a6, .inl (cA 0, 9, .inl (fun _ => 0))), (a7, .inl (cA 1, 512, .inr (.inl (fun _ => 0)))), (a8, .inl (cA 1, 512, .inr (.inl (fun _ => 0)))), (a9, .inl (cA 1, 512, .inr (.inl (fun _ => 0))))]) hx hb hG inX1 tyX1 tyX1_ok nmX1 hown hK hP hD hS 0 rfl rfl 11 (by decide) gw211 rfl hnm rfl ⟨rfl, rfl⟩ rfl (Nat.le_of_ble_eq_true rfl) dX1_init_76 (fun H locs hP hD hS => ?_)
  refine lv_aload_n hx hb dX1_init_79 rfl (lv_at hl 0 rfl) ?_
  refine k_new (ci := 8) (C := RX5) (T := TX5) (N := 1) hx hb hG inX5 tyX5 tyX5_ok hown gw186 gw187 gw78 hK hP hD hS hA rfl [.null] rfl (Nat.le_of_ble_eq_true rfl) (Nat.le_of_ble_eq_true rfl) dX1_init_80 (fun a10 H hP hD hS => ?_)
  have hP : va_P D vwCl [(h0, .inr (4, [.int 0, .int 0, .long 0, .ref a1, .ref a2, .ref a3, .ref a4, .ref a5, .ref a6, .ref a7, .ref a8, .ref a9, .null, .null, .null, .null, .null])), (a1, .inl (cA 1, 25, .inr (.inl (fun _ => 0)))), (a2, .inl (cA 1, 25, .inr (.inl (fun _ => 0)))), (a3, .inl (cA 1, 9, .inr (.inl (fun _ => 0)))), (a4, .inl (cA 0, 81, .inl (fun _ => 0))), (a5, .inl (cA 0, 9, .inl (fun _ => 0))), (a6, .inl (cA 0, 9, .inl (fun _ => 0))), (a7, .inl (cA 1, 512, .inr (.inl (fun _ => 0)))), (a8, .inl (cA 1, 512, .inr (.inl (fun _ => 0)))), (a9, .inl (cA 1, 512, .inr (.inl (fun _ => 0)))), (a10, .inr (8, [.null]))] H := hP
  have hD : va_D _ [(h0, .inr (4, [.int 0, .int 0, .long 0, .ref a1, .ref a2, .ref a3, .ref a4, .ref a5, .ref a6, .ref a7, .ref a8, .ref a9, .null, .null, .null, .null, .null])), (a1, .inl (cA 1, 25, .inr (.inl (fun _ => 0)))), (a2, .inl (cA 1, 25, .inr (.inl (fun _ => 0)))), (a3, .inl (cA 1, 9, .inr (.inl (fun _ => 0)))), (a4, .inl (cA 0, 81, .inl (fun _ => 0))), (a5, .inl (cA 0, 9, .inl (fun _ => 0))), (a6, .inl (cA 0, 9, .inl (fun _ => 0))), (a7, .inl (cA 1, 512, .inr (.inl (fun _ => 0)))), (a8, .inl (cA 1, 512, .inr (.inl (fun _ => 0)))), (a9, .inl (cA 1, 512, .inr (.inl (fun _ => 0)))), (a10, .inr (8, [.null]))] := hD
  refine lv_dup hx hb dX1_init_83 rfl ?_
  refine ct_IN (wr := [(h0, .inr (4, [.int 0, .int 0, .long 0, .ref a1, .ref a2, .ref a3, .ref a4, .ref a5, .ref a6, .ref a7, .ref a8, .ref a9, .null, .null, .null, .null, .null])), (a1, .inl (cA 1, 25, .inr (.inl (fun _ => 0)))), (a2, .inl (cA 1, 25, .inr (.inl (fun _ => 0)))), (a3, .inl (cA 1, 9, .inr (.inl (fun _ => 0)))), (a4, .inl (cA 0, 81, .inl (fun _ => 0))), (a5, .inl (cA 0, 9, .inl (fun _ => 0))), (a6, .inl (cA 0, 9, .inl (fun _ => 0))), (a7, .inl (cA 1, 512, .inr (.inl (fun _ => 0)))), (a8, .inl (cA 1, 512, .inr (.inl (fun _ => 0)))), (a9, .inl (cA 1, 512, .inr (.inl (fun _ => 0))))]) hSF hl.1 hP hD hS hA hK hGV (c1_X5_init l hfl D cA g a10) gw188 gw189 gw78 gw190 rfl pd_X5_init.2 ⟨(Nat.le_of_ble_eq_true rfl), (Nat.le_of_ble_eq_true rfl)⟩ ⟨(Nat.le_of_ble_eq_true rfl), (Nat.le_of_ble_eq_true rfl)⟩ dX1_init_84 rfl (Nat.le_of_ble_eq_true rfl) [10] [0, 1, 2, 3, 4, 5, 6, 7, 8, 9] rfl (by decide) rfl (by decide) (by decide) (fun q => [(h0, .inr (4, [.int 0, .int 0, .long 0, .ref a1, .ref a2, .ref a3, .ref a4, .ref a5, .ref a6, .ref a7, .ref a8, .ref a9, .null, .null, .null, .null, .null])), (a1, .inl (cA 1, 25, .inr (.inl (fun _ => 0)))), (a2, .inl (cA 1, 25, .inr (.inl (fun _ => 0)))), (a3, .inl (cA 1, 9, .inr (.inl (fun _ => 0)))), (a4, .inl (cA 0, 81, .inl (fun _ => 0))), (a5, .inl (cA 0, 9, .inl (fun _ => 0))), (a6, .inl (cA 0, 9, .inl (fun _ => 0))), (a7, .inl (cA 1, 512, .inr (.inl (fun _ => 0)))), (a8, .inl (cA 1, 512, .inr (.inl (fun _ => 0)))), (a9, .inl (cA 1, 512, .inr (.inl (fun _ => 0)))), (a10, .inr (8, [.ref (q 0)])), ((q 0), .inl (cA 1, 8, .inr (.inl (fun _ => 0))))]) (fun _ => rfl) (fun q1 H locs hP hD hS => ?_)
  refine W.eq (g2 := F0 m 87 ls [.ref a10, .ref h0]) rfl ?_
  refine k_putF (ci := 4) (C := RX1) (T := TX1) (N := 17) (v := .ref a10) (ws1 := [(h0, .inr (4, [.int 0, .int 0, .long 0, .ref a1, .ref a2, .ref a3, .ref a4, .ref a5, .ref a6, .ref a7, .ref a8, .ref a9, .ref a10, .null, .null, .null, .null])), (a1, .inl (cA 1, 25, .inr (.inl (fun _ => 0)))), (a2, .inl (cA 1, 25, .inr (.inl (fun _ => 0)))), (a3, .inl (cA 1, 9, .inr (.inl (fun _ => 0)))), (a4, .inl (cA 0, 81, .inl (fun _ => 0))), (a5, .inl (cA 0, 9, .inl (fun _ => 0))), (a6, .inl (cA 0, 9, .inl (fun _ => 0))), (a7, .inl (cA 1, 512, .inr (.inl (fun _ => 0)))), (a8, .inl (cA 1, 512, .inr (.inl (fun _ => 0)))), (a9, .inl (cA 1, 512, .inr (.inl (fun _ => 0)))), (a10, .inr (8, [.ref (q1 0)])), ((q1 0), .inl (cA 1, 8, .inr (.inl (fun _ => 0))))]) hx hb hG inX1 tyX1 tyX1_ok nmX1 hown hK hP hD hS 0 rfl rfl 12 (by decide) gw212 rfl hnm rfl ⟨rfl, rfl⟩ rfl (Nat.le_of_ble_eq_true rfl) dX1_init_87 (fun H locs hP hD hS => ?_)
  refine lv_aload_n hx hb dX1_init_90 rfl (lv_at hl 0 rfl) ?_
  refine k_new (ci := 8) (C := RX5) (T := TX5) (N := 1) hx hb hG inX5 tyX5 tyX5_ok hown gw186 gw187 gw78 hK hP hD hS hA rfl [.null] rfl (Nat.le_of_ble_eq_true rfl) (Nat.le_of_ble_eq_true rfl) dX1_init_91 (fun a12 H hP hD hS => ?_)
  have hP : va_P D vwCl [(h0, .inr (4, [.int 0, .int 0, .long 0, .ref a1, .ref a2, .ref a3, .ref a4, .ref a5, .ref a6, .ref a7, .ref a8, .ref a9, .ref a10, .null, .null, .null, .null])), (a1, .inl (cA 1, 25, .inr (.inl (fun _ => 0)))), (a2, .inl (cA 1, 25, .inr (.inl (fun _ => 0)))), (a3, .inl (cA 1, 9, .inr (.inl (fun _ => 0)))), (a4, .inl (cA 0, 81, .inl (fun _ => 0))), (a5, .inl (cA 0, 9, .inl (fun _ => 0))), (a6, .inl (cA 0, 9, .inl (fun _ => 0))), (a7, .inl (cA 1, 512, .inr (.inl (fun _ => 0)))), (a8, .inl (cA 1, 512, .inr (.inl (fun _ => 0)))), (a9, .inl (cA 1, 512, .inr (.inl (fun _ => 0)))), (a10, .inr (8, [.ref (q1 0)])), ((q1 0), .inl (cA 1, 8, .inr (.inl (fun _ => 0)))), (a12, .inr (8, [.null]))] H := hP
  have hD : va_D _ [(h0, .inr (4, [.int 0, .int 0, .long 0, .ref a1, .ref a2, .ref a3, .ref a4, .ref a5, .ref a6, .ref a7, .ref a8, .ref a9, .ref a10, .null, .null, .null, .null])), (a1, .inl (cA 1, 25, .inr (.inl (fun _ => 0)))), (a2, .inl (cA 1, 25, .inr (.inl (fun _ => 0)))), (a3, .inl (cA 1, 9, .inr (.inl (fun _ => 0)))), (a4, .inl (cA 0, 81, .inl (fun _ => 0))), (a5, .inl (cA 0, 9, .inl (fun _ => 0))), (a6, .inl (cA 0, 9, .inl (fun _ => 0))), (a7, .inl (cA 1, 512, .inr (.inl (fun _ => 0)))), (a8, .inl (cA 1, 512, .inr (.inl (fun _ => 0)))), (a9, .inl (cA 1, 512, .inr (.inl (fun _ => 0)))), (a10, .inr (8, [.ref (q1 0)])), ((q1 0), .inl (cA 1, 8, .inr (.inl (fun _ => 0)))), (a12, .inr (8, [.null]))] := hD
  refine lv_dup hx hb dX1_init_94 rfl ?_
  refine ct_IN (wr := [(h0, .inr (4, [.int 0, .int 0, .long 0, .ref a1, .ref a2, .ref a3, .ref a4, .ref a5, .ref a6, .ref a7, .ref a8, .ref a9, .ref a10, .null, .null, .null, .null])), (a1, .inl (cA 1, 25, .inr (.inl (fun _ => 0)))), (a2, .inl (cA 1, 25, .inr (.inl (fun _ => 0)))), (a3, .inl (cA 1, 9, .inr (.inl (fun _ => 0)))), (a4, .inl (cA 0, 81, .inl (fun _ => 0))), (a5, .inl (cA 0, 9, .inl (fun _ => 0))), (a6, .inl (cA 0, 9, .inl (fun _ => 0))), (a7, .inl (cA 1, 512, .inr (.inl (fun _ => 0)))), (a8, .inl (cA 1, 512, .inr (.inl (fun _ => 0)))), (a9, .inl (cA 1, 512, .inr (.inl (fun _ => 0)))), (a10, .inr (8, [.ref (q1 0)])), ((q1 0), .inl (cA 1, 8, .inr (.inl (fun _ => 0))))]) hSF hl.1 hP hD hS hA hK hGV (c1_X5_init l hfl D cA g a12) gw188 gw189 gw78 gw190 rfl pd_X5_init.2 ⟨(Nat.le_of_ble_eq_true rfl), (Nat.le_of_ble_eq_true rfl)⟩ ⟨(Nat.le_of_ble_eq_true rfl), (Nat.le_of_ble_eq_true rfl)⟩ dX1_init_95 rfl (Nat.le_of_ble_eq_true rfl) [12] [0, 1, 2, 3, 4, 5, 6, 7, 8, 9, 10, 11] rfl (by decide) rfl (by decide) (by decide) (fun q => [(h0, .inr (4, [.int 0, .int 0, .long 0, .ref a1, .ref a2, .ref a3, .ref a4, .ref a5, .ref a6, .ref a7, .ref a8, .ref a9, .ref a10, .null, .null, .null, .null])), (a1, .inl (cA 1, 25, .inr (.inl (fun _ => 0)))), (a2, .inl (cA 1, 25, .inr (.inl (fun _ => 0)))), (a3, .inl (cA 1, 9, .inr (.inl (fun _ => 0)))), (a4, .inl (cA 0, 81, .inl (fun _ => 0))), (a5, .inl (cA 0, 9, .inl (fun _ => 0))), (a6, .inl (cA 0, 9, .inl (fun _ => 0))), (a7, .inl (cA 1, 512, .inr (.inl (fun _ => 0)))), (a8, .inl (cA 1, 512, .inr (.inl (fun _ => 0)))), (a9, .inl (cA 1, 512, .inr (.inl (fun _ => 0)))), (a10, .inr (8, [.ref (q1 0)])), ((q1 0), .inl (cA 1, 8, .inr (.inl (fun _ => 0)))), (a12, .inr (8, [.ref (q 0)])), ((q 0), .inl (cA 1, 8, .inr (.inl (fun _ => 0))))]) (fun _ => rfl) (fun q2 H locs hP hD hS => ?_)
  refine W.eq (g2 := F0 m 98 ls [.ref a12, .ref h0]) rfl ?_
  refine k_putF (ci := 4) (C := RX1) (T := TX1) (N := 17) (v := .ref a12) (ws1 := [(h0, .inr (4, [.int 0, .int 0, .long 0, .ref a1, .ref a2, .ref a3, .ref a4, .ref a5, .ref a6, .ref a7, .ref a8, .ref a9, .ref a10, .ref a12, .null, .null, .null])), (a1, .inl (cA 1, 25, .inr (.inl (fun _ => 0)))), (a2, .inl (cA 1, 25, .inr (.inl (fun _ => 0)))), (a3, .inl (cA 1, 9, .inr (.inl (fun _ => 0)))), (a4, .inl (cA 0, 81, .inl (fun _ => 0))), (a5, .inl (cA 0, 9, .inl (fun _ => 0))), (a6, .inl (cA 0, 9, .inl (fun _ => 0))), (a7, .inl (cA 1, 512, .inr (.inl (fun _ => 0)))), (a8, .inl (cA 1, 512, .inr (.inl (fun _ => 0)))), (a9, .inl (cA 1, 512, .inr (.inl (fun _ => 0)))), (a10, .inr (8, [.ref (q1 0)])), ((q1 0), .inl (cA 1, 8, .inr (.inl (fun _ => 0)))), (a12, .inr (8, [.ref (q2 0)])), ((q2 0), .inl (cA 1, 8, .inr (.inl (fun _ => 0))))]) hx hb hG inX1 tyX1 tyX1_ok nmX1 hown hK hP hD hS 0 rfl rfl 13 (by decide) gw213 rfl hnm rfl ⟨rfl, rfl⟩ rfl (Nat.le_of_ble_eq_true rfl) dX1_init_98 (fun H locs hP hD hS => ?_)
  refine lv_aload_n hx hb dX1_init_101 rfl (lv_at hl 0 rfl) ?_
  refine k_new (ci := 8) (C := RX5) (T := TX5) (N := 1) hx hb hG inX5 tyX5 tyX5_ok hown gw186 gw187 gw78 hK hP hD hS hA rfl [.null] rfl (Nat.le_of_ble_eq_true rfl) (Nat.le_of_ble_eq_true rfl) dX1_init_102 (fun a14 H hP hD hS => ?_)
  have hP : va_P D vwCl [(h0, .inr (4, [.int 0, .int 0, .long 0, .ref a1, .ref a2, .ref a3, .ref a4, .ref a5, .ref a6, .ref a7, .ref a8, .ref a9, .ref a10, .ref a12, .null, .null, .null])), (a1, .inl (cA 1, 25, .inr (.inl (fun _ => 0)))), (a2, .inl (cA 1, 25, .inr (.inl (fun _ => 0)))), (a3, .inl (cA 1, 9, .inr (.inl (fun _ => 0)))), (a4, .inl (cA 0, 81, .inl (fun _ => 0))), (a5, .inl (cA 0, 9, .inl (fun _ => 0))), (a6, .inl (cA 0, 9, .inl (fun _ => 0))), (a7, .inl (cA 1, 512, .inr (.inl (fun _ => 0)))), (a8, .inl (cA 1, 512, .inr (.inl (fun _ => 0)))), (a9, .inl (cA 1, 512, .inr (.inl (fun _ => 0)))), (a10, .inr (8, [.ref (q1 0)])), ((q1 0), .inl (cA 1, 8, .inr (.inl (fun _ => 0)))), (a12, .inr (8, [.ref (q2 0)])), ((q2 0), .inl (cA 1, 8, .inr (.inl (fun _ => 0)))), (a14, .inr (8, [.null]))] H := hP
  have hD : va_D _ [(h0, .inr (4, [.int 0, .int 0, .long 0, .ref a1, .ref a2, .ref a3, .ref a4, .ref a5, .ref a6, .ref a7, .ref a8, .ref a9, .ref a10, .ref a12, .null, .null, .null])), (a1, .inl (cA 1, 25, .inr (.inl (fun _ => 0)))), (a2, .inl (cA 1, 25, .inr (.inl (fun _ => 0)))), (a3, .inl (cA 1, 9, .inr (.inl (fun _ => 0)))), (a4, .inl (cA 0, 81, .inl (fun _ => 0))), (a5, .inl (cA 0, 9, .inl (fun _ => 0))), (a6, .inl (cA 0, 9, .inl (fun _ => 0))), (a7, .inl (cA 1, 512, .inr (.inl (fun _ => 0)))), (a8, .inl (cA 1, 512, .inr (.inl (fun _ => 0)))), (a9, .inl (cA 1, 512, .inr (.inl (fun _ => 0)))), (a10, .inr (8, [.ref (q1 0)])), ((q1 0), .inl (cA 1, 8, .inr (.inl (fun _ => 0)))), (a12, .inr (8, [.ref (q2 0)])), ((q2 0), .inl (cA 1, 8, .inr (.inl (fun _ => 0)))), (a14, .inr (8, [.null]))] := hD
  refine lv_dup hx hb dX1_init_105 rfl ?_
  refine ct_IN (wr := [(h0, .inr (4, [.int 0, .int 0, .long 0, .ref a1, .ref a2, .ref a3, .ref a4, .ref a5, .ref a6, .ref a7, .ref a8, .ref a9, .ref a10, .ref a12, .null, .null, .null])), (a1, .inl (cA 1, 25, .inr (.inl (fun _ => 0)))), (a2, .inl (cA 1, 25, .inr (.inl (fun _ => 0)))), (a3, .inl (cA 1, 9, .inr (.inl (fun _ => 0)))), (a4, .inl (cA 0, 81, .inl (fun _ => 0))), (a5, .inl (cA 0, 9, .inl (fun _ => 0))), (a6, .inl (cA 0, 9, .inl (fun _ => 0))), (a7, .inl (cA 1, 512, .inr (.inl (fun _ => 0)))), (a8, .inl (cA 1, 512, .inr (.inl (fun _ => 0)))), (a9, .inl (cA 1, 512, .inr (.inl (fun _ => 0)))), (a10, .inr (8, [.ref (q1 0)])), ((q1 0), .inl (cA 1, 8, .inr (.inl (fun _ => 0)))), (a12, .inr (8, [.ref (q2 0)])), ((q2 0), .inl (cA 1, 8, .inr (.inl (fun _ => 0))))]) hSF hl.1 hP hD hS hA hK hGV (c1_X5_init l hfl D cA g a14) gw188 gw189 gw78 gw190 rfl pd_X5_init.2 ⟨(Nat.le_of_ble_eq_true rfl), (Nat.le_of_ble_eq_true rfl)⟩ ⟨(Nat.le_of_ble_eq_true rfl), (Nat.le_of_ble_eq_true rfl)⟩ dX1_init_106 rfl (Nat.le_of_ble_eq_true rfl) [14] [0, 1, 2, 3, 4, 5, 6, 7, 8, 9, 10, 11, 12, 13] rfl (by decide) rfl (by decide) (by decide) (fun q => [(h0, .inr (4, [.int 0, .int 0, .long 0, .ref a1, .ref a2, .ref a3, .ref a4, .ref a5, .ref a6, .ref a7, .ref a8, .ref a9, .ref a10, .ref a12, .null, .null, .null])), (a1, .inl (cA 1, 25, .inr (.inl (fun _ => 0)))), (a2, .inl (cA 1, 25, .inr (.inl (fun _ => 0)))), (a3, .inl (cA 1, 9, .inr (.inl (fun _ => 0)))), (a4, .inl (cA 0, 81, .inl (fun _ => 0))), (a5, .inl (cA 0, 9, .inl (fun _ => 0))), (a6, .inl (cA 0, 9, .inl (fun _ => 0))), (a7, .inl (cA 1, 512, .inr (.inl (fun _ => 0)))), (a8, .inl (cA 1, 512, .inr (.inl (fun _ => 0)))), (a9, .inl (cA 1, 512, .inr (.inl (fun _ => 0)))), (a10, .inr (8, [.ref (q1 0)])), ((q1 0), .inl (cA 1, 8, .inr (.inl (fun _ => 0)))), (a12, .inr (8, [.ref (q2 0)])), ((q2 0), .inl (cA 1, 8, .inr (.inl (fun _ => 0)))), (a14, .inr (8, [.ref (q 0)])), ((q 0), .inl (cA 1, 8, .inr (.inl (fun _ => 0))))]) (fun _ => rfl) (fun q3 H locs hP hD hS => ?_)
  refine W.eq (g2 := F0 m 109 ls [.ref a14, .ref h0]) rfl ?_
  refine k_putF (ci := 4) (C := RX1) (T := TX1) (N := 17) (v := .ref a14) (ws1 := [(h0, .inr (4, [.int 0, .int 0, .long 0, .ref a1, .ref a2, .ref a3, .ref a4, .ref a5, .ref a6, .ref a7, .ref a8, .ref a9, .ref a10, .ref a12, .ref a14, .null, .null])), (a1, .inl (cA 1, 25, .inr (.inl (fun _ => 0)))), (a2, .inl (cA 1, 25, .inr (.inl (fun _ => 0)))), (a3, .inl (cA 1, 9, .inr (.inl (fun _ => 0)))), (a4, .inl (cA 0, 81, .inl (fun _ => 0))), (a5, .inl (cA 0, 9, .inl (fun _ => 0))), (a6, .inl (cA 0, 9, .inl (fun _ => 0))), (a7, .inl (cA 1, 512, .inr (.inl (fun _ => 0)))), (a8, .inl (cA 1, 512, .inr (.inl (fun _ => 0)))), (a9, .inl (cA 1, 512, .inr (.inl (fun _ => 0)))), (a10, .inr (8, [.ref (q1 0)])), ((q1 0), .inl (cA 1, 8, .inr (.inl (fun _ => 0)))), (a12, .inr (8, [.ref (q2 0)])), ((q2 0), .inl (cA 1, 8, .inr (.inl (fun _ => 0)))), (a14, .inr (8, [.ref (q3 0)])), ((q3 0), .inl (cA 1, 8, .inr (.inl (fun _ => 0))))]) hx hb hG inX1 tyX1 tyX1_ok nmX1 hown hK hP hD hS 0 rfl rfl 14 (by decide) gw214 rfl hnm rfl ⟨rfl, rfl⟩ rfl (Nat.le_of_ble_eq_true rfl) dX1_init_109 (fun H locs hP hD hS => ?_)
  refine lv_aload_n hx hb dX1_init_112 rfl (lv_at hl 0 rfl) ?_
  refine k_new (ci := 8) (C := RX5) (T := TX5) (N := 1) hx hb hG inX5 tyX5 tyX5_ok hown gw186 gw187 gw78 hK hP hD hS hA rfl [.null] rfl (Nat.le_of_ble_eq_true rfl) (Nat.le_of_ble_eq_true rfl) dX1_init_113 (fun a16 H hP hD hS => ?_)
  have hP : va_P D vwCl [(h0, .inr (4, [.int 0, .int 0, .long 0, .ref a1, .ref a2, .ref a3, .ref a4, .ref a5, .ref a6, .ref a7, .ref a8, .ref a9, .ref a10, .ref a12, .ref a14, .null, .null])), (a1, .inl (cA 1, 25, .inr (.inl (fun _ => 0)))), (a2, .inl (cA 1, 25, .inr (.inl (fun _ => 0)))), (a3, .inl (cA 1, 9, .inr (.inl (fun _ => 0)))), (a4, .inl (cA 0, 81, .inl (fun _ => 0))), (a5, .inl (cA 0, 9, .inl (fun _ => 0))), (a6, .inl (cA 0, 9, .inl (fun _ => 0))), (a7, .inl (cA 1, 512, .inr (.inl (fun _ => 0)))), (a8, .inl (cA 1, 512, .inr (.inl (fun _ => 0)))), (a9, .inl (cA 1, 512, .inr (.inl (fun _ => 0)))), (a10, .inr (8, [.ref (q1 0)])), ((q1 0), .inl (cA 1, 8, .inr (.inl (fun _ => 0)))), (a12, .inr (8, [.ref (q2 0)])), ((q2 0), .inl (cA 1, 8, .inr (.inl (fun _ => 0)))), (a14, .inr (8, [.ref (q3 0)])), ((q3 0), .inl (cA 1, 8, .inr (.inl (fun _ => 0)))), (a16, .inr (8, [.null]))] H := hP
  have hD : va_D _ [(h0, .inr (4, [.int 0, .int 0, .long 0, .ref a1, .ref a2, .ref a3, .ref a4, .ref a5, .ref a6, .ref a7, .ref a8, .ref a9, .ref a10, .ref a12, .ref a14, .null, .null])), (a1, .inl (cA 1, 25, .inr (.inl (fun _ => 0)))), (a2, .inl (cA 1, 25, .inr (.inl (fun _ => 0)))), (a3, .inl (cA 1, 9, .inr (.inl (fun _ => 0)))), (a4, .inl (cA 0, 81, .inl (fun _ => 0))), (a5, .inl (cA 0, 9, .inl (fun _ => 0))), (a6, .inl (cA 0, 9, .inl (fun _ => 0))), (a7, .inl (cA 1, 512, .inr (.inl (fun _ => 0)))), (a8, .inl (cA 1, 512, .inr (.inl (fun _ => 0)))), (a9, .inl (cA 1, 512, .inr (.inl (fun _ => 0)))), (a10, .inr (8, [.ref (q1 0)])), ((q1 0), .inl (cA 1, 8, .inr (.inl (fun _ => 0)))), (a12, .inr (8, [.ref (q2 0)])), ((q2 0), .inl (cA 1, 8, .inr (.inl (fun _ => 0)))), (a14, .inr (8, [.ref (q3 0)])), ((q3 0), .inl (cA 1, 8, .inr (.inl (fun _ => 0)))), (a16, .inr (8, [.null]))] := hD
  refine lv_dup hx hb dX1_init_116 rfl ?_
  refine ct_IN (wr := [(h0, .inr (4, [.int 0, .int 0, .long 0, .ref a1, .ref a2, .ref a3, .ref a4, .ref a5, .ref a6, .ref a7, .ref a8, .ref a9, .ref a10, .ref a12, .ref a14, .null, .null])), (a1, .inl (cA 1, 25, .inr (.inl (fun _ => 0)))), (a2, .inl (cA 1, 25, .inr (.inl (fun _ => 0)))), (a3, .inl (cA 1, 9, .inr (.inl (fun _ => 0)))), (a4, .inl (cA 0, 81, .inl (fun _ => 0))), (a5, .inl (cA 0, 9, .inl (fun _ => 0))), (a6, .inl (cA 0, 9, .inl (fun _ => 0))), (a7, .inl (cA 1, 512, .inr (.inl (fun _ => 0)))), (a8, .inl (cA 1, 512, .inr (.inl (fun _ => 0)))), (a9, .inl (cA 1, 512, .inr (.inl (fun _ => 0)))), (a10, .inr (8, [.ref (q1 0)])), ((q1 0), .inl (cA 1, 8, .inr (.inl (fun _ => 0)))), (a12, .inr (8, [.ref (q2 0)])), ((q2 0), .inl (cA 1, 8, .inr (.inl (fun _ => 0)))), (a14, .inr (8, [.ref (q3 0)])), ((q3 0), .inl (cA 1, 8, .inr (.inl (fun _ => 0))))]) hSF hl.1 hP hD hS hA hK hGV (c1_X5_init l hfl D cA g a16) gw188 gw189 gw78 gw190 rfl pd_X5_init.2 ⟨(Nat.le_of_ble_eq_true rfl), (Nat.le_of_ble_eq_true rfl)⟩ ⟨(Nat.le_of_ble_eq_true rfl), (Nat.le_of_ble_eq_true rfl)⟩ dX1_init_117 rfl (Nat.le_of_ble_eq_true rfl) [16] [0, 1, 2, 3, 4, 5, 6, 7, 8, 9, 10, 11, 12, 13, 14, 15] rfl (by decide) rfl (by decide) (by decide) (fun q => [(h0, .inr (4, [.int 0, .int 0, .long 0, .ref a1, .ref a2, .ref a3, .ref a4, .ref a5, .ref a6, .ref a7, .ref a8, .ref a9, .ref a10, .ref a12, .ref a14, .null, .null])), (a1, .inl (cA 1, 25, .inr (.inl (fun _ => 0)))), (a2, .inl (cA 1, 25, .inr (.inl (fun _ => 0)))), (a3, .inl (cA 1, 9, .inr (.inl (fun _ => 0)))), (a4, .inl (cA 0, 81, .inl (fun _ => 0))), (a5, .inl (cA 0, 9, .inl (fun _ => 0))), (a6, .inl (cA 0, 9, .inl (fun _ => 0))), (a7, .inl (cA 1, 512, .inr (.inl (fun _ => 0)))), (a8, .inl (cA 1, 512, .inr (.inl (fun _ => 0)))), (a9, .inl (cA 1, 512, .inr (.inl (fun _ => 0)))), (a10, .inr (8, [.ref (q1 0)])), ((q1 0), .inl (cA 1, 8, .inr (.inl (fun _ => 0)))), (a12, .inr (8, [.ref (q2 0)])), ((q2 0), .inl (cA 1, 8, .inr (.inl (fun _ => 0)))), (a14, .inr (8, [.ref (q3 0)])), ((q3 0), .inl (cA 1, 8, .inr (.inl (fun _ => 0)))), (a16, .inr (8, [.ref (q 0)])), ((q 0), .inl (cA 1, 8, .inr (.inl (fun _ => 0))))]) (fun _ => rfl) (fun q4 H locs hP hD hS => ?_)
  refine W.eq (g2 := F0 m 120 ls [.ref a16, .ref h0]) rfl ?_
  refine k_putF (ci := 4) (C := RX1) (T := TX1) (N := 17) (v := .ref a16) (ws1 := [(h0, .inr (4, [.int 0, .int 0, .long 0, .ref a1, .ref a2, .ref a3, .ref a4, .ref a5, .ref a6, .ref a7, .ref a8, .ref a9, .ref a10, .ref a12, .ref a14, .ref a16, .null])), (a1, .inl (cA 1, 25, .inr (.inl (fun _ => 0)))), (a2, .inl (cA 1, 25, .inr (.inl (fun _ => 0)))), (a3, .inl (cA 1, 9, .inr (.inl (fun _ => 0)))), (a4, .inl (cA 0, 81, .inl (fun _ => 0))), (a5, .inl (cA 0, 9, .inl (fun _ => 0))), (a6, .inl (cA 0, 9, .inl (fun _ => 0))), (a7, .inl (cA 1, 512, .inr (.inl (fun _ => 0)))), (a8, .inl (cA 1, 512, .inr (.inl (fun _ => 0)))), (a9, .inl (cA 1, 512, .inr (.inl (fun _ => 0)))), (a10, .inr (8, [.ref (q1 0)])), ((q1 0), .inl (cA 1, 8, .inr (.inl (fun _ => 0)))), (a12, .inr (8, [.ref (q2 0)])), ((q2 0), .inl (cA 1, 8, .inr (.inl (fun _ => 0)))), (a14, .inr (8, [.ref (q3 0)])), ((q3 0), .inl (cA 1, 8, .inr (.inl (fun _ => 0)))), (a16, .inr (8, [.ref (q4 0)])), ((q4 0), .inl (cA 1, 8, .inr (.inl (fun _ => 0))))]) hx hb hG inX1 tyX1 tyX1_ok nmX1 hown hK hP hD hS 0 rfl rfl 15 (by decide) gw215 rfl hnm rfl ⟨rfl, rfl⟩ rfl (Nat.le_of_ble_eq_true rfl) dX1_init_120 (fun H locs hP hD hS => ?_)
  refine lv_aload_n hx hb dX1_init_123 rfl (lv_at hl 0 rfl) ?_
  refine k_new (ci := 8) (C := RX5) (T := TX5) (N := 1) hx hb hG inX5 tyX5 tyX5_ok hown gw186 gw187 gw78 hK hP hD hS hA rfl [.null] rfl (Nat.le_of_ble_eq_true rfl) (Nat.le_of_ble_eq_true rfl) dX1_init_124 (fun a18 H hP hD hS => ?_)
  have hP : va_P D vwCl [(h0, .inr (4, [.int 0, .int 0, .long 0, .ref a1, .ref a2, .ref a3, .ref a4, .ref a5, .ref a6, .ref a7, .ref a8, .ref a9, .ref a10, .ref a12, .ref a14, .ref a16, .null])), (a1, .inl (cA 1, 25, .inr (.inl (fun _ => 0)))), (a2, .inl (cA 1, 25, .inr (.inl (fun _ => 0)))), (a3, .inl (cA 1, 9, .inr (.inl (fun _ => 0)))), (a4, .inl (cA 0, 81, .inl (fun _ => 0))), (a5, .inl (cA 0, 9, .inl (fun _ => 0))), (a6, .inl (cA 0, 9, .inl (fun _ => 0))), (a7, .inl (cA 1, 512, .inr (.inl (fun _ => 0)))), (a8, .inl (cA 1, 512, .inr (.inl (fun _ => 0)))), (a9, .inl (cA 1, 512, .inr (.inl (fun _ => 0)))), (a10, .inr (8, [.ref (q1 0)])), ((q1 0), .inl (cA 1, 8, .inr (.inl (fun _ => 0)))), (a12, .inr (8, [.ref (q2 0)])), ((q2 0), .inl (cA 1, 8, .inr (.inl (fun _ => 0)))), (a14, .inr (8, [.ref (q3 0)])), ((q3 0), .inl (cA 1, 8, .inr (.inl (fun _ => 0)))), (a16, .inr (8, [.ref (q4 0)])), ((q4 0), .inl (cA 1, 8, .inr (.inl (fun _ => 0)))), (a18, .inr (8, [.null]))] H := hP
  have hD : va_D _ [(h0, .inr (4, [.int 0, .int 0, .long 0, .ref a1, .ref a2, .ref a3, .ref a4, .ref a5, .ref a6, .ref a7, .ref a8, .ref a9, .ref a10, .ref a12, .ref a14, .ref a16, .null])), (a1, .inl (cA 1, 25, .inr (.inl (fun _ => 0)))), (a2, .inl (cA 1, 25, .inr (.inl (fun _ => 0)))), (a3, .inl (cA 1, 9, .inr (.inl (fun _ => 0)))), (a4, .inl (cA 0, 81, .inl (fun _ => 0))), (a5, .inl (cA 0, 9, .inl (fun _ => 0))), (a6, .inl (cA 0, 9, .inl (fun _ => 0))), (a7, .inl (cA 1, 512, .inr (.inl (fun _ => 0)))), (a8, .inl (cA 1, 512, .inr (.inl (fun _ => 0)))), (a9, .inl (cA 1, 512, .inr (.inl (fun _ => 0)))), (a10, .inr (8, [.ref (q1 0)])), ((q1 0), .inl (cA 1, 8, .inr (.inl (fun _ => 0)))), (a12, .inr (8, [.ref (q2 0)])), ((q2 0), .inl (cA 1, 8, .inr (.inl (fun _ => 0)))), (a14, .inr (8, [.ref (q3 0)])), ((q3 0), .inl (cA 1, 8, .inr (.inl (fun _ => 0)))), (a16, .inr (8, [.ref (q4 0)])), ((q4 0), .inl (cA 1, 8, .inr (.inl (fun _ => 0)))), (a18, .inr (8, [.null]))] := hD
  refine lv_dup hx hb dX1_init_127 rfl ?_
  refine ct_IN (wr := [(h0, .inr (4, [.int 0, .int 0, .long 0, .ref a1, .ref a2, .ref a3, .ref a4, .ref a5, .ref a6, .ref a7, .ref a8, .ref a9, .ref a10, .ref a12, .ref a14, .ref a16, .null])), (a1, .inl (cA 1, 25, .inr (.inl (fun _ => 0)))), (a2, .inl (cA 1, 25, .inr (.inl (fun _ => 0)))), (a3, .inl (cA 1, 9, .inr (.inl (fun _ => 0)))), (a4, .inl (cA 0, 81, .inl (fun _ => 0))), (a5, .inl (cA 0, 9, .inl (fun _ => 0))), (a6, .inl (cA 0, 9, .inl (fun _ => 0))), (a7, .inl (cA 1, 512, .inr (.inl (fun _ => 0)))), (a8, .inl (cA 1, 512, .inr (.inl (fun _ => 0)))), (a9, .inl (cA 1, 512, .inr (.inl (fun _ => 0)))), (a10, .inr (8, [.ref (q1 0)])), ((q1 0), .inl (cA 1, 8, .inr (.inl (fun _ => 0)))), (a12, .inr (8, [.ref (q2 0)])), ((q2 0), .inl (cA 1, 8, .inr (.inl (fun _ => 0)))), (a14, .inr (8, [.ref (q3 0)])), ((q3 0), .inl (cA 1, 8, .inr (.inl (fun _ => 0)))), (a16, .inr (8, [.ref (q4 0)])), ((q4 0), .inl (cA 1, 8, .inr (.inl (fun _ => 0))))]) hSF hl.1 hP hD hS hA hK hGV (c1_X5_init l hfl D cA g a18) gw188 gw189 gw78 gw190 rfl pd_X5_init.2 ⟨(Nat.le_of_ble_eq_true rfl), (Nat.le_of_ble_eq_true rfl)⟩ ⟨(Nat.le_of_ble_eq_true rfl), (Nat.le_of_ble_eq_true rfl)⟩ dX1_init_128 rfl (Nat.le_of_ble_eq_true rfl) [18] [0, 1, 2, 3, 4, 5, 6, 7, 8, 9, 10, 11, 12, 13, 14, 15, 16, 17] rfl (by decide) rfl (by decide) (by decide) (fun q => [(h0, .inr (4, [.int 0, .int 0, .long 0, .ref a1, .ref a2, .ref a3, .ref a4, .ref a5, .ref a6, .ref a7, .ref a8, .ref a9, .ref a10, .ref a12, .ref a14, .ref a16, .null])), (a1, .inl (cA 1, 25, .inr (.inl (fun _ => 0)))), (a2, .inl (cA 1, 25, .inr (.inl (fun _ => 0)))), (a3, .inl (cA 1, 9, .inr (.inl (fun _ => 0)))), (a4, .inl (cA 0, 81, .inl (fun _ => 0))), (a5, .inl (cA 0, 9, .inl (fun _ => 0))), (a6, .inl (cA 0, 9, .inl (fun _ => 0))), (a7, .inl (cA 1, 512, .inr (.inl (fun _ => 0)))), (a8, .inl (cA 1, 512, .inr (.inl (fun _ => 0)))), (a9, .inl (cA 1, 512, .inr (.inl (fun _ => 0)))), (a10, .inr (8, [.ref (q1 0)])), ((q1 0), .inl (cA 1, 8, .inr (.inl (fun _ => 0)))), (a12, .inr (8, [.ref (q2 0)])), ((q2 0), .inl (cA 1, 8, .inr (.inl (fun _ => 0)))), (a14, .inr (8, [.ref (q3 0)])), ((q3 0), .inl (cA 1, 8, .inr (.inl (fun _ => 0)))), (a16, .inr (8, [.ref (q4 0)])), ((q4 0), .inl (cA 1, 8, .inr (.inl (fun _ => 0)))), (a18, .inr (8, [.ref (q 0)])), ((q 0), .inl (cA 1, 8, .inr (.inl (fun _ => 0))))]) (fun _ => rfl) (fun q5 H locs hP hD hS => ?_)
  refine W.eq (g2 := F0 m 131 ls [.ref a18, .ref h0]) rfl ?_
  refine k_putF (ci := 4) (C := RX1) (T := TX1) (N := 17) (v := .ref a18) (ws1 := [(h0, .inr (4, [.int 0, .int 0, .long 0, .ref a1, .ref a2, .ref a3, .ref a4, .ref a5, .ref a6, .ref a7, .ref a8, .ref a9, .ref a10, .ref a12, .ref a14, .ref a16, .ref a18])), (a1, .inl (cA 1, 25, .inr (.inl (fun _ => 0)))), (a2, .inl (cA 1, 25, .inr (.inl (fun _ => 0)))), (a3, .inl (cA 1, 9, .inr (.inl (fun _ => 0)))), (a4, .inl (cA 0, 81, .inl (fun _ => 0))), (a5, .inl (cA 0, 9, .inl (fun _ => 0))), (a6, .inl (cA 0, 9, .inl (fun _ => 0))), (a7, .inl (cA 1, 512, .inr (.inl (fun _ => 0)))), (a8, .inl (cA 1, 512, .inr (.inl (fun _ => 0)))), (a9, .inl (cA 1, 512, .inr (.inl (fun _ => 0)))), (a10, .inr (8, [.ref (q1 0)])), ((q1 0), .inl (cA 1, 8, .inr (.inl (fun _ => 0)))), (a12, .inr (8, [.ref (q2 0)])), ((q2 0), .inl (cA 1, 8, .inr (.inl (fun _ => 0)))), (a14, .inr (8, [.ref (q3 0)])), ((q3 0), .inl (cA 1, 8, .inr (.inl (fun _ => 0)))), (a16, .inr (8, [.ref (q4 0)])), ((q4 0), .inl (cA 1, 8, .inr (.inl (fun _ => 0)))), (a18, .inr (8, [.ref (q5 0)])), ((q5 0), .inl (cA 1, 8, .inr (.inl (fun _ => 0))))]) hx hb hG inX1 tyX1 tyX1_ok nmX1 hown hK hP hD hS 0 rfl rfl 16 (by decide) gw216 rfl hnm rfl ⟨rfl, rfl⟩ rfl (Nat.le_of_ble_eq_true rfl) dX1_init_131 (fun H locs hP hD hS => ?_)
  exact e_v (fun i => match i with | 0 => a1 | 1 => a2 | 2 => a3 | 3 => a4 | 4 => a5 | 5 => a6 | 6 => a7 | 7 => a8 | 8 => a9 | 9 => a10 | 10 => (q1 0) | 11 => a12 | 12 => (q2 0) | 13 => a14 | 14 => (q3 0) | 15 => a16 | 16 => (q4 0) | 17 => a18 | 18 => (q5 0) | _ => 0) hx hb hr hlocks rfl hP hD hS (Nat.le_of_ble_eq_true rfl) (Nat.le_of_ble_eq_true rfl) dX1_init_134
set_option maxHeartbeats 4000000 in
set_option maxRecDepth 100000 in
theorem c3_X3_init (l : Launch) (hfl : l.stackTraces = false) (D : va_G) (cA : Nat → ClassId) (g : gv_T) (h0 : Nat) : CT l yX3_init cX3_init 1 none (RM 1 5 60 24) D cA g [.ref h0] [(h0, .inr (6, [.int 0, .null, .null, .null, .null, .null]))] (fun q => none) (fun q => [(h0, .inr (6, [.int 0, .ref (q 0), .ref (q 1), .ref (q 2), .ref (q 3), .ref (q 4)])), ((q 0), .inl (cA 0, 12, .inl (fun _ => 0))), ((q 1), .inl (cA 0, 12, .inl (fun _ => 0))), ((q 2), .inl (cA 0, 12, .inl (fun _ => 0))), ((q 3), .inl (cA 0, 12, .inl (fun _ => 0))), ((q 4), .inl (cA 0, 12, .inl (fun _ => 0)))]) := by
  refine CT.of (by decide +kernel) (Nat.le_of_ble_eq_true rfl) ?_
  intro p e s m args below meth c A ls hx hb hr hml hown hG hlocks hnm hA hS hP hK hD hGV hl
  have hown : s.vm.findClass RX3 = some m.cls := hown
  have hl : lv_has ls 1 [(0, .ref h0)] := hl
  have hSF : CF p m c cX3_init 1 s args RX3 := ⟨hx, hb, hml, hown, hG⟩
  refine lv_aload_n hx hb dX3_init_0 rfl (lv_at hl 0 rfl) ?_
  refine W.objInit hx hb hown (hG _ gw257) (hG _ gw118) (hG _ gw119) rfl (hl.1.trans hml.symm) rfl dX3_init_1 (Nat.le_of_ble_eq_true rfl) (Nat.le_of_ble_eq_true rfl) ?_
  refine W.eq (g2 := F0 m 4 ls []) rfl ?_
  refine lv_aload_n hx hb dX3_init_4 rfl (lv_at hl 0 rfl) ?_
  refine lv_bipush (v := 12) hx hb dX3_init_5 (by decide) ?_
  refine k_newa_int hx hb hG gw178 hK hP hD hS hA 12 (by decide) (by decide) (Nat.le_of_ble_eq_true rfl) (Nat.le_of_ble_eq_true rfl) (Nat.le_of_ble_eq_true rfl) dX3_init_7 (fun a1 H hP hD hS => ?_)
  have hP : va_P D vwCl [(h0, .inr (6, [.int 0, .null, .null, .null, .null, .null])), (a1, .inl (cA 0, 12, .inl (fun _ => 0)))] H := hP
  have hD : va_D _ [(h0, .inr (6, [.int 0, .null, .null, .null, .null, .null])), (a1, .inl (cA 0, 12, .inl (fun _ => 0)))] := hD
  refine k_putF (ci := 6) (C := RX3) (T := TX3) (N := 6) (v := .ref a1) (ws1 := [(h0, .inr (6, [.int 0, .ref a1, .null, .null, .null, .null])), (a1, .inl (cA 0, 12, .inl (fun _ => 0)))]) hx hb hG inX3 tyX3 tyX3_ok nmX3 hown hK hP hD hS 0 rfl rfl 1 (by decide) gw261 rfl hnm rfl ⟨rfl, rfl⟩ rfl (Nat.le_of_ble_eq_true rfl) dX3_init_9 (fun H locs hP hD hS => ?_)
  refine lv_aload_n hx hb dX3_init_12 rfl (lv_at hl 0 rfl) ?_
  refine lv_bipush (v := 12) hx hb dX3_init_13 (by decide) ?_
  refine k_newa_int hx hb hG gw178 hK hP hD hS hA 12 (by decide) (by decide) (Nat.le_of_ble_eq_true rfl) (Nat.le_of_ble_eq_true rfl) (Nat.le_of_ble_eq_true rfl) dX3_init_15 (fun a2 H hP hD hS => ?_)
  have hP : va_P D vwCl [(h0, .inr (6, [.int 0, .ref a1, .null, .null, .null, .null])), (a1, .inl (cA 0, 12, .inl (fun _ => 0))), (a2, .inl (cA 0, 12, .inl (fun _ => 0)))] H := hP
  have hD : va_D _ [(h0, .inr (6, [.int 0, .ref a1, .null, .null, .null, .null])), (a1, .inl (cA 0, 12, .inl (fun _ => 0))), (a2, .inl (cA 0, 12, .inl (fun _ => 0)))] := hD
  refine k_putF (ci := 6) (C := RX3) (T := TX3) (N := 6) (v := .ref a2) (ws1 := [(h0, .inr (6, [.int 0, .ref a1, .ref a2, .null, .null, .null])), (a1, .inl (cA 0, 12, .inl (fun _ => 0))), (a2, .inl (cA 0, 12, .inl (fun _ => 0)))]) hx hb hG inX3 tyX3 tyX3_ok nmX3 hown hK hP hD hS 0 rfl rfl 2 (by decide) gw262 rfl hnm rfl ⟨rfl, rfl⟩ rfl (Nat.le_of_ble_eq_true rfl) dX3_init_17 (fun H locs hP hD hS => ?_)
  refine lv_aload_n hx hb dX3_init_20 rfl (lv_at hl 0 rfl) ?_
  refine lv_bipush (v := 12) hx hb dX3_init_21 (by decide) ?_
  refine k_newa_int hx hb hG gw178 hK hP hD hS hA 12 (by decide) (by decide) (Nat.le_of_ble_eq_true rfl) (Nat.le_of_ble_eq_true rfl) (Nat.le_of_ble_eq_true rfl) dX3_init_23 (fun a3 H hP hD hS => ?_)
  have hP : va_P D vwCl [(h0, .inr (6, [.int 0, .ref a1, .ref a2, .null, .null, .null])), (a1, .inl (cA 0, 12, .inl (fun _ => 0))), (a2, .inl (cA 0, 12, .inl (fun _ => 0))), (a3, .inl (cA 0, 12, .inl (fun _ => 0)))] H := hP
  have hD : va_D _ [(h0, .inr (6, [.int 0, .ref a1, .ref a2, .null, .null, .null])), (a1, .inl (cA 0, 12, .inl (fun _ => 0))), (a2, .inl (cA 0, 12, .inl (fun _ => 0))), (a3, .inl (cA 0, 12, .inl (fun _ => 0)))] := hD
  refine k_putF (ci := 6) (C := RX3) (T := TX3) (N := 6) (v := .ref a3) (ws1 := [(h0, .inr (6, [.int 0, .ref a1, .ref a2, .ref a3, .null, .null])), (a1, .inl (cA 0, 12, .inl (fun _ => 0))), (a2, .inl (cA 0, 12, .inl (fun _ => 0))), (a3, .inl (cA 0, 12, .inl (fun _ => 0)))]) hx hb hG inX3 tyX3 tyX3_ok nmX3 hown hK hP hD hS 0 rfl rfl 3 (by decide) gw263 rfl hnm rfl ⟨rfl, rfl⟩ rfl (Nat.le_of_ble_eq_true rfl) dX3_init_25 (fun H locs hP hD hS => ?_)
  refine lv_aload_n hx hb dX3_init_28 rfl (lv_at hl 0 rfl) ?_
  refine lv_bipush (v := 12) hx hb dX3_init_29 (by decide) ?_
  refine k_newa_int hx hb hG gw178 hK hP hD hS hA 12 (by decide) (by decide) (Nat.le_of_ble_eq_true rfl) (Nat.le_of_ble_eq_true rfl) (Nat.le_of_ble_eq_true rfl) dX3_init_31 (fun a4 H hP hD hS => ?_)
  have hP : va_P D vwCl [(h0, .inr (6, [.int 0, .ref a1, .ref a2, .ref a3, .null, .null])), (a1, .inl (cA 0, 12, .inl (fun _ => 0))), (a2, .inl (cA 0, 12, .inl (fun _ => 0))), (a3, .inl (cA 0, 12, .inl (fun _ => 0))), (a4, .inl (cA 0, 12, .inl (fun _ => 0)))] H := hP
  have hD : va_D _ [(h0, .inr (6, [.int 0, .ref a1, .ref a2, .ref a3, .null, .null])), (a1, .inl (cA 0, 12, .inl (fun _ => 0))), (a2, .inl (cA 0, 12, .inl (fun _ => 0))), (a3, .inl (cA 0, 12, .inl (fun _ => 0))), (a4, .inl (cA 0, 12, .inl (fun _ => 0)))] := hD
  refine k_putF (ci := 6) (C := RX3) (T := TX3) (N := 6) (v := .ref a4) (ws1 := [(h0, .inr (6, [.int 0, .ref a1, .ref a2, .ref a3, .ref a4, .null])), (a1, .inl (cA 0, 12, .inl (fun _ => 0))), (a2, .inl (cA 0, 12, .inl (fun _ => 0))), (a3, .inl (cA 0, 12, .inl (fun _ => 0))), (a4, .inl (cA 0, 12, .inl (fun _ => 0)))]) hx hb hG inX3 tyX3 tyX3_ok nmX3 hown hK hP hD hS 0 rfl rfl 4 (by decide) gw264 rfl hnm rfl ⟨rfl, rfl⟩ rfl (Nat.le_of_ble_eq_true rfl) dX3_init_33 (fun H locs hP hD hS => ?_)
  refine lv_aload_n hx hb dX3_init_36 rfl (lv_at hl 0 rfl) ?_
  refine lv_bipush (v := 12) hx hb dX3_init_37 (by decide) ?_
  refine k_newa_int hx hb hG gw178 hK hP hD hS hA 12 (by decide) (by decide) (Nat.le_of_ble_eq_true rfl) (Nat.le_of_ble_eq_true rfl) (Nat.le_of_ble_eq_true rfl) dX3_init_39 (fun a5 H hP hD hS => ?_)
  have hP : va_P D vwCl [(h0, .inr (6, [.int 0, .ref a1, .ref a2, .ref a3, .ref a4, .null])), (a1, .inl (cA 0, 12, .inl (fun _ => 0))), (a2, .inl (cA 0, 12, .inl (fun _ => 0))), (a3, .inl (cA 0, 12, .inl (fun _ => 0))), (a4, .inl (cA 0, 12, .inl (fun _ => 0))), (a5, .inl (cA 0, 12, .inl (fun _ => 0)))] H := hP
  have hD : va_D _ [(h0, .inr (6, [.int 0, .ref a1, .ref a2, .ref a3, .ref a4, .null])), (a1, .inl (cA 0, 12, .inl (fun _ => 0))), (a2, .inl (cA 0, 12, .inl (fun _ => 0))), (a3, .inl (cA 0, 12, .inl (fun _ => 0))), (a4, .inl (cA 0, 12, .inl (fun _ => 0))), (a5, .inl (cA 0, 12, .inl (fun _ => 0)))] := hD
  refine k_putF (ci := 6) (C := RX3) (T := TX3) (N := 6) (v := .ref a5) (ws1 := [(h0, .inr (6, [.int 0, .ref a1, .ref a2, .ref a3, .ref a4, .ref a5])), (a1, .inl (cA 0, 12, .inl (fun _ => 0))), (a2, .inl (cA 0, 12, .inl (fun _ => 0))), (a3, .inl (cA 0, 12, .inl (fun _ => 0))), (a4, .inl (cA 0, 12, .inl (fun _ => 0))), (a5, .inl (cA 0, 12, .inl (fun _ => 0)))]) hx hb hG inX3 tyX3 tyX3_ok nmX3 hown hK hP hD hS 0 rfl rfl 5 (by decide) gw265 rfl hnm rfl ⟨rfl, rfl⟩ rfl (Nat.le_of_ble_eq_true rfl) dX3_init_41 (fun H locs hP hD hS => ?_)
  exact e_v (fun i => match i with | 0 => a1 | 1 => a2 | 2 => a3 | 3 => a4 | 4 => a5 | _ => 0) hx hb hr hlocks rfl hP hD hS (Nat.le_of_ble_eq_true rfl) (Nat.le_of_ble_eq_true rfl) dX3_init_44
set_option maxHeartbeats 4000000 in
set_option maxRecDepth 100000 in
theorem c4_X0_init (l : Launch) (hfl : l.stackTraces = false) (D : va_G) (cA : Nat → ClassId) (g : gv_T) (h0 : Nat) : CT l yX0_init cX0_init 1 none (RM 1 7 1560 24) D cA g [.ref h0] [(h0, .inr (3, [.int 0, .int 0, .int 0, .int 0, .null, .null, .null, .null, .null, .null, .null]))] (fun q => none) (fun q => [(h0, .inr (3, [.int 0, .int 0, .int 0, .int 0, .ref (q 0), .ref (q 1), .ref (q 2), .ref (q 3), .ref (q 4), .ref (q 5), .ref (q 6)])), ((q 0), .inl (cA 0, 9, .inl (fun _ => 0))), ((q 1), .inl (cA 0, 5, .inl (fun _ => 0))), ((q 2), .inl (cA 0, 5, .inl (fun _ => 0))), ((q 3), .inl (cA 0, 5, .inl (fun _ => 0))), ((q 4), .inl (cA 0, 512, .inl (fun _ => 0))), ((q 5), .inl (cA 0, 512, .inl (fun _ => 0))), ((q 6), .inl (cA 1, 512, .inr (.inl (fun _ => 0))))]) := by
  refine CT.of (by decide +kernel) (Nat.le_of_ble_eq_true rfl) ?_
  intro p e s m args below meth c A ls hx hb hr hml hown hG hlocks hnm hA hS hP hK hD hGV hl
  have hown : s.vm.findClass RX0 = some m.cls := hown
  have hl : lv_has ls 1 [(0, .ref h0)] := hl
  have hSF : CF p m c cX0_init 1 s args RX0 := ⟨hx, hb, hml, hown, hG⟩
  refine lv_aload_n hx hb dX0_init_0 rfl (lv_at hl 0 rfl) ?_
  refine W.objInit hx hb hown (hG _ gw284) (hG _ gw118) (hG _ gw119) rfl (hl.1.trans hml.symm) rfl dX0_init_1 (Nat.le_of_ble_eq_true rfl) (Nat.le_of_ble_eq_true rfl) ?_
  refine W.eq (g2 := F0 m 4 ls []) rfl ?_
  refine lv_aload_n hx hb dX0_init_4 rfl (lv_at hl 0 rfl) ?_
  refine lv_bipush (v := 9) hx hb dX0_init_5 (by decide) ?_
  refine k_newa_int hx hb hG gw178 hK hP hD hS hA 9 (by decide) (by decide) (Nat.le_of_ble_eq_true rfl) (Nat.le_of_ble_eq_true rfl) (Nat.le_of_ble_eq_true rfl) dX0_init_7 (fun a1 H hP hD hS => ?_)
  have hP : va_P D vwCl [(h0, .inr (3, [.int 0, .int 0, .int 0, .int 0, .null, .null, .null, .null, .null, .null, .null])), (a1, .inl (cA 0, 9, .inl (fun _ => 0)))] H := hP
  have hD : va_D _ [(h0, .inr (3, [.int 0, .int 0, .int 0, .int 0, .null, .null, .null, .null, .null, .null, .null])), (a1, .inl (cA 0, 9, .inl (fun _ => 0)))] := hD
  refine k_putF (ci := 3) (C := RX0) (T := TX0) (N := 11) (v := .ref a1) (ws1 := [(h0, .inr (3, [.int 0, .int 0, .int 0, .int 0, .ref a1, .null, .null, .null, .null, .null, .null])), (a1, .inl (cA 0, 9, .inl (fun _ => 0)))]) hx hb hG inX0 tyX0 tyX0_ok nmX0 hown hK hP hD hS 0 rfl rfl 4 (by decide) gw293 rfl hnm rfl ⟨rfl, rfl⟩ rfl (Nat.le_of_ble_eq_true rfl) dX0_init_9 (fun H locs hP hD hS => ?_)
  refine lv_aload_n hx hb dX0_init_12 rfl (lv_at hl 0 rfl) ?_
  refine lv_iconst (v := 5) hx hb dX0_init_13 (by decide) ?_
  refine k_newa_int hx hb hG gw178 hK hP hD hS hA 5 (by decide) (by decide) (Nat.le_of_ble_eq_true rfl) (Nat.le_of_ble_eq_true rfl) (Nat.le_of_ble_eq_true rfl) dX0_init_14 (fun a2 H hP hD hS => ?_)
  have hP : va_P D vwCl [(h0, .inr (3, [.int 0, .int 0, .int 0, .int 0, .ref a1, .null, .null, .null, .null, .null, .null])), (a1, .inl (cA 0, 9, .inl (fun _ => 0))), (a2, .inl (cA 0, 5, .inl (fun _ => 0)))] H := hP
  have hD : va_D _ [(h0, .inr (3, [.int 0, .int 0, .int 0, .int 0, .ref a1, .null, .null, .null, .null, .null, .null])), (a1, .inl (cA 0, 9, .inl (fun _ => 0))), (a2, .inl (cA 0, 5, .inl (fun _ => 0)))] := hD
  refine k_putF (ci := 3) (C := RX0) (T := TX0) (N := 11) (v := .ref a2) (ws1 := [(h0, .inr (3, [.int 0, .int 0, .int 0, .int 0, .ref a1, .ref a2, .null, .null, .null, .null, .null])), (a1, .inl (cA 0, 9, .inl (fun _ => 0))), (a2, .inl (cA 0, 5, .inl (fun _ => 0)))]) hx hb hG inX0 tyX0 tyX0_ok nmX0 hown hK hP hD hS 0 rfl rfl 5 (by decide) gw295 rfl hnm rfl ⟨rfl, rfl⟩ rfl (Nat.le_of_ble_eq_true rfl) dX0_init_16 (fun H locs hP hD hS => ?_)
  refine lv_aload_n hx hb dX0_init_19 rfl (lv_at hl 0 rfl) ?_
  refine lv_iconst (v := 5) hx hb dX0_init_20 (by decide) ?_
  refine k_newa_int hx hb hG gw178 hK hP hD hS hA 5 (by decide) (by decide) (Nat.le_of_ble_eq_true rfl) (Nat.le_of_ble_eq_true rfl) (Nat.le_of_ble_eq_true rfl) dX0_init_21 (fun a3 H hP hD hS => ?_)
  have hP : va_P D vwCl [(h0, .inr (3, [.int 0, .int 0, .int 0, .int 0, .ref a1, .ref a2, .null, .null, .null, .null, .null])), (a1, .inl (cA 0, 9, .inl (fun _ => 0))), (a2, .inl (cA 0, 5, .inl (fun _ => 0))), (a3, .inl (cA 0, 5, .inl (fun _ => 0)))] H := hP
  have hD : va_D _ [(h0, .inr (3, [.int 0, .int 0, .int 0, .int 0, .ref a1, .ref a2, .null, .null, .null, .null, .null])), (a1, .inl (cA 0, 9, .inl (fun _ => 0))), (a2, .inl (cA 0, 5, .inl (fun _ => 0))), (a3, .inl (cA 0, 5, .inl (fun _ => 0)))] := hD
  refine k_putF (ci := 3) (C := RX0) (T := TX0) (N := 11) (v := .ref a3) (ws1 := [(h0, .inr (3, [.int 0, .int 0, .int 0, .int 0, .ref a1, .ref a2, .ref a3, .null, .null, .null, .null])), (a1, .inl (cA 0, 9, .inl (fun _ => 0))), (a2, .inl (cA 0, 5, .inl (fun _ => 0))), (a3, .inl (cA 0, 5, .inl (fun _ => 0)))]) hx hb hG inX0 tyX0 tyX0_ok nmX0 hown hK hP hD hS 0 rfl rfl 6 (by decide) gw296 rfl hnm rfl ⟨rfl, rfl⟩ rfl (Nat.le_of_ble_eq_true rfl) dX0_init_23 (fun H locs hP hD hS => ?_)
  refine lv_aload_n hx hb dX0_init_26 rfl (lv_at hl 0 rfl) ?_
  refine lv_iconst (v := 5) hx hb dX0_init_27 (by decide) ?_
  refine k_newa_int hx hb hG gw178 hK hP hD hS hA 5 (by decide) (by decide) (Nat.le_of_ble_eq_true rfl) (Nat.le_of_ble_eq_true rfl) (Nat.le_of_ble_eq_true rfl) dX0_init_28 (fun a4 H hP hD hS => ?_)
  have hP : va_P D vwCl [(h0, .inr (3, [.int 0, .int 0, .int 0, .int 0, .ref a1, .ref a2, .ref a3, .null, .null, .null, .null])), (a1, .inl (cA 0, 9, .inl (fun _ => 0))), (a2, .inl (cA 0, 5, .inl (fun _ => 0))), (a3, .inl (cA 0, 5, .inl (fun _ => 0))), (a4, .inl (cA 0, 5, .inl (fun _ => 0)))] H := hP
  have hD : va_D _ [(h0, .inr (3, [.int 0, .int 0, .int 0, .int 0, .ref a1, .ref a2, .ref a3, .null, .null, .null, .null])), (a1, .inl (cA 0, 9, .inl (fun _ => 0))), (a2, .inl (cA 0, 5, .inl (fun _ => 0))), (a3, .inl (cA 0, 5, .inl (fun _ => 0))), (a4, .inl (cA 0, 5, .inl (fun _ => 0)))] := hD
  refine k_putF (ci := 3) (C := RX0) (T := TX0) (N := 11) (v := .ref a4) (ws1 := [(h0, .inr (3, [.int 0, .int 0, .int 0, .int 0, .ref a1, .ref a2, .ref a3, .ref a4, .null, .null, .null])), (a1, .inl (cA 0, 9, .inl (fun _ => 0))), (a2, .inl (cA 0, 5, .inl (fun _ => 0))), (a3, .inl (cA 0, 5, .inl (fun _ => 0))), (a4, .inl (cA 0, 5, .inl (fun _ => 0)))]) hx hb hG inX0 tyX0 tyX0_ok nmX0 hown hK hP hD hS 0 rfl rfl 7 (by decide) gw297 rfl hnm rfl ⟨rfl, rfl⟩ rfl (Nat.le_of_ble_eq_true rfl) dX0_init_30 (fun H locs hP hD hS => ?_)
  refine lv_aload_n hx hb dX0_init_33 rfl (lv_at hl 0 rfl) ?_
  refine lv_sipush (v := 512) hx hb dX0_init_34 (by decide) ?_
  refine k_newa_int hx hb hG gw178 hK hP hD hS hA 512 (by decide) (by decide) (Nat.le_of_ble_eq_true rfl) (Nat.le_of_ble_eq_true rfl) (Nat.le_of_ble_eq_true rfl) dX0_init_37 (fun a5 H hP hD hS => ?_)
  have hP : va_P D vwCl [(h0, .inr (3, [.int 0, .int 0, .int 0, .int 0, .ref a1, .ref a2, .ref a3, .ref a4, .null, .null, .null])), (a1, .inl (cA 0, 9, .inl (fun _ => 0))), (a2, .inl (cA 0, 5, .inl (fun _ => 0))), (a3, .inl (cA 0, 5, .inl (fun _ => 0))), (a4, .inl (cA 0, 5, .inl (fun _ => 0))), (a5, .inl (cA 0, 512, .inl (fun _ => 0)))] H := hP
  have hD : va_D _ [(h0, .inr (3, [.int 0, .int 0, .int 0, .int 0, .ref a1, .ref a2, .ref a3, .ref a4, .null, .null, .null])), (a1, .inl (cA 0, 9, .inl (fun _ => 0))), (a2, .inl (cA 0, 5, .inl (fun _ => 0))), (a3, .inl (cA 0, 5, .inl (fun _ => 0))), (a4, .inl (cA 0, 5, .inl (fun _ => 0))), (a5, .inl (cA 0, 512, .inl (fun _ => 0)))] := hD
  refine k_putF (ci := 3) (C := RX0) (T := TX0) (N := 11) (v := .ref a5) (ws1 := [(h0, .inr (3, [.int 0, .int 0, .int 0, .int 0, .ref a1, .ref a2, .ref a3, .ref a4, .ref a5, .null, .null])), (a1, .inl (cA 0, 9, .inl (fun _ => 0))), (a2, .inl (cA 0, 5, .inl (fun _ => 0))), (a3, .inl (cA 0, 5, .inl (fun _ => 0))), (a4, .inl (cA 0, 5, .inl (fun _ => 0))), (a5, .inl (cA 0, 512, .inl (fun _ => 0)))]) hx hb hG inX0 tyX0 tyX0_ok nmX0 hown hK hP hD hS 0 rfl rfl 8 (by decide) gw298 rfl hnm rfl ⟨rfl, rfl⟩ rfl (Nat.le_of_ble_eq_true rfl) dX0_init_39 (fun H locs hP hD hS => ?_)
  refine lv_aload_n hx hb dX0_init_42 rfl (lv_at hl 0 rfl) ?_
  refine lv_sipush (v := 512) hx hb dX0_init_43 (by decide) ?_
  refine k_newa_int hx hb hG gw178 hK hP hD hS hA 512 (by decide) (by decide) (Nat.le_of_ble_eq_true rfl) (Nat.le_of_ble_eq_true rfl) (Nat.le_of_ble_eq_true rfl) dX0_init_46 (fun a6 H hP hD hS => ?_)
  have hP : va_P D vwCl [(h0, .inr (3, [.int 0, .int 0, .int 0, .int 0, .ref a1, .ref a2, .ref a3, .ref a4, .ref a5, .null, .null])), (a1, .inl (cA 0, 9, .inl (fun _ => 0))), (a2, .inl (cA 0, 5, .inl (fun _ => 0))), (a3, .inl (cA 0, 5, .inl (fun _ => 0))), (a4, .inl (cA 0, 5, .inl (fun _ => 0))), (a5, .inl (cA 0, 512, .inl (fun _ => 0))), (a6, .inl (cA 0, 512, .inl (fun _ => 0)))] H := hP
  have hD : va_D _ [(h0, .inr (3, [.int 0, .int 0, .int 0, .int 0, .ref a1, .ref a2, .ref a3, .ref a4, .ref a5, .null, .null])), (a1, .inl (cA 0, 9, .inl (fun _ => 0))), (a2, .inl (cA 0, 5, .inl (fun _ => 0))), (a3, .inl (cA 0, 5, .inl (fun _ => 0))), (a4, .inl (cA 0, 5, .inl (fun _ => 0))), (a5, .inl (cA 0, 512, .inl (fun _ => 0))), (a6, .inl (cA 0, 512, .inl (fun _ => 0)))] := hD
  refine k_putF (ci := 3) (C := RX0) (T := TX0) (N := 11) (v := .ref a6) (ws1 := [(h0, .inr (3, [.int 0, .int 0, .int 0, .int 0, .ref a1, .ref a2, .ref a3, .ref a4, .ref a5, .ref a6, .null])), (a1, .inl (cA 0, 9, .inl (fun _ => 0))), (a2, .inl (cA 0, 5, .inl (fun _ => 0))), (a3, .inl (cA 0, 5, .inl (fun _ => 0))), (a4, .inl (cA 0, 5, .inl (fun _ => 0))), (a5, .inl (cA 0, 512, .inl (fun _ => 0))), (a6, .inl (cA 0, 512, .inl (fun _ => 0)))]) hx hb hG inX0 tyX0 tyX0_ok nmX0 hown hK hP hD hS 0 rfl rfl 9 (by decide) gw299 rfl hnm rfl ⟨rfl, rfl⟩ rfl (Nat.le_of_ble_eq_true rfl) dX0_init_48 (fun H locs hP hD hS => ?_)
  refine lv_aload_n hx hb dX0_init_51 rfl (lv_at hl 0 rfl) ?_
  refine lv_sipush (v := 512) hx hb dX0_init_52 (by decide) ?_
  refine k_newa_long hx hb hG gw196 hK hP hD hS hA 512 (by decide) (by decide) (Nat.le_of_ble_eq_true rfl) (Nat.le_of_ble_eq_true rfl) (Nat.le_of_ble_eq_true rfl) dX0_init_55 (fun a7 H hP hD hS => ?_)
  have hP : va_P D vwCl [(h0, .inr (3, [.int 0, .int 0, .int 0, .int 0, .ref a1, .ref a2, .ref a3, .ref a4, .ref a5, .ref a6, .null])), (a1, .inl (cA 0, 9, .inl (fun _ => 0))), (a2, .inl (cA 0, 5, .inl (fun _ => 0))), (a3, .inl (cA 0, 5, .inl (fun _ => 0))), (a4, .inl (cA 0, 5, .inl (fun _ => 0))), (a5, .inl (cA 0, 512, .inl (fun _ => 0))), (a6, .inl (cA 0, 512, .inl (fun _ => 0))), (a7, .inl (cA 1, 512, .inr (.inl (fun _ => 0))))] H := hP
  have hD : va_D _ [(h0, .inr (3, [.int 0, .int 0, .int 0, .int 0, .ref a1, .ref a2, .ref a3, .ref a4, .ref a5, .ref a6, .null])), (a1, .inl (cA 0, 9, .inl (fun _ => 0))), (a2, .inl (cA 0, 5, .inl (fun _ => 0))), (a3, .inl (cA 0, 5, .inl (fun _ => 0))), (a4, .inl (cA 0, 5, .inl (fun _ => 0))), (a5, .inl (cA 0, 512, .inl (fun _ => 0))), (a6, .inl (cA 0, 512, .inl (fun _ => 0))), (a7, .inl (cA 1, 512, .inr (.inl (fun _ => 0))))] := hD
  refine k_putF (ci := 3) (C := RX0) (T := TX0) (N := 11) (v := .ref a7) (ws1 := [(h0, .inr (3, [.int 0, .int 0, .int 0, .int 0, .ref a1, .ref a2, .ref a3, .ref a4, .ref a5, .ref a6, .ref a7])), (a1, .inl (cA 0, 9, .inl (fun _ => 0))), (a2, .inl (cA 0, 5, .inl (fun _ => 0))), (a3, .inl (cA 0, 5, .inl (fun _ => 0))), (a4, .inl (cA 0, 5, .inl (fun _ => 0))), (a5, .inl (cA 0, 512, .inl (fun _ => 0))), (a6, .inl (cA 0, 512, .inl (fun _ => 0))), (a7, .inl (cA 1, 512, .inr (.inl (fun _ => 0))))]) hx hb hG inX0 tyX0 tyX0_ok nmX0 hown hK hP hD hS 0 rfl rfl 10 (by decide) gw300 rfl hnm rfl ⟨rfl, rfl⟩ rfl (Nat.le_of_ble_eq_true rfl) dX0_init_57 (fun H locs hP hD hS => ?_)
  exact e_v (fun i => match i with | 0 => a1 | 1 => a2 | 2 => a3 | 3 => a4 | 4 => a5 | 5 => a6 | 6 => a7 | _ => 0) hx hb hr hlocks rfl hP hD hS (Nat.le_of_ble_eq_true rfl) (Nat.le_of_ble_eq_true rfl) dX0_init_60
set_option maxHeartbeats 4000000 in
set_option maxRecDepth 100000 in
theorem c5_X4_init (l : Launch) (hfl : l.stackTraces = false) (D : va_G) (cA : Nat → ClassId) (g : gv_T) (h0 : Nat) : CT l yX4_init cX4_init 1 none (RM 1 5 1087 24) D cA g [.ref h0] [(h0, .inr (7, [.int 0, .int 0, .int 0, .int 0, .null, .null, .null, .null, .null]))] (fun q => none) (fun q => [(h0, .inr (7, [.int 2, .int 0, .int 0, .int 0, .ref (q 0), .ref (q 1), .ref (q 2), .ref (q 3), .ref (q 4)])), ((q 0), .inl (cA 0, 45, .inl (fun _ => 0))), ((q 1), .inl (cA 0, 9, .inl (fun _ => 0))), ((q 2), .inl (cA 0, 512, .inl (fun _ => 0))), ((q 3), .inl (cA 3, 512, .inl (fun _ => 0))), ((q 4), .inl (cA 0, 9, .inl (fun _ => 0)))]) := by
  refine CT.of (by decide +kernel) (Nat.le_of_ble_eq_true rfl) ?_
  intro p e s m args below meth c A ls hx hb hr hml hown hG hlocks hnm hA hS hP hK hD hGV hl
  have hown : s.vm.findClass RX4 = some m.cls := hown
  have hl : lv_has ls 1 [(0, .ref h0)] := hl
  have hSF : CF p m c cX4_init 1 s args RX4 := ⟨hx, hb, hml, hown, hG⟩
  refine lv_aload_n hx hb dX4_init_0 rfl (lv_at hl 0 rfl) ?_
  refine W.objInit hx hb hown (hG _ gw329) (hG _ gw118) (hG _ gw119) rfl (hl.1.trans hml.symm) rfl dX4_init_1 (Nat.le_of_ble_eq_true rfl) (Nat.le_of_ble_eq_true rfl) ?_
  refine W.eq (g2 := F0 m 4 ls []) rfl ?_
  refine lv_aload_n hx hb dX4_init_4 rfl (lv_at hl 0 rfl) ?_
  refine lv_iconst (v := 2) hx hb dX4_init_5 (by decide) ?_
  refine k_put (ci := 7) (C := RX4) (T := TX4) (N := 9) (v := .int 2) (ws1 := [(h0, .inr (7, [.int 2, .int 0, .int 0, .int 0, .null, .null, .null, .null, .null]))]) hx hb hG inX4 tyX4 tyX4_ok nmX4 hown hK hP hD hS 0 rfl rfl 0 (by decide) gw330 rfl ⟨rfl, rfl⟩ rfl (Nat.le_of_ble_eq_true rfl) dX4_init_6 (fun H locs hP hD hS => ?_)
  refine lv_aload_n hx hb dX4_init_9 rfl (lv_at hl 0 rfl) ?_
  refine lv_bipush (v := 45) hx hb dX4_init_10 (by decide) ?_
  refine k_newa_int hx hb hG gw178 hK hP hD hS hA 45 (by decide) (by decide) (Nat.le_of_ble_eq_true rfl) (Nat.le_of_ble_eq_true rfl) (Nat.le_of_ble_eq_true rfl) dX4_init_12 (fun a1 H hP hD hS => ?_)
  have hP : va_P D vwCl [(h0, .inr (7, [.int 2, .int 0, .int 0, .int 0, .null, .null, .null, .null, .null])), (a1, .inl (cA 0, 45, .inl (fun _ => 0)))] H := hP
  have hD : va_D _ [(h0, .inr (7, [.int 2, .int 0, .int 0, .int 0, .null, .null, .null, .null, .null])), (a1, .inl (cA 0, 45, .inl (fun _ => 0)))] := hD
  refine k_putF (ci := 7) (C := RX4) (T := TX4) (N := 9) (v := .ref a1) (ws1 := [(h0, .inr (7, [.int 2, .int 0, .int 0, .int 0, .ref a1, .null, .null, .null, .null])), (a1, .inl (cA 0, 45, .inl (fun _ => 0)))]) hx hb hG inX4 tyX4 tyX4_ok nmX4 hown hK hP hD hS 0 rfl rfl 4 (by decide) gw336 rfl hnm rfl ⟨rfl, rfl⟩ rfl (Nat.le_of_ble_eq_true rfl) dX4_init_14 (fun H locs hP hD hS => ?_)
  refine lv_aload_n hx hb dX4_init_17 rfl (lv_at hl 0 rfl) ?_
  refine lv_bipush (v := 9) hx hb dX4_init_18 (by decide) ?_
  refine k_newa_int hx hb hG gw178 hK hP hD hS hA 9 (by decide) (by decide) (Nat.le_of_ble_eq_true rfl) (Nat.le_of_ble_eq_true rfl) (Nat.le_of_ble_eq_true rfl) dX4_init_20 (fun a2 H hP hD hS => ?_)
  have hP : va_P D vwCl [(h0, .inr (7, [.int 2, .int 0, .int 0, .int 0, .ref a1, .null, .null, .null, .null])), (a1, .inl (cA 0, 45, .inl (fun _ => 0))), (a2, .inl (cA 0, 9, .inl (fun _ => 0)))] H := hP
  have hD : va_D _ [(h0, .inr (7, [.int 2, .int 0, .int 0, .int 0, .ref a1, .null, .null, .null, .null])), (a1, .inl (cA 0, 45, .inl (fun _ => 0))), (a2, .inl (cA 0, 9, .inl (fun _ => 0)))] := hD
  refine k_putF (ci := 7) (C := RX4) (T := TX4) (N := 9) (v := .ref a2) (ws1 := [(h0, .inr (7, [.int 2, .int 0, .int 0, .int 0, .ref a1, .ref a2, .null, .null, .null])), (a1, .inl (cA 0, 45, .inl (fun _ => 0))), (a2, .inl (cA 0, 9, .inl (fun _ => 0)))]) hx hb hG inX4 tyX4 tyX4_ok nmX4 hown hK hP hD hS 0 rfl rfl 5 (by decide) gw337 rfl hnm rfl ⟨rfl, rfl⟩ rfl (Nat.le_of_ble_eq_true rfl) dX4_init_22 (fun H locs hP hD hS => ?_)
  refine lv_aload_n hx hb dX4_init_25 rfl (lv_at hl 0 rfl) ?_
  refine lv_sipush (v := 512) hx hb dX4_init_26 (by decide) ?_
  refine k_newa_int hx hb hG gw178 hK hP hD hS hA 512 (by decide) (by decide) (Nat.le_of_ble_eq_true rfl) (Nat.le_of_ble_eq_true rfl) (Nat.le_of_ble_eq_true rfl) dX4_init_29 (fun a3 H hP hD hS => ?_)
  have hP : va_P D vwCl [(h0, .inr (7, [.int 2, .int 0, .int 0, .int 0, .ref a1, .ref a2, .null, .null, .null])), (a1, .inl (cA 0, 45, .inl (fun _ => 0))), (a2, .inl (cA 0, 9, .inl (fun _ => 0))), (a3, .inl (cA 0, 512, .inl (fun _ => 0)))] H := hP
  have hD : va_D _ [(h0, .inr (7, [.int 2, .int 0, .int 0, .int 0, .ref a1, .ref a2, .null, .null, .null])), (a1, .inl (cA 0, 45, .inl (fun _ => 0))), (a2, .inl (cA 0, 9, .inl (fun _ => 0))), (a3, .inl (cA 0, 512, .inl (fun _ => 0)))] := hD
  refine k_putF (ci := 7) (C := RX4) (T := TX4) (N := 9) (v := .ref a3) (ws1 := [(h0, .inr (7, [.int 2, .int 0, .int 0, .int 0, .ref a1, .ref a2, .ref a3, .null, .null])), (a1, .inl (cA 0, 45, .inl (fun _ => 0))), (a2, .inl (cA 0, 9, .inl (fun _ => 0))), (a3, .inl (cA 0, 512, .inl (fun _ => 0)))]) hx hb hG inX4 tyX4 tyX4_ok nmX4 hown hK hP hD hS 0 rfl rfl 6 (by decide) gw338 rfl hnm rfl ⟨rfl, rfl⟩ rfl (Nat.le_of_ble_eq_true rfl) dX4_init_31 (fun H locs hP hD hS => ?_)
  refine lv_aload_n hx hb dX4_init_34 rfl (lv_at hl 0 rfl) ?_
  refine lv_sipush (v := 512) hx hb dX4_init_35 (by decide) ?_
  refine k_newa_boolean hx hb hG gw362 hK hP hD hS hA 512 (by decide) (by decide) (Nat.le_of_ble_eq_true rfl) (Nat.le_of_ble_eq_true rfl) (Nat.le_of_ble_eq_true rfl) dX4_init_38 (fun a4 H hP hD hS => ?_)
  have hP : va_P D vwCl [(h0, .inr (7, [.int 2, .int 0, .int 0, .int 0, .ref a1, .ref a2, .ref a3, .null, .null])), (a1, .inl (cA 0, 45, .inl (fun _ => 0))), (a2, .inl (cA 0, 9, .inl (fun _ => 0))), (a3, .inl (cA 0, 512, .inl (fun _ => 0))), (a4, .inl (cA 3, 512, .inl (fun _ => 0)))] H := hP
  have hD : va_D _ [(h0, .inr (7, [.int 2, .int 0, .int 0, .int 0, .ref a1, .ref a2, .ref a3, .null, .null])), (a1, .inl (cA 0, 45, .inl (fun _ => 0))), (a2, .inl (cA 0, 9, .inl (fun _ => 0))), (a3, .inl (cA 0, 512, .inl (fun _ => 0))), (a4, .inl (cA 3, 512, .inl (fun _ => 0)))] := hD
  refine k_putF (ci := 7) (C := RX4) (T := TX4) (N := 9) (v := .ref a4) (ws1 := [(h0, .inr (7, [.int 2, .int 0, .int 0, .int 0, .ref a1, .ref a2, .ref a3, .ref a4, .null])), (a1, .inl (cA 0, 45, .inl (fun _ => 0))), (a2, .inl (cA 0, 9, .inl (fun _ => 0))), (a3, .inl (cA 0, 512, .inl (fun _ => 0))), (a4, .inl (cA 3, 512, .inl (fun _ => 0)))]) hx hb hG inX4 tyX4 tyX4_ok nmX4 hown hK hP hD hS 0 rfl rfl 7 (by decide) gw339 rfl hnm rfl ⟨rfl, rfl⟩ rfl (Nat.le_of_ble_eq_true rfl) dX4_init_40 (fun H locs hP hD hS => ?_)
  refine lv_aload_n hx hb dX4_init_43 rfl (lv_at hl 0 rfl) ?_
  refine lv_bipush (v := 9) hx hb dX4_init_44 (by decide) ?_
  refine k_newa_int hx hb hG gw178 hK hP hD hS hA 9 (by decide) (by decide) (Nat.le_of_ble_eq_true rfl) (Nat.le_of_ble_eq_true rfl) (Nat.le_of_ble_eq_true rfl) dX4_init_46 (fun a5 H hP hD hS => ?_)
  have hP : va_P D vwCl [(h0, .inr (7, [.int 2, .int 0, .int 0, .int 0, .ref a1, .ref a2, .ref a3, .ref a4, .null])), (a1, .inl (cA 0, 45, .inl (fun _ => 0))), (a2, .inl (cA 0, 9, .inl (fun _ => 0))), (a3, .inl (cA 0, 512, .inl (fun _ => 0))), (a4, .inl (cA 3, 512, .inl (fun _ => 0))), (a5, .inl (cA 0, 9, .inl (fun _ => 0)))] H := hP
  have hD : va_D _ [(h0, .inr (7, [.int 2, .int 0, .int 0, .int 0, .ref a1, .ref a2, .ref a3, .ref a4, .null])), (a1, .inl (cA 0, 45, .inl (fun _ => 0))), (a2, .inl (cA 0, 9, .inl (fun _ => 0))), (a3, .inl (cA 0, 512, .inl (fun _ => 0))), (a4, .inl (cA 3, 512, .inl (fun _ => 0))), (a5, .inl (cA 0, 9, .inl (fun _ => 0)))] := hD
  refine k_putF (ci := 7) (C := RX4) (T := TX4) (N := 9) (v := .ref a5) (ws1 := [(h0, .inr (7, [.int 2, .int 0, .int 0, .int 0, .ref a1, .ref a2, .ref a3, .ref a4, .ref a5])), (a1, .inl (cA 0, 45, .inl (fun _ => 0))), (a2, .inl (cA 0, 9, .inl (fun _ => 0))), (a3, .inl (cA 0, 512, .inl (fun _ => 0))), (a4, .inl (cA 3, 512, .inl (fun _ => 0))), (a5, .inl (cA 0, 9, .inl (fun _ => 0)))]) hx hb hG inX4 tyX4 tyX4_ok nmX4 hown hK hP hD hS 0 rfl rfl 8 (by decide) gw341 rfl hnm rfl ⟨rfl, rfl⟩ rfl (Nat.le_of_ble_eq_true rfl) dX4_init_48 (fun H locs hP hD hS => ?_)
  exact e_v (fun i => match i with | 0 => a1 | 1 => a2 | 2 => a3 | 3 => a4 | 4 => a5 | _ => 0) hx hb hr hlocks rfl hP hD hS (Nat.le_of_ble_eq_true rfl) (Nat.le_of_ble_eq_true rfl) dX4_init_51
set_option maxHeartbeats 4000000 in
set_option maxRecDepth 100000 in
theorem c6_X6_init (l : Launch) (hfl : l.stackTraces = false) (D : va_G) (cA : Nat → ClassId) (g : gv_T) (h0 : Nat) : CT l yX6_init cX6_init 1 none (RM 3 51 4603 64) D cA g [.ref h0] [(h0, .inr (9, [.null, .null, .null, .null, .null]))] (fun q => none) (fun q => [(h0, .inr (9, [.ref (q 0), .ref (q 11), .ref (q 31), .ref (q 37), .ref (q 45)])), ((q 0), .inr (5, [.int 0, .int 0, .ref (q 1), .ref (q 2), .ref (q 3), .ref (q 4), .ref (q 5), .ref (q 6), .ref (q 7), .ref (q 8), .ref (q 9), .ref (q 10)])), ((q 1), .inl (cA 0, 16, .inl (fun _ => 0))), ((q 2), .inl (cA 0, 16, .inl (fun _ => 0))), ((q 3), .inl (cA 0, 8, .inl (fun _ => 0))), ((q 4), .inl (cA 2, 8, .inl (fun _ => 0))), ((q 5), .inl (cA 0, 9, .inl (fun _ => 0))), ((q 6), .inl (cA 0, 9, .inl (fun _ => 0))), ((q 7), .inl (cA 0, 9, .inl (fun _ => 0))), ((q 8), .inl (cA 0, 9, .inl (fun _ => 0))), ((q 9), .inl (cA 0, 9, .inl (fun _ => 0))), ((q 10), .inl (cA 0, 9, .inl (fun _ => 0))), ((q 11), .inr (4, [.int 0, .int 0, .long 0, .ref (q 12), .ref (q 13), .ref (q 14), .ref (q 15), .ref (q 16), .ref (q 17), .ref (q 18), .ref (q 19), .ref (q 20), .ref (q 21), .ref (q 23), .ref (q 25), .ref (q 27), .ref (q 29)])), ((q 12), .inl (cA 1, 25, .inr (.inl (fun _ => 0)))), ((q 13), .inl (cA 1, 25, .inr (.inl (fun _ => 0)))), ((q 14), .inl (cA 1, 9, .inr (.inl (fun _ => 0)))), ((q 15), .inl (cA 0, 81, .inl (fun _ => 0))), ((q 16), .inl (cA 0, 9, .inl (fun _ => 0))), ((q 17), .inl (cA 0, 9, .inl (fun _ => 0))), ((q 18), .inl (cA 1, 512, .inr (.inl (fun _ => 0)))), ((q 19), .inl (cA 1, 512, .inr (.inl (fun _ => 0)))), ((q 20), .inl (cA 1, 512, .inr (.inl (fun _ => 0)))), ((q 21), .inr (8, [.ref (q 22)])), ((q 22), .inl (cA 1, 8, .inr (.inl (fun _ => 0)))), ((q 23), .inr (8, [.ref (q 24)])), ((q 24), .inl (cA 1, 8, .inr (.inl (fun _ => 0)))), ((q 25), .inr (8, [.ref (q 26)])), ((q 26), .inl (cA 1, 8, .inr (.inl (fun _ => 0)))), ((q 27), .inr (8, [.ref (q 28)])), ((q 28), .inl (cA 1, 8, .inr (.inl (fun _ => 0)))), ((q 29), .inr (8, [.ref (q 30)])), ((q 30), .inl (cA 1, 8, .inr (.inl (fun _ => 0)))), ((q 31), .inr (6, [.int 0, .ref (q 32), .ref (q 33), .ref (q 34), .ref (q 35), .ref (q 36)])), ((q 32), .inl (cA 0, 12, .inl (fun _ => 0))), ((q 33), .inl (cA 0, 12, .inl (fun _ => 0))), ((q 34), .inl (cA 0, 12, .inl (fun _ => 0))), ((q 35), .inl (cA 0, 12, .inl (fun _ => 0))), ((q 36), .inl (cA 0, 12, .inl (fun _ => 0))), ((q 37), .inr (3, [.int 0, .int 0, .int 0, .int 0, .ref (q 38), .ref (q 39), .ref (q 40), .ref (q 41), .ref (q 42), .ref (q 43), .ref (q 44)])), ((q 38), .inl (cA 0, 9, .inl (fun _ => 0))), ((q 39), .inl (cA 0, 5, .inl (fun _ => 0))), ((q 40), .inl (cA 0, 5, .inl (fun _ => 0))), ((q 41), .inl (cA 0, 5, .inl (fun _ => 0))), ((q 42), .inl (cA 0, 512, .inl (fun _ => 0))), ((q 43), .inl (cA 0, 512, .inl (fun _ => 0))), ((q 44), .inl (cA 1, 512, .inr (.inl (fun _ => 0)))), ((q 45), .inr (7, [.int 2, .int 0, .int 0, .int 0, .ref (q 46), .ref (q 47), .ref (q 48), .ref (q 49), .ref (q 50)])), ((q 46), .inl (cA 0, 45, .inl (fun _ => 0))), ((q 47), .inl (cA 0, 9, .inl (fun _ => 0))), ((q 48), .inl (cA 0, 512, .inl (fun _ => 0))), ((q 49), .inl (cA 3, 512, .inl (fun _ => 0))), ((q 50), .inl (cA 0, 9, .inl (fun _ => 0)))]) := by
  refine CT.of (by decide +kernel) (Nat.le_of_ble_eq_true rfl) ?_
  intro p e s m args below meth c A ls hx hb hr hml hown hG hlocks hnm hA hS hP hK hD hGV hl
  have hown : s.vm.findClass RX6 = some m.cls := hown
  have hl : lv_has ls 1 [(0, .ref h0)] := hl
  have hSF : CF p m c cX6_init 1 s args RX6 := ⟨hx, hb, hml, hown, hG⟩
  refine lv_aload_n hx hb dX6_init_0 rfl (lv_at hl 0 rfl) ?_
  refine W.objInit hx hb hown (hG _ gw117) (hG _ gw118) (hG _ gw119) rfl (hl.1.trans hml.symm) rfl dX6_init_1 (Nat.le_of_ble_eq_true rfl) (Nat.le_of_ble_eq_true rfl) ?_
  refine W.eq (g2 := F0 m 4 ls []) rfl ?_
  refine lv_aload_n hx hb dX6_init_4 rfl (lv_at hl 0 rfl) ?_
  refine k_new (ci := 5) (C := RX2) (T := TX2) (N := 12) hx hb hG inX2 tyX2 tyX2_ok hown gw120 gw121 gw76 hK hP hD hS hA rfl [.int 0, .int 0, .null, .null, .null, .null, .null, .null, .null, .null, .null, .null] rfl (Nat.le_of_ble_eq_true rfl) (Nat.le_of_ble_eq_true rfl) dX6_init_5 (fun a1 H hP hD hS => ?_)
  have hP : va_P D vwCl [(h0, .inr (9, [.null, .null, .null, .null, .null])), (a1, .inr (5, [.int 0, .int 0, .null, .null, .null, .null, .null, .null, .null, .null, .null, .null]))] H := hP
  have hD : va_D _ [(h0, .inr (9, [.null, .null, .null, .null, .null])), (a1, .inr (5, [.int 0, .int 0, .null, .null, .null, .null, .null, .null, .null, .null, .null, .null]))] := hD
  refine lv_dup hx hb dX6_init_8 rfl ?_
  refine ct_IN (wr := [(h0, .inr (9, [.null, .null, .null, .null, .null]))]) hSF hl.1 hP hD hS hA hK hGV (c0_X2_init l hfl D cA g a1) gw122 gw123 gw76 gw124 rfl pd_X2_init.2 ⟨(Nat.le_of_ble_eq_true rfl), (Nat.le_of_ble_eq_true rfl)⟩ ⟨(Nat.le_of_ble_eq_true rfl), (Nat.le_of_ble_eq_true rfl)⟩ dX6_init_9 rfl (Nat.le_of_ble_eq_true rfl) [1] [0] rfl (by decide) rfl (by decide) (by decide) (fun q => [(h0, .inr (9, [.null, .null, .null, .null, .null])), (a1, .inr (5, [.int 0, .int 0, .ref (q 0), .ref (q 1), .ref (q 2), .ref (q 3), .ref (q 4), .ref (q 5), .ref (q 6), .ref (q 7), .ref (q 8), .ref (q 9)])), ((q 0), .inl (cA 0, 16, .inl (fun _ => 0))), ((q 1), .inl (cA 0, 16, .inl (fun _ => 0))), ((q 2), .inl (cA 0, 8, .inl (fun _ => 0))), ((q 3), .inl (cA 2, 8, .inl (fun _ => 0))), ((q 4), .inl (cA 0, 9, .inl (fun _ => 0))), ((q 5), .inl (cA 0, 9, .inl (fun _ => 0))), ((q 6), .inl (cA 0, 9, .inl (fun _ => 0))), ((q 7), .inl (cA 0, 9, .inl (fun _ => 0))), ((q 8), .inl (cA 0, 9, .inl (fun _ => 0))), ((q 9), .inl (cA 0, 9, .inl (fun _ => 0)))]) (fun _ => rfl) (fun q1 H locs hP hD hS => ?_)
  refine W.eq (g2 := F0 m 12 ls [.ref a1, .ref h0]) rfl ?_
  refine k_putF (ci := 9) (C := RX6) (T := TX6) (N := 5) (v := .ref a1) (ws1 := [(h0, .inr (9, [.ref a1, .null, .null, .null, .null])), (a1, .inr (5, [.int 0, .int 0, .ref (q1 0), .ref (q1 1), .ref (q1 2), .ref (q1 3), .ref (q1 4), .ref (q1 5), .ref (q1 6), .ref (q1 7), .ref (q1 8), .ref (q1 9)])), ((q1 0), .inl (cA 0, 16, .inl (fun _ => 0))), ((q1 1), .inl (cA 0, 16, .inl (fun _ => 0))), ((q1 2), .inl (cA 0, 8, .inl (fun _ => 0))), ((q1 3), .inl (cA 2, 8, .inl (fun _ => 0))), ((q1 4), .inl (cA 0, 9, .inl (fun _ => 0))), ((q1 5), .inl (cA 0, 9, .inl (fun _ => 0))), ((q1 6), .inl (cA 0, 9, .inl (fun _ => 0))), ((q1 7), .inl (cA 0, 9, .inl (fun _ => 0))), ((q1 8), .inl (cA 0, 9, .inl (fun _ => 0))), ((q1 9), .inl (cA 0, 9, .inl (fun _ => 0)))]) hx hb hG inX6 tyX6 tyX6_ok nmX6 hown hK hP hD hS 0 rfl rfl 0 (by decide) gw363 rfl hnm rfl ⟨rfl, rfl⟩ rfl (Nat.le_of_ble_eq_true rfl) dX6_init_12 (fun H locs hP hD hS => ?_)
  refine lv_aload_n hx hb dX6_init_15 rfl (lv_at hl 0 rfl) ?_
  refine k_new (ci := 4) (C := RX1) (T := TX1) (N := 17) hx hb hG inX1 tyX1 tyX1_ok hown gw180 gw181 gw77 hK hP hD hS hA rfl [.int 0, .int 0, .long 0, .null, .null, .null, .null, .null, .null, .null, .null, .null, .null, .null, .null, .null, .null] rfl (Nat.le_of_ble_eq_true rfl) (Nat.le_of_ble_eq_true rfl) dX6_init_16 (fun a12 H hP hD hS => ?_)
  have hP : va_P D vwCl [(h0, .inr (9, [.ref a1, .null, .null, .null, .null])), (a1, .inr (5, [.int 0, .int 0, .ref (q1 0), .ref (q1 1), .ref (q1 2), .ref (q1 3), .ref (q1 4), .ref (q1 5), .ref (q1 6), .ref (q1 7), .ref (q1 8), .ref (q1 9)])), ((q1 0), .inl (cA 0, 16, .inl (fun _ => 0))), ((q1 1), .inl (cA 0, 16, .inl (fun _ => 0))), ((q1 2), .inl (cA 0, 8, .inl (fun _ => 0))), ((q1 3), .inl (cA 2, 8, .inl (fun _ => 0))), ((q1 4), .inl (cA 0, 9, .inl (fun _ => 0))), ((q1 5), .inl (cA 0, 9, .inl (fun _ => 0))), ((q1 6), .inl (cA 0, 9, .inl (fun _ => 0))), ((q1 7), .inl (cA 0, 9, .inl (fun _ => 0))), ((q1 8), .inl (cA 0, 9, .inl (fun _ => 0))), ((q1 9), .inl (cA 0, 9, .inl (fun _ => 0))), (a12, .inr (4, [.int 0, .int 0, .long 0, .null, .null, .null, .null, .null, .null, .null, .null, .null, .null, .null, .null, .null, .null]))] H := hP
  have hD : va_D _ [(h0, .inr (9, [.ref a1, .null, .null, .null, .null])), (a1, .inr (5, [.int 0, .int 0, .ref (q1 0), .ref (q1 1), .ref (q1 2), .ref (q1 3), .ref (q1 4), .ref (q1 5), .ref (q1 6), .ref (q1 7), .ref (q1 8), .ref (q1 9)])), ((q1 0), .inl (cA 0, 16, .inl (fun _ => 0))), ((q1 1), .inl (cA 0, 16, .inl (fun _ => 0))), ((q1 2), .inl (cA 0, 8, .inl (fun _ => 0))), ((q1 3), .inl (cA 2, 8, .inl (fun _ => 0))), ((q1 4), .inl (cA 0, 9, .inl (fun _ => 0))), ((q1 5), .inl (cA 0, 9, .inl (fun _ => 0))), ((q1 6), .inl (cA 0, 9, .inl (fun _ => 0))), ((q1 7), .inl (cA 0, 9, .inl (fun _ => 0))), ((q1 8), .inl (cA 0, 9, .inl (fun _ => 0))), ((q1 9), .inl (cA 0, 9, .inl (fun _ => 0))), (a12, .inr (4, [.int 0, .int 0, .long 0, .null, .null, .null, .null, .null, .null, .null, .null, .null, .null, .null, .null, .null, .null]))] := hD
  refine lv_dup hx hb dX6_init_19 rfl ?_
  refine ct_IN (wr := [(h0, .inr (9, [.ref a1, .null, .null, .null, .null])), (a1, .inr (5, [.int 0, .int 0, .ref (q1 0), .ref (q1 1), .ref (q1 2), .ref (q1 3), .ref (q1 4), .ref (q1 5), .ref (q1 6), .ref (q1 7), .ref (q1 8), .ref (q1 9)])), ((q1 0), .inl (cA 0, 16, .inl (fun _ => 0))), ((q1 1), .inl (cA 0, 16, .inl (fun _ => 0))), ((q1 2), .inl (cA 0, 8, .inl (fun _ => 0))), ((q1 3), .inl (cA 2, 8, .inl (fun _ => 0))), ((q1 4), .inl (cA 0, 9, .inl (fun _ => 0))), ((q1 5), .inl (cA 0, 9, .inl (fun _ => 0))), ((q1 6), .inl (cA 0, 9, .inl (fun _ => 0))), ((q1 7), .inl (cA 0, 9, .inl (fun _ => 0))), ((q1 8), .inl (cA 0, 9, .inl (fun _ => 0))), ((q1 9), .inl (cA 0, 9, .inl (fun _ => 0)))]) hSF hl.1 hP hD hS hA hK hGV (c2_X1_init l hfl D cA g a12) gw182 gw183 gw77 gw184 rfl pd_X1_init.2 ⟨(Nat.le_of_ble_eq_true rfl), (Nat.le_of_ble_eq_true rfl)⟩ ⟨(Nat.le_of_ble_eq_true rfl), (Nat.le_of_ble_eq_true rfl)⟩ dX6_init_20 rfl (Nat.le_of_ble_eq_true rfl) [12] [0, 1, 2, 3, 4, 5, 6, 7, 8, 9, 10, 11] rfl (by decide) rfl (by decide) (by decide) (fun q => [(h0, .inr (9, [.ref a1, .null, .null, .null, .null])), (a1, .inr (5, [.int 0, .int 0, .ref (q1 0), .ref (q1 1), .ref (q1 2), .ref (q1 3), .ref (q1 4), .ref (q1 5), .ref (q1 6), .ref (q1 7), .ref (q1 8), .ref (q1 9)])), ((q1 0), .inl (cA 0, 16, .inl (fun _ => 0))), ((q1 1), .inl (cA 0, 16, .inl (fun _ => 0))), ((q1 2), .inl (cA 0, 8, .inl (fun _ => 0))), ((q1 3), .inl (cA 2, 8, .inl (fun _ => 0))), ((q1 4), .inl (cA 0, 9, .inl (fun _ => 0))), ((q1 5), .inl (cA 0, 9, .inl (fun _ => 0))), ((q1 6), .inl (cA 0, 9, .inl (fun _ => 0))), ((q1 7), .inl (cA 0, 9, .inl (fun _ => 0))), ((q1 8), .inl (cA 0, 9, .inl (fun _ => 0))), ((q1 9), .inl (cA 0, 9, .inl (fun _ => 0))), (a12, .inr (4, [.int 0, .int 0, .long 0, .ref (q 0), .ref (q 1), .ref (q 2), .ref (q 3), .ref (q 4), .ref (q 5), .ref (q 6), .ref (q 7), .ref (q 8), .ref (q 9), .ref (q 11), .ref (q 13), .ref (q 15), .ref (q 17)])), ((q 0), .inl (cA 1, 25, .inr (.inl (fun _ => 0)))), ((q 1), .inl (cA 1, 25, .inr (.inl (fun _ => 0)))), ((q 2), .inl (cA 1, 9, .inr (.inl (fun _ => 0)))), ((q 3), .inl (cA 0, 81, .inl (fun _ => 0))), ((q 4), .inl (cA 0, 9, .inl (fun _ => 0))), ((q 5), .inl (cA 0, 9, .inl (fun _ => 0))), ((q 6), .inl (cA 1, 512, .inr (.inl (fun _ => 0)))), ((q 7), .inl (cA 1, 512, .inr (.inl (fun _ => 0)))), ((q 8), .inl (cA 1, 512, .inr (.inl (fun _ => 0)))), ((q 9), .inr (8, [.ref (q 10)])), ((q 10), .inl (cA 1, 8, .inr (.inl (fun _ => 0)))), ((q 11), .inr (8, [.ref (q 12)])), ((q 12), .inl (cA 1, 8, .inr (.inl (fun _ => 0)))), ((q 13), .inr (8, [.ref (q 14)])), ((q 14), .inl (cA 1, 8, .inr (.inl (fun _ => 0)))), ((q 15), .inr (8, [.ref (q 16)])), ((q 16), .inl (cA 1, 8, .inr (.inl (fun _ => 0)))), ((q 17), .inr (8, [.ref (q 18)])), ((q 18), .inl (cA 1, 8, .inr (.inl (fun _ => 0))))]) (fun _ => rfl) (fun q2 H locs hP hD hS => ?_)
  refine W.eq (g2 := F0 m 23 ls [.ref a12, .ref h0]) rfl ?_
  refine k_putF (ci := 9) (C := RX6) (T := TX6) (N := 5) (v := .ref a12) (ws1 := [(h0, .inr (9, [.ref a1, .ref a12, .null, .null, .null])), (a1, .inr (5, [.int 0, .int 0, .ref (q1 0), .ref (q1 1), .ref (q1 2), .ref (q1 3), .ref (q1 4), .ref (q1 5), .ref (q1 6), .ref (q1 7), .ref (q1 8), .ref (q1 9)])), ((q1 0), .inl (cA 0, 16, .inl (fun _ => 0))), ((q1 1), .inl (cA 0, 16, .inl (fun _ => 0))), ((q1 2), .inl (cA 0, 8, .inl (fun _ => 0))), ((q1 3), .inl (cA 2, 8, .inl (fun _ => 0))), ((q1 4), .inl (cA 0, 9, .inl (fun _ => 0))), ((q1 5), .inl (cA 0, 9, .inl (fun _ => 0))), ((q1 6), .inl (cA 0, 9, .inl (fun _ => 0))), ((q1 7), .inl (cA 0, 9, .inl (fun _ => 0))), ((q1 8), .inl (cA 0, 9, .inl (fun _ => 0))), ((q1 9), .inl (cA 0, 9, .inl (fun _ => 0))), (a12, .inr (4, [.int 0, .int 0, .long 0, .ref (q2 0), .ref (q2 1), .ref (q2 2), .ref (q2 3), .ref (q2 4), .ref (q2 5), .ref (q2 6), .ref (q2 7), .ref (q2 8), .ref (q2 9), .ref (q2 11), .ref (q2 13), .ref (q2 15), .ref (q2 17)])), ((q2 0), .inl (cA 1, 25, .inr (.inl (fun _ => 0)))), ((q2 1), .inl (cA 1, 25, .inr (.inl (fun _ => 0)))), ((q2 2), .inl (cA 1, 9, .inr (.inl (fun _ => 0)))), ((q2 3), .inl (cA 0, 81, .inl (fun _ => 0))), ((q2 4), .inl (cA 0, 9, .inl (fun _ => 0))), ((q2 5), .inl (cA 0, 9, .inl (fun _ => 0))), ((q2 6), .inl (cA 1, 512, .inr (.inl (fun _ => 0)))), ((q2 7), .inl (cA 1, 512, .inr (.inl (fun _ => 0)))), ((q2 8), .inl (cA 1, 512, .inr (.inl (fun _ => 0)))), ((q2 9), .inr (8, [.ref (q2 10)])), ((q2 10), .inl (cA 1, 8, .inr (.inl (fun _ => 0)))), ((q2 11), .inr (8, [.ref (q2 12)])), ((q2 12), .inl (cA 1, 8, .inr (.inl (fun _ => 0)))), ((q2 13), .inr (8, [.ref (q2 14)])), ((q2 14), .inl (cA 1, 8, .inr (.inl (fun _ => 0)))), ((q2 15), .inr (8, [.ref (q2 16)])), ((q2 16), .inl (cA 1, 8, .inr (.inl (fun _ => 0)))), ((q2 17), .inr (8, [.ref (q2 18)])), ((q2 18), .inl (cA 1, 8, .inr (.inl (fun _ => 0))))]) hx hb hG inX6 tyX6 tyX6_ok nmX6 hown hK hP hD hS 0 rfl rfl 1 (by decide) gw364 rfl hnm rfl ⟨rfl, rfl⟩ rfl (Nat.le_of_ble_eq_true rfl) dX6_init_23 (fun H locs hP hD hS => ?_)
  refine lv_aload_n hx hb dX6_init_26 rfl (lv_at hl 0 rfl) ?_
  refine k_new (ci := 6) (C := RX3) (T := TX3) (N := 6) hx hb hG inX3 tyX3 tyX3_ok hown gw252 gw253 gw79 hK hP hD hS hA rfl [.int 0, .null, .null, .null, .null, .null] rfl (Nat.le_of_ble_eq_true rfl) (Nat.le_of_ble_eq_true rfl) dX6_init_27 (fun a32 H hP hD hS => ?_)
  have hP : va_P D vwCl [(h0, .inr (9, [.ref a1, .ref a12, .null, .null, .null])), (a1, .inr (5, [.int 0, .int 0, .ref (q1 0), .ref (q1 1), .ref (q1 2), .ref (q1 3), .ref (q1 4), .ref (q1 5), .ref (q1 6), .ref (q1 7), .ref (q1 8), .ref (q1 9)])), ((q1 0), .inl (cA 0, 16, .inl (fun _ => 0))), ((q1 1), .inl (cA 0, 16, .inl (fun _ => 0))), ((q1 2), .inl (cA 0, 8, .inl (fun _ => 0))), ((q1 3), .inl (cA 2, 8, .inl (fun _ => 0))), ((q1 4), .inl (cA 0, 9, .inl (fun _ => 0))), ((q1 5), .inl (cA 0, 9, .inl (fun _ => 0))), ((q1 6), .inl (cA 0, 9, .inl (fun _ => 0))), ((q1 7), .inl (cA 0, 9, .inl (fun _ => 0))), ((q1 8), .inl (cA 0, 9, .inl (fun _ => 0))), ((q1 9), .inl (cA 0, 9, .inl (fun _ => 0))), (a12, .inr (4, [.int 0, .int 0, .long 0, .ref (q2 0), .ref (q2 1), .ref (q2 2), .ref (q2 3), .ref (q2 4), .ref (q2 5), .ref (q2 6), .ref (q2 7), .ref (q2 8), .ref (q2 9), .ref (q2 11), .ref (q2 13), .ref (q2 15), .ref (q2 17)])), ((q2 0), .inl (cA 1, 25, .inr (.inl (fun _ => 0)))), ((q2 1), .inl (cA 1, 25, .inr (.inl (fun _ => 0)))), ((q2 2), .inl (cA 1, 9, .inr (.inl (fun _ => 0)))), ((q2 3), .inl (cA 0, 81, .inl (fun _ => 0))), ((q2 4), .inl (cA 0, 9, .inl (fun _ => 0))), ((q2 5), .inl (cA 0, 9, .inl (fun _ => 0))), ((q2 6), .inl (cA 1, 512, .inr (.inl (fun _ => 0)))), ((q2 7), .inl (cA 1, 512, .inr (.inl (fun _ => 0)))), ((q2 8), .inl (cA 1, 512, .inr (.inl (fun _ => 0)))), ((q2 9), .inr (8, [.ref (q2 10)])), ((q2 10), .inl (cA 1, 8, .inr (.inl (fun _ => 0)))), ((q2 11), .inr (8, [.ref (q2 12)])), ((q2 12), .inl (cA 1, 8, .inr (.inl (fun _ => 0)))), ((q2 13), .inr (8, [.ref (q2 14)])), ((q2 14), .inl (cA 1, 8, .inr (.inl (fun _ => 0)))), ((q2 15), .inr (8, [.ref (q2 16)])), ((q2 16), .inl (cA 1, 8, .inr (.inl (fun _ => 0)))), ((q2 17), .inr (8, [.ref (q2 18)])), ((q2 18), .inl (cA 1, 8, .inr (.inl (fun _ => 0)))), (a32, .inr (6, [.int 0, .null, .null, .null, .null, .null]))] H := hP
  have hD : va_D _ [(h0, .inr (9, [.ref a1, .ref a12, .null, .null, .null])), (a1, .inr (5, [.int 0, .int 0, .ref (q1 0), .ref (q1 1), .ref (q1 2), .ref (q1 3), .ref (q1 4), .ref (q1 5), .ref (q1 6), .ref (q1 7), .ref (q1 8), .ref (q1 9)])), ((q1 0), .inl (cA 0, 16, .inl (fun _ => 0))), ((q1 1), .inl (cA 0, 16, .inl (fun _ => 0))), ((q1 2), .inl (cA 0, 8, .inl (fun _ => 0))), ((q1 3), .inl (cA 2, 8, .inl (fun _ => 0))), ((q1 4), .inl (cA 0, 9, .inl (fun _ => 0))), ((q1 5), .inl (cA 0, 9, .inl (fun _ => 0))), ((q1 6), .inl (cA 0, 9, .inl (fun _ => 0))), ((q1 7), .inl (cA 0, 9, .inl (fun _ => 0))), ((q1 8), .inl (cA 0, 9, .inl (fun _ => 0))), ((q1 9), .inl (cA 0, 9, .inl (fun _ => 0))), (a12, .inr (4, [.int 0, .int 0, .long 0, .ref (q2 0), .ref (q2 1), .ref (q2 2), .ref (q2 3), .ref (q2 4), .ref (q2 5), .ref (q2 6), .ref (q2 7), .ref (q2 8), .ref (q2 9), .ref (q2 11), .ref (q2 13), .ref (q2 15), .ref (q2 17)])), ((q2 0), .inl (cA 1, 25, .inr (.inl (fun _ => 0)))), ((q2 1), .inl (cA 1, 25, .inr (.inl (fun _ => 0)))), ((q2 2), .inl (cA 1, 9, .inr (.inl (fun _ => 0)))), ((q2 3), .inl (cA 0, 81, .inl (fun _ => 0))), ((q2 4), .inl (cA 0, 9, .inl (fun _ => 0))), ((q2 5), .inl (cA 0, 9, .inl (fun _ => 0))), ((q2 6), .inl (cA 1, 512, .inr (.inl (fun _ => 0)))), ((q2 7), .inl (cA 1, 512, .inr (.inl (fun _ => 0)))), ((q2 8), .inl (cA 1, 512, .inr (.inl (fun _ => 0)))), ((q2 9), .inr (8, [.ref (q2 10)])), ((q2 10), .inl (cA 1, 8, .inr (.inl (fun _ => 0)))), ((q2 11), .inr (8, [.ref (q2 12)])), ((q2 12), .inl (cA 1, 8, .inr (.inl (fun _ => 0)))), ((q2 13), .inr (8, [.ref (q2 14)])), ((q2 14), .inl (cA 1, 8, .inr (.inl (fun _ => 0)))), ((q2 15), .inr (8, [.ref (q2 16)])), ((q2 16), .inl (cA 1, 8, .inr (.inl (fun _ => 0)))), ((q2 17), .inr (8, [.ref (q2 18)])), ((q2 18), .inl (cA 1, 8, .inr (.inl (fun _ => 0)))), (a32, .inr (6, [.int 0, .null, .null, .null, .null, .null]))] := hD
  refine lv_dup hx hb dX6_init_30 rfl ?_
  refine ct_IN (wr := [(h0, .inr (9, [.ref a1, .ref a12, .null, .null, .null])), (a1, .inr (5, [.int 0, .int 0, .ref (q1 0), .ref (q1 1), .ref (q1 2), .ref (q1 3), .ref (q1 4), .ref (q1 5), .ref (q1 6), .ref (q1 7), .ref (q1 8), .ref (q1 9)])), ((q1 0), .inl (cA 0, 16, .inl (fun _ => 0))), ((q1 1), .inl (cA 0, 16, .inl (fun _ => 0))), ((q1 2), .inl (cA 0, 8, .inl (fun _ => 0))), ((q1 3), .inl (cA 2, 8, .inl (fun _ => 0))), ((q1 4), .inl (cA 0, 9, .inl (fun _ => 0))), ((q1 5), .inl (cA 0, 9, .inl (fun _ => 0))), ((q1 6), .inl (cA 0, 9, .inl (fun _ => 0))), ((q1 7), .inl (cA 0, 9, .inl (fun _ => 0))), ((q1 8), .inl (cA 0, 9, .inl (fun _ => 0))), ((q1 9), .inl (cA 0, 9, .inl (fun _ => 0))), (a12, .inr (4, [.int 0, .int 0, .long 0, .ref (q2 0), .ref (q2 1), .ref (q2 2), .ref (q2 3), .ref (q2 4), .ref (q2 5), .ref (q2 6), .ref (q2 7), .ref (q2 8), .ref (q2 9), .ref (q2 11), .ref (q2 13), .ref (q2 15), .ref (q2 17)])), ((q2 0), .inl (cA 1, 25, .inr (.inl (fun _ => 0)))), ((q2 1), .inl (cA 1, 25, .inr (.inl (fun _ => 0)))), ((q2 2), .inl (cA 1, 9, .inr (.inl (fun _ => 0)))), ((q2 3), .inl (cA 0, 81, .inl (fun _ => 0))), ((q2 4), .inl (cA 0, 9, .inl (fun _ => 0))), ((q2 5), .inl (cA 0, 9, .inl (fun _ => 0))), ((q2 6), .inl (cA 1, 512, .inr (.inl (fun _ => 0)))), ((q2 7), .inl (cA 1, 512, .inr (.inl (fun _ => 0)))), ((q2 8), .inl (cA 1, 512, .inr (.inl (fun _ => 0)))), ((q2 9), .inr (8, [.ref (q2 10)])), ((q2 10), .inl (cA 1, 8, .inr (.inl (fun _ => 0)))), ((q2 11), .inr (8, [.ref (q2 12)])), ((q2 12), .inl (cA 1, 8, .inr (.inl (fun _ => 0)))), ((q2 13), .inr (8, [.ref (q2 14)])), ((q2 14), .inl (cA 1, 8, .inr (.inl (fun _ => 0)))), ((q2 15), .inr (8, [.ref (q2 16)])), ((q2 16), .inl (cA 1, 8, .inr (.inl (fun _ => 0)))), ((q2 17), .inr (8, [.ref (q2 18)])), ((q2 18), .inl (cA 1, 8, .inr (.inl (fun _ => 0))))]) hSF hl.1 hP hD hS hA hK hGV (c3_X3_init l hfl D cA g a32) gw254 gw255 gw79 gw256 rfl pd_X3_init.2 ⟨(Nat.le_of_ble_eq_true rfl), (Nat.le_of_ble_eq_true rfl)⟩ ⟨(Nat.le_of_ble_eq_true rfl), (Nat.le_of_ble_eq_true rfl)⟩ dX6_init_31 rfl (Nat.le_of_ble_eq_true rfl) [32] [0, 1, 2, 3, 4, 5, 6, 7, 8, 9, 10, 11, 12, 13, 14, 15, 16, 17, 18, 19, 20, 21, 22, 23, 24, 25, 26, 27, 28, 29, 30, 31] rfl (by decide) rfl (by decide) (by decide) (fun q => [(h0, .inr (9, [.ref a1, .ref a12, .null, .null, .null])), (a1, .inr (5, [.int 0, .int 0, .ref (q1 0), .ref (q1 1), .ref (q1 2), .ref (q1 3), .ref (q1 4), .ref (q1 5), .ref (q1 6), .ref (q1 7), .ref (q1 8), .ref (q1 9)])), ((q1 0), .inl (cA 0, 16, .inl (fun _ => 0))), ((q1 1), .inl (cA 0, 16, .inl (fun _ => 0))), ((q1 2), .inl (cA 0, 8, .inl (fun _ => 0))), ((q1 3), .inl (cA 2, 8, .inl (fun _ => 0))), ((q1 4), .inl (cA 0, 9, .inl (fun _ => 0))), ((q1 5), .inl (cA 0, 9, .inl (fun _ => 0))), ((q1 6), .inl (cA 0, 9, .inl (fun _ => 0))), ((q1 7), .inl (cA 0, 9, .inl (fun _ => 0))), ((q1 8), .inl (cA 0, 9, .inl (fun _ => 0))), ((q1 9), .inl (cA 0, 9, .inl (fun _ => 0))), (a12, .inr (4, [.int 0, .int 0, .long 0, .ref (q2 0), .ref (q2 1), .ref (q2 2), .ref (q2 3), .ref (q2 4), .ref (q2 5), .ref (q2 6), .ref (q2 7), .ref (q2 8), .ref (q2 9), .ref (q2 11), .ref (q2 13), .ref (q2 15), .ref (q2 17)])), ((q2 0), .inl (cA 1, 25, .inr (.inl (fun _ => 0)))), ((q2 1), .inl (cA 1, 25, .inr (.inl (fun _ => 0)))), ((q2 2), .inl (cA 1, 9, .inr (.inl (fun _ => 0)))), ((q2 3), .inl (cA 0, 81, .inl (fun _ => 0))), ((q2 4), .inl (cA 0, 9, .inl (fun _ => 0))), ((q2 5), .inl (cA 0, 9, .inl (fun _ => 0))), ((q2 6), .inl (cA 1, 512, .inr (.inl (fun _ => 0)))), ((q2 7), .inl (cA 1, 512, .inr (.inl (fun _ => 0)))), ((q2 8), .inl (cA 1, 512, .inr (.inl (fun _ => 0)))), ((q2 9), .inr (8, [.ref (q2 10)])), ((q2 10), .inl (cA 1, 8, .inr (.inl (fun _ => 0)))), ((q2 11), .inr (8, [.ref (q2 12)])), ((q2 12), .inl (cA 1, 8, .inr (.inl (fun _ => 0)))), ((q2 13), .inr (8, [.ref (q2 14)])), ((q2 14), .inl (cA 1, 8, .inr (.inl (fun _ => 0)))), ((q2 15), .inr (8, [.ref (q2 16)])), ((q2 16), .inl (cA 1, 8, .inr (.inl (fun _ => 0)))), ((q2 17), .inr (8, [.ref (q2 18)])), ((q2 18), .inl (cA 1, 8, .inr (.inl (fun _ => 0)))), (a32, .inr (6, [.int 0, .ref (q 0), .ref (q 1), .ref (q 2), .ref (q 3), .ref (q 4)])), ((q 0), .inl (cA 0, 12, .inl (fun _ => 0))), ((q 1), .inl (cA 0, 12, .inl (fun _ => 0))), ((q 2), .inl (cA 0, 12, .inl (fun _ => 0))), ((q 3), .inl (cA 0, 12, .inl (fun _ => 0))), ((q 4), .inl (cA 0, 12, .inl (fun _ => 0)))]) (fun _ => rfl) (fun q3 H locs hP hD hS => ?_)
  refine W.eq (g2 := F0 m 34 ls [.ref a32, .ref h0]) rfl ?_
  refine k_putF (ci := 9) (C := RX6) (T := TX6) (N := 5) (v := .ref a32) (ws1 := [(h0, .inr (9, [.ref a1, .ref a12, .ref a32, .null, .null])), (a1, .inr (5, [.int 0, .int 0, .ref (q1 0), .ref (q1 1), .ref (q1 2), .ref (q1 3), .ref (q1 4), .ref (q1 5), .ref (q1 6), .ref (q1 7), .ref (q1 8), .ref (q1 9)])), ((q1 0), .inl (cA 0, 16, .inl (fun _ => 0))), ((q1 1), .inl (cA 0, 16, .inl (fun _ => 0))), ((q1 2), .inl (cA 0, 8, .inl (fun _ => 0))), ((q1 3), .inl (cA 2, 8, .inl (fun _ => 0))), ((q1 4), .inl (cA 0, 9, .inl (fun _ => 0))), ((q1 5), .inl (cA 0, 9, .inl (fun _ => 0))), ((q1 6), .inl (cA 0, 9, .inl (fun _ => 0))), ((q1 7), .inl (cA 0, 9, .inl (fun _ => 0))), ((q1 8), .inl (cA 0, 9, .inl (fun _ => 0))), ((q1 9), .inl (cA 0, 9, .inl (fun _ => 0))), (a12, .inr (4, [.int 0, .int 0, .long 0, .ref (q2 0), .ref (q2 1), .ref (q2 2), .ref (q2 3), .ref (q2 4), .ref (q2 5), .ref (q2 6), .ref (q2 7), .ref (q2 8), .ref (q2 9), .ref (q2 11), .ref (q2 13), .ref (q2 15), .ref (q2 17)])), ((q2 0), .inl (cA 1, 25, .inr (.inl (fun _ => 0)))), ((q2 1), .inl (cA 1, 25, .inr (.inl (fun _ => 0)))), ((q2 2), .inl (cA 1, 9, .inr (.inl (fun _ => 0)))), ((q2 3), .inl (cA 0, 81, .inl (fun _ => 0))), ((q2 4), .inl (cA 0, 9, .inl (fun _ => 0))), ((q2 5), .inl (cA 0, 9, .inl (fun _ => 0))), ((q2 6), .inl (cA 1, 512, .inr (.inl (fun _ => 0)))), ((q2 7), .inl (cA 1, 512, .inr (.inl (fun _ => 0)))), ((q2 8), .inl (cA 1, 512, .inr (.inl (fun _ => 0)))), ((q2 9), .inr (8, [.ref (q2 10)])), ((q2 10), .inl (cA 1, 8, .inr (.inl (fun _ => 0)))), ((q2 11), .inr (8, [.ref (q2 12)])), ((q2 12), .inl (cA 1, 8, .inr (.inl (fun _ => 0)))), ((q2 13), .inr (8, [.ref (q2 14)])), ((q2 14), .inl (cA 1, 8, .inr (.inl (fun _ => 0)))), ((q2 15), .inr (8, [.ref (q2 16)])), ((q2 16), .inl (cA 1, 8, .inr (.inl (fun _ => 0)))), ((q2 17), .inr (8, [.ref (q2 18)])), ((q2 18), .inl (cA 1, 8, .inr (.inl (fun _ => 0)))), (a32, .inr (6, [.int 0, .ref (q3 0), .ref (q3 1), .ref (q3 2), .ref (q3 3), .ref (q3 4)])), ((q3 0), .inl (cA 0, 12, .inl (fun _ => 0))), ((q3 1), .inl (cA 0, 12, .inl (fun _ => 0))), ((q3 2), .inl (cA 0, 12, .inl (fun _ => 0))), ((q3 3), .inl (cA 0, 12, .inl (fun _ => 0))), ((q3 4), .inl (cA 0, 12, .inl (fun _ => 0)))]) hx hb hG inX6 tyX6 tyX6_ok nmX6 hown hK hP hD hS 0 rfl rfl 2 (by decide) gw365 rfl hnm rfl ⟨rfl, rfl⟩ rfl (Nat.le_of_ble_eq_true rfl) dX6_init_34 (fun H locs hP hD hS => ?_)
  refine lv_aload_n hx hb dX6_init_37 rfl (lv_at hl 0 rfl) ?_
  refine k_new (ci := 3) (C := RX0) (T := TX0) (N := 11) hx hb hG inX0 tyX0 tyX0_ok hown gw279 gw280 gw80 hK hP hD hS hA rfl [.int 0, .int 0, .int 0, .int 0, .null, .null, .null, .null, .null, .null, .null] rfl (Nat.le_of_ble_eq_true rfl) (Nat.le_of_ble_eq_true rfl) dX6_init_38 (fun a38 H hP hD hS => ?_)
  have hP : va_P D vwCl [(h0, .inr (9, [.ref a1, .ref a12, .ref a32, .null, .null])), (a1, .inr (5, [.int 0, .int 0, .ref (q1 0), .ref (q1 1), .ref (q1 2), .ref (q1 3), .ref (q1 4), .ref (q1 5), .ref (q1 6), .ref (q1 7), .ref (q1 8), .ref (q1 9)])), ((q1 0), .inl (cA 0, 16, .inl (fun _ => 0))), ((q1 1), .inl (cA 0, 16, .inl (fun _ => 0))), ((q1 2), .inl (cA 0, 8, .inl (fun _ => 0))), ((q1 3), .inl (cA 2, 8, .inl (fun _ => 0))), ((q1 4), .inl (cA 0, 9, .inl (fun _ => 0))), ((q1 5), .inl (cA 0, 9, .inl (fun _ => 0))), ((q1 6), .inl (cA 0, 9, .inl (fun _ => 0))), ((q1 7), .inl (cA 0, 9, .inl (fun _ => 0))), ((q1 8), .inl (cA 0, 9, .inl (fun _ => 0))), ((q1 9), .inl (cA 0, 9, .inl (fun _ => 0))), (a12, .inr (4, [.int 0, .int 0, .long 0, .ref (q2 0), .ref (q2 1), .ref (q2 2), .ref (q2 3), .ref (q2 4), .ref (q2 5), .ref (q2 6), .ref (q2 7), .ref (q2 8), .ref (q2 9), .ref (q2 11), .ref (q2 13), .ref (q2 15), .ref (q2 17)])), ((q2 0), .inl (cA 1, 25, .inr (.inl (fun _ => 0)))), ((q2 1), .inl (cA 1, 25, .inr (.inl (fun _ => 0)))), ((q2 2), .inl (cA 1, 9, .inr (.inl (fun _ => 0)))), ((q2 3), .inl (cA 0, 81, .inl (fun _ => 0))), ((q2 4), .inl (cA 0, 9, .inl (fun _ => 0))), ((q2 5), .inl (cA 0, 9, .inl (fun _ => 0))), ((q2 6), .inl (cA 1, 512, .inr (.inl (fun _ => 0)))), ((q2 7), .inl (cA 1, 512, .inr (.inl (fun _ => 0)))), ((q2 8), .inl (cA 1, 512, .inr (.inl (fun _ => 0)))), ((q2 9), .inr (8, [.ref (q2 10)])), ((q2 10), .inl (cA 1, 8, .inr (.inl (fun _ => 0)))), ((q2 11), .inr (8, [.ref (q2 12)])), ((q2 12), .inl (cA 1, 8, .inr (.inl (fun _ => 0)))), ((q2 13), .inr (8, [.ref (q2 14)])), ((q2 14), .inl (cA 1, 8, .inr (.inl (fun _ => 0)))), ((q2 15), .inr (8, [.ref (q2 16)])), ((q2 16), .inl (cA 1, 8, .inr (.inl (fun _ => 0)))), ((q2 17), .inr (8, [.ref (q2 18)])), ((q2 18), .inl (cA 1, 8, .inr (.inl (fun _ => 0)))), (a32, .inr (6, [.int 0, .ref (q3 0), .ref (q3 1), .ref (q3 2), .ref (q3 3), .ref (q3 4)])), ((q3 0), .inl (cA 0, 12, .inl (fun _ => 0))), ((q3 1), .inl (cA 0, 12, .inl (fun _ => 0))), ((q3 2), .inl (cA 0, 12, .inl (fun _ => 0))), ((q3 3), .inl (cA 0, 12, .inl (fun _ => 0))), ((q3 4), .inl (cA 0, 12, .inl (fun _ => 0))), (a38, .inr (3, [.int 0, .int 0, .int 0, .int 0, .null, .null, .null, .null, .null, .null, .null]))] H := hP
  have hD : va_D _ [(h0, .inr (9, [.ref a1, .ref a12, .ref a32, .null, .null])), (a1, .inr (5, [.int 0, .int 0, .ref (q1 0), .ref (q1 1), .ref (q1 2), .ref (q1 3), .ref (q1 4), .ref (q1 5), .ref (q1 6), .ref (q1 7), .ref (q1 8), .ref (q1 9)])), ((q1 0), .inl (cA 0, 16, .inl (fun _ => 0))), ((q1 1), .inl (cA 0, 16, .inl (fun _ => 0))), ((q1 2), .inl (cA 0, 8, .inl (fun _ => 0))), ((q1 3), .inl (cA 2, 8, .inl (fun _ => 0))), ((q1 4), .inl (cA 0, 9, .inl (fun _ => 0))), ((q1 5), .inl (cA 0, 9, .inl (fun _ => 0))), ((q1 6), .inl (cA 0, 9, .inl (fun _ => 0))), ((q1 7), .inl (cA 0, 9, .inl (fun _ => 0))), ((q1 8), .inl (cA 0, 9, .inl (fun _ => 0))), ((q1 9), .inl (cA 0, 9, .inl (fun _ => 0))), (a12, .inr (4, [.int 0, .int 0, .long 0, .ref (q2 0), .ref (q2 1), .ref (q2 2), .ref (q2 3), .ref (q2 4), .ref (q2 5), .ref (q2 6), .ref (q2 7), .ref (q2 8), .ref (q2 9), .ref (q2 11), .ref (q2 13), .ref (q2 15), .ref (q2 17)])), ((q2 0), .inl (cA 1, 25, .inr (.inl (fun _ => 0)))), ((q2 1), .inl (cA 1, 25, .inr (.inl (fun _ => 0)))), ((q2 2), .inl (cA 1, 9, .inr (.inl (fun _ => 0)))), ((q2 3), .inl (cA 0, 81, .inl (fun _ => 0))), ((q2 4), .inl (cA 0, 9, .inl (fun _ => 0))), ((q2 5), .inl (cA 0, 9, .inl (fun _ => 0))), ((q2 6), .inl (cA 1, 512, .inr (.inl (fun _ => 0)))), ((q2 7), .inl (cA 1, 512, .inr (.inl (fun _ => 0)))), ((q2 8), .inl (cA 1, 512, .inr (.inl (fun _ => 0)))), ((q2 9), .inr (8, [.ref (q2 10)])), ((q2 10), .inl (cA 1, 8, .inr (.inl (fun _ => 0)))), ((q2 11), .inr (8, [.ref (q2 12)])), ((q2 12), .inl (cA 1, 8, .inr (.inl (fun _ => 0)))), ((q2 13), .inr (8, [.ref (q2 14)])), ((q2 14), .inl (cA 1, 8, .inr (.inl (fun _ => 0)))), ((q2 15), .inr (8, [.ref (q2 16)])), ((q2 16), .inl (cA 1, 8, .inr (.inl (fun _ => 0)))), ((q2 17), .inr (8, [.ref (q2 18)])), ((q2 18), .inl (cA 1, 8, .inr (.inl (fun _ => 0)))), (a32, .inr (6, [.int 0, .ref (q3 0), .ref (q3 1), .ref (q3 2), .ref (q3 3), .ref (q3 4)])), ((q3 0), .inl (cA 0, 12, .inl (fun _ => 0))), ((q3 1), .inl (cA 0, 12, .inl (fun _ => 0))), ((q3 2), .inl (cA 0, 12, .inl (fun _ => 0))), ((q3 3), .inl (cA 0, 12, .inl (fun _ => 0))), ((q3 4), .inl (cA 0, 12, .inl (fun _ => 0))), (a38, .inr (3, [.int 0, .int 0, .int 0, .int 0, .null, .null, .null, .null, .null, .null, .null]))] := hD
  refine lv_dup hx hb dX6_init_41 rfl ?_
  refine ct_IN (wr := [(h0, .inr (9, [.ref a1, .ref a12, .ref a32, .null, .null])), (a1, .inr (5, [.int 0, .int 0, .ref (q1 0), .ref (q1 1), .ref (q1 2), .ref (q1 3), .ref (q1 4), .ref (q1 5), .ref (q1 6), .ref (q1 7), .ref (q1 8), .ref (q1 9)])), ((q1 0), .inl (cA 0, 16, .inl (fun _ => 0))), ((q1 1), .inl (cA 0, 16, .inl (fun _ => 0))), ((q1 2), .inl (cA 0, 8, .inl (fun _ => 0))), ((q1 3), .inl (cA 2, 8, .inl (fun _ => 0))), ((q1 4), .inl (cA 0, 9, .inl (fun _ => 0))), ((q1 5), .inl (cA 0, 9, .inl (fun _ => 0))), ((q1 6), .inl (cA 0, 9, .inl (fun _ => 0))), ((q1 7), .inl (cA 0, 9, .inl (fun _ => 0))), ((q1 8), .inl (cA 0, 9, .inl (fun _ => 0))), ((q1 9), .inl (cA 0, 9, .inl (fun _ => 0))), (a12, .inr (4, [.int 0, .int 0, .long 0, .ref (q2 0), .ref (q2 1), .ref (q2 2), .ref (q2 3), .ref (q2 4), .ref (q2 5), .ref (q2 6), .ref (q2 7), .ref (q2 8), .ref (q2 9), .ref (q2 11), .ref (q2 13), .ref (q2 15), .ref (q2 17)])), ((q2 0), .inl (cA 1, 25, .inr (.inl (fun _ => 0)))), ((q2 1), .inl (cA 1, 25, .inr (.inl (fun _ => 0)))), ((q2 2), .inl (cA 1, 9, .inr (.inl (fun _ => 0)))), ((q2 3), .inl (cA 0, 81, .inl (fun _ => 0))), ((q2 4), .inl (cA 0, 9, .inl (fun _ => 0))), ((q2 5), .inl (cA 0, 9, .inl (fun _ => 0))), ((q2 6), .inl (cA 1, 512, .inr (.inl (fun _ => 0)))), ((q2 7), .inl (cA 1, 512, .inr (.inl (fun _ => 0)))), ((q2 8), .inl (cA 1, 512, .inr (.inl (fun _ => 0)))), ((q2 9), .inr (8, [.ref (q2 10)])), ((q2 10), .inl (cA 1, 8, .inr (.inl (fun _ => 0)))), ((q2 11), .inr (8, [.ref (q2 12)])), ((q2 12), .inl (cA 1, 8, .inr (.inl (fun _ => 0)))), ((q2 13), .inr (8, [.ref (q2 14)])), ((q2 14), .inl (cA 1, 8, .inr (.inl (fun _ => 0)))), ((q2 15), .inr (8, [.ref (q2 16)])), ((q2 16), .inl (cA 1, 8, .inr (.inl (fun _ => 0)))), ((q2 17), .inr (8, [.ref (q2 18)])), ((q2 18), .inl (cA 1, 8, .inr (.inl (fun _ => 0)))), (a32, .inr (6, [.int 0, .ref (q3 0), .ref (q3 1), .ref (q3 2), .ref (q3 3), .ref (q3 4)])), ((q3 0), .inl (cA 0, 12, .inl (fun _ => 0))), ((q3 1), .inl (cA 0, 12, .inl (fun _ => 0))), ((q3 2), .inl (cA 0, 12, .inl (fun _ => 0))), ((q3 3), .inl (cA 0, 12, .inl (fun _ => 0))), ((q3 4), .inl (cA 0, 12, .inl (fun _ => 0)))]) hSF hl.1 hP hD hS hA hK hGV (c4_X0_init l hfl D cA g a38) gw281 gw282 gw80 gw283 rfl pd_X0_init.2 ⟨(Nat.le_of_ble_eq_true rfl), (Nat.le_of_ble_eq_true rfl)⟩ ⟨(Nat.le_of_ble_eq_true rfl), (Nat.le_of_ble_eq_true rfl)⟩ dX6_init_42 rfl (Nat.le_of_ble_eq_true rfl) [38] [0, 1, 2, 3, 4, 5, 6, 7, 8, 9, 10, 11, 12, 13, 14, 15, 16, 17, 18, 19, 20, 21, 22, 23, 24, 25, 26, 27, 28, 29, 30, 31, 32, 33, 34, 35, 36, 37] rfl (by decide) rfl (by decide) (by decide) (fun q => [(h0, .inr (9, [.ref a1, .ref a12, .ref a32, .null, .null])), (a1, .inr (5, [.int 0, .int 0, .ref (q1 0), .ref (q1 1), .ref (q1 2), .ref (q1 3), .ref (q1 4), .ref (q1 5), .ref (q1 6), .ref (q1 7), .ref (q1 8), .ref (q1 9)])), ((q1 0), .inl (cA 0, 16, .inl (fun _ => 0))), ((q1 1), .inl (cA 0, 16, .inl (fun _ => 0))), ((q1 2), .inl (cA 0, 8, .inl (fun _ => 0))), ((q1 3), .inl (cA 2, 8, .inl (fun _ => 0))), ((q1 4), .inl (cA 0, 9, .inl (fun _ => 0))), ((q1 5), .inl (cA 0, 9, .inl (fun _ => 0))), ((q1 6), .inl (cA 0, 9, .inl (fun _ => 0))), ((q1 7), .inl (cA 0, 9, .inl (fun _ => 0))), ((q1 8), .inl (cA 0, 9, .inl (fun _ => 0))), ((q1 9), .inl (cA 0, 9, .inl (fun _ => 0))), (a12, .inr (4, [.int 0, .int 0, .long 0, .ref (q2 0), .ref (q2 1), .ref (q2 2), .ref (q2 3), .ref (q2 4), .ref (q2 5), .ref (q2 6), .ref (q2 7), .ref (q2 8), .ref (q2 9), .ref (q2 11), .ref (q2 13), .ref (q2 15), .ref (q2 17)])), ((q2 0), .inl (cA 1, 25, .inr (.inl (fun _ => 0)))), ((q2 1), .inl (cA 1, 25, .inr (.inl (fun _ => 0)))), ((q2 2), .inl (cA 1, 9, .inr (.inl (fun _ => 0)))), ((q2 3), .inl (cA 0, 81, .inl (fun _ => 0))), ((q2 4), .inl (cA 0, 9, .inl (fun _ => 0))), ((q2 5), .inl (cA 0, 9, .inl (fun _ => 0))), ((q2 6), .inl (cA 1, 512, .inr (.inl (fun _ => 0)))), ((q2 7), .inl (cA 1, 512, .inr (.inl (fun _ => 0)))), ((q2 8), .inl (cA 1, 512, .inr (.inl (fun _ => 0)))), ((q2 9), .inr (8, [.ref (q2 10)])), ((q2 10), .inl (cA 1, 8, .inr (.inl (fun _ => 0)))), ((q2 11), .inr (8, [.ref (q2 12)])), ((q2 12), .inl (cA 1, 8, .inr (.inl (fun _ => 0)))), ((q2 13), .inr (8, [.ref (q2 14)])), ((q2 14), .inl (cA 1, 8, .inr (.inl (fun _ => 0)))), ((q2 15), .inr (8, [.ref (q2 16)])), ((q2 16), .inl (cA 1, 8, .inr (.inl (fun _ => 0)))), ((q2 17), .inr (8, [.ref (q2 18)])), ((q2 18), .inl (cA 1, 8, .inr (.inl (fun _ => 0)))), (a32, .inr (6, [.int 0, .ref (q3 0), .ref (q3 1), .ref (q3 2), .ref (q3 3), .ref (q3 4)])), ((q3 0), .inl (cA 0, 12, .inl (fun _ => 0))), ((q3 1), .inl (cA 0, 12, .inl (fun _ => 0))), ((q3 2), .inl (cA 0, 12, .inl (fun _ => 0))), ((q3 3), .inl (cA 0, 12, .inl (fun _ => 0))), ((q3 4), .inl (cA 0, 12, .inl (fun _ => 0))), (a38, .inr (3, [.int 0, .int 0, .int 0, .int 0, .ref (q 0), .ref (q 1), .ref (q 2), .ref (q 3), .ref (q 4), .ref (q 5), .ref (q 6)])), ((q 0), .inl (cA 0, 9, .inl (fun _ => 0))), ((q 1), .inl (cA 0, 5, .inl (fun _ => 0))), ((q 2), .inl (cA 0, 5, .inl (fun _ => 0))), ((q 3), .inl (cA 0, 5, .inl (fun _ => 0))), ((q 4), .inl (cA 0, 512, .inl (fun _ => 0))), ((q 5), .inl (cA 0, 512, .inl (fun _ => 0))), ((q 6), .inl (cA 1, 512, .inr (.inl (fun _ => 0))))]) (fun _ => rfl) (fun q4 H locs hP hD hS => ?_)
  refine W.eq (g2 := F0 m 45 ls [.ref a38, .ref h0]) rfl ?_
  refine k_putF (ci := 9) (C := RX6) (T := TX6) (N := 5) (v := .ref a38) (ws1 := [(h0, .inr (9, [.ref a1, .ref a12, .ref a32, .ref a38, .null])), (a1, .inr (5, [.int 0, .int 0, .ref (q1 0), .ref (q1 1), .ref (q1 2), .ref (q1 3), .ref (q1 4), .ref (q1 5), .ref (q1 6), .ref (q1 7), .ref (q1 8), .ref (q1 9)])), ((q1 0), .inl (cA 0, 16, .inl (fun _ => 0))), ((q1 1), .inl (cA 0, 16, .inl (fun _ => 0))), ((q1 2), .inl (cA 0, 8, .inl (fun _ => 0))), ((q1 3), .inl (cA 2, 8, .inl (fun _ => 0))), ((q1 4), .inl (cA 0, 9, .inl (fun _ => 0))), ((q1 5), .inl (cA 0, 9, .inl (fun _ => 0))), ((q1 6), .inl (cA 0, 9, .inl (fun _ => 0))), ((q1 7), .inl (cA 0, 9, .inl (fun _ => 0))), ((q1 8), .inl (cA 0, 9, .inl (fun _ => 0))), ((q1 9), .inl (cA 0, 9, .inl (fun _ => 0))), (a12, .inr (4, [.int 0, .int 0, .long 0, .ref (q2 0), .ref (q2 1), .ref (q2 2), .ref (q2 3), .ref (q2 4), .ref (q2 5), .ref (q2 6), .ref (q2 7), .ref (q2 8), .ref (q2 9), .ref (q2 11), .ref (q2 13), .ref (q2 15), .ref (q2 17)])), ((q2 0), .inl (cA 1, 25, .inr (.inl (fun _ => 0)))), ((q2 1), .inl (cA 1, 25, .inr (.inl (fun _ => 0)))), ((q2 2), .inl (cA 1, 9, .inr (.inl (fun _ => 0)))), ((q2 3), .inl (cA 0, 81, .inl (fun _ => 0))), ((q2 4), .inl (cA 0, 9, .inl (fun _ => 0))), ((q2 5), .inl (cA 0, 9, .inl (fun _ => 0))), ((q2 6), .inl (cA 1, 512, .inr (.inl (fun _ => 0)))), ((q2 7), .inl (cA 1, 512, .inr (.inl (fun _ => 0)))), ((q2 8), .inl (cA 1, 512, .inr (.inl (fun _ => 0)))), ((q2 9), .inr (8, [.ref (q2 10)])), ((q2 10), .inl (cA 1, 8, .inr (.inl (fun _ => 0)))), ((q2 11), .inr (8, [.ref (q2 12)])), ((q2 12), .inl (cA 1, 8, .inr (.inl (fun _ => 0)))), ((q2 13), .inr (8, [.ref (q2 14)])), ((q2 14), .inl (cA 1, 8, .inr (.inl (fun _ => 0)))), ((q2 15), .inr (8, [.ref (q2 16)])), ((q2 16), .inl (cA 1, 8, .inr (.inl (fun _ => 0)))), ((q2 17), .inr (8, [.ref (q2 18)])), ((q2 18), .inl (cA 1, 8, .inr (.inl (fun _ => 0)))), (a32, .inr (6, [.int 0, .ref (q3 0), .ref (q3 1), .ref (q3 2), .ref (q3 3), .ref (q3 4)])), ((q3 0), .inl (cA 0, 12, .inl (fun _ => 0))), ((q3 1), .inl (cA 0, 12, .inl (fun _ => 0))), ((q3 2), .inl (cA 0, 12, .inl (fun _ => 0))), ((q3 3), .inl (cA 0, 12, .inl (fun _ => 0))), ((q3 4), .inl (cA 0, 12, .inl (fun _ => 0))), (a38, .inr (3, [.int 0, .int 0, .int 0, .int 0, .ref (q4 0), .ref (q4 1), .ref (q4 2), .ref (q4 3), .ref (q4 4), .ref (q4 5), .ref (q4 6)])), ((q4 0), .inl (cA 0, 9, .inl (fun _ => 0))), ((q4 1), .inl (cA 0, 5, .inl (fun _ => 0))), ((q4 2), .inl (cA 0, 5, .inl (fun _ => 0))), ((q4 3), .inl (cA 0, 5, .inl (fun _ => 0))), ((q4 4), .inl (cA 0, 512, .inl (fun _ => 0))), ((q4 5), .inl (cA 0, 512, .inl (fun _ => 0))), ((q4 6), .inl (cA 1, 512, .inr (.inl (fun _ => 0))))]) hx hb hG inX6 tyX6 tyX6_ok nmX6 hown hK hP hD hS 0 rfl rfl 3 (by decide) gw366 rfl hnm rfl ⟨rfl, rfl⟩ rfl (Nat.le_of_ble_eq_true rfl) dX6_init_45 (fun H locs hP hD hS => ?_)
  refine lv_aload_n hx hb dX6_init_48 rfl (lv_at hl 0 rfl) ?_
  refine k_new (ci := 7) (C := RX4) (T := TX4) (N := 9) hx hb hG inX4 tyX4 tyX4_ok hown gw324 gw325 gw81 hK hP hD hS hA rfl [.int 0, .int 0, .int 0, .int 0, .null, .null, .null, .null, .null] rfl (Nat.le_of_ble_eq_true rfl) (Nat.le_of_ble_eq_true rfl) dX6_init_49 (fun a46 H hP hD hS => ?_)
  have hP : va_P D vwCl [(h0, .inr (9, [.ref a1, .ref a12, .ref a32, .ref a38, .null])), (a1, .inr (5, [.int 0, .int 0, .ref (q1 0), .ref (q1 1), .ref (q1 2), .ref (q1 3), .ref (q1 4), .ref (q1 5), .ref (q1 6), .ref (q1 7), .ref (q1 8), .ref (q1 9)])), ((q1 0), .inl (cA 0, 16, .inl (fun _ => 0))), ((q1 1), .inl (cA 0, 16, .inl (fun _ => 0))), ((q1 2), .inl (cA 0, 8, .inl (fun _ => 0))), ((q1 3), .inl (cA 2, 8, .inl (fun _ => 0))), ((q1 4), .inl (cA 0, 9, .inl (fun _ => 0))), ((q1 5), .inl (cA 0, 9, .inl (fun _ => 0))), ((q1 6), .inl (cA 0, 9, .inl (fun _ => 0))), ((q1 7), .inl (cA 0, 9, .inl (fun _ => 0))), ((q1 8), .inl (cA 0, 9, .inl (fun _ => 0))), ((q1 9), .inl (cA 0, 9, .inl (fun _ => 0))), (a12, .inr (4, [.int 0, .int 0, .long 0, .ref (q2 0), .ref (q2 1), .ref (q2 2), .ref (q2 3), .ref (q2 4), .ref (q2 5), .ref (q2 6), .ref (q2 7), .ref (q2 8), .ref (q2 9), .ref (q2 11), .ref (q2 13), .ref (q2 15), .ref (q2 17)])), ((q2 0), .inl (cA 1, 25, .inr (.inl (fun _ => 0)))), ((q2 1), .inl (cA 1, 25, .inr (.inl (fun _ => 0)))), ((q2 2), .inl (cA 1, 9, .inr (.inl (fun _ => 0)))), ((q2 3), .inl (cA 0, 81, .inl (fun _ => 0))), ((q2 4), .inl (cA 0, 9, .inl (fun _ => 0))), ((q2 5), .inl (cA 0, 9, .inl (fun _ => 0))), ((q2 6), .inl (cA 1, 512, .inr (.inl (fun _ => 0)))), ((q2 7), .inl (cA 1, 512, .inr (.inl (fun _ => 0)))), ((q2 8), .inl (cA 1, 512, .inr (.inl (fun _ => 0)))), ((q2 9), .inr (8, [.ref (q2 10)])), ((q2 10), .inl (cA 1, 8, .inr (.inl (fun _ => 0)))), ((q2 11), .inr (8, [.ref (q2 12)])), ((q2 12), .inl (cA 1, 8, .inr (.inl (fun _ => 0)))), ((q2 13), .inr (8, [.ref (q2 14)])), ((q2 14), .inl (cA 1, 8, .inr (.inl (fun _ => 0)))), ((q2 15), .inr (8, [.ref (q2 16)])), ((q2 16), .inl (cA 1, 8, .inr (.inl (fun _ => 0)))), ((q2 17), .inr (8, [.ref (q2 18)])), ((q2 18), .inl (cA 1, 8, .inr (.inl (fun _ => 0)))), (a32, .inr (6, [.int 0, .ref (q3 0), .ref (q3 1), .ref (q3 2), .ref (q3 3), .ref (q3 4)])), ((q3 0), .inl (cA 0, 12, .inl (fun _ => 0))), ((q3 1), .inl (cA 0, 12, .inl (fun _ => 0))), ((q3 2), .inl (cA 0, 12, .inl (fun _ => 0))), ((q3 3), .inl (cA 0, 12, .inl (fun _ => 0))), ((q3 4), .inl (cA 0, 12, .inl (fun _ => 0))), (a38, .inr (3, [.int 0, .int 0, .int 0, .int 0, .ref (q4 0), .ref (q4 1), .ref (q4 2), .ref (q4 3), .ref (q4 4), .ref (q4 5), .ref (q4 6)])), ((q4 0), .inl (cA 0, 9, .inl (fun _ => 0))), ((q4 1), .inl (cA 0, 5, .inl (fun _ => 0))), ((q4 2), .inl (cA 0, 5, .inl (fun _ => 0))), ((q4 3), .inl (cA 0, 5, .inl (fun _ => 0))), ((q4 4), .inl (cA 0, 512, .inl (fun _ => 0))), ((q4 5), .inl (cA 0, 512, .inl (fun _ => 0))), ((q4 6), .inl (cA 1, 512, .inr (.inl (fun _ => 0)))), (a46, .inr (7, [.int 0, .int 0, .int 0, .int 0, .null, .null, .null, .null, .null]))] H := hP
  have hD : va_D _ [(h0, .inr (9, [.ref a1, .ref a12, .ref a32, .ref a38, .null])), (a1, .inr (5, [.int 0, .int 0, .ref (q1 0), .ref (q1 1), .ref (q1 2), .ref (q1 3), .ref (q1 4), .ref (q1 5), .ref (q1 6), .ref (q1 7), .ref (q1 8), .ref (q1 9)])), ((q1 0), .inl (cA 0, 16, .inl (fun _ => 0))), ((q1 1), .inl (cA 0, 16, .inl (fun _ => 0))), ((q1 2), .inl (cA 0, 8, .inl (fun _ => 0))), ((q1 3), .inl (cA 2, 8, .inl (fun _ => 0))), ((q1 4), .inl (cA 0, 9, .inl (fun _ => 0))), ((q1 5), .inl (cA 0, 9, .inl (fun _ => 0))), ((q1 6), .inl (cA 0, 9, .inl (fun _ => 0))), ((q1 7), .inl (cA 0, 9, .inl (fun _ => 0))), ((q1 8), .inl (cA 0, 9, .inl (fun _ => 0))), ((q1 9), .inl (cA 0, 9, .inl (fun _ => 0))), (a12, .inr (4, [.int 0, .int 0, .long 0, .ref (q2 0), .ref (q2 1), .ref (q2 2), .ref (q2 3), .ref (q2 4), .ref (q2 5), .ref (q2 6), .ref (q2 7), .ref (q2 8), .ref (q2 9), .ref (q2 11), .ref (q2 13), .ref (q2 15), .ref (q2 17)])), ((q2 0), .inl (cA 1, 25, .inr (.inl (fun _ => 0)))), ((q2 1), .inl (cA 1, 25, .inr (.inl (fun _ => 0)))), ((q2 2), .inl (cA 1, 9, .inr (.inl (fun _ => 0)))), ((q2 3), .inl (cA 0, 81, .inl (fun _ => 0))), ((q2 4), .inl (cA 0, 9, .inl (fun _ => 0))), ((q2 5), .inl (cA 0, 9, .inl (fun _ => 0))), ((q2 6), .inl (cA 1, 512, .inr (.inl (fun _ => 0)))), ((q2 7), .inl (cA 1, 512, .inr (.inl (fun _ => 0)))), ((q2 8), .inl (cA 1, 512, .inr (.inl (fun _ => 0)))), ((q2 9), .inr (8, [.ref (q2 10)])), ((q2 10), .inl (cA 1, 8, .inr (.inl (fun _ => 0)))), ((q2 11), .inr (8, [.ref (q2 12)])), ((q2 12), .inl (cA 1, 8, .inr (.inl (fun _ => 0)))), ((q2 13), .inr (8, [.ref (q2 14)])), ((q2 14), .inl (cA 1, 8, .inr (.inl (fun _ => 0)))), ((q2 15), .inr (8, [.ref (q2 16)])), ((q2 16), .inl (cA 1, 8, .inr (.inl (fun _ => 0)))), ((q2 17), .inr (8, [.ref (q2 18)])), ((q2 18), .inl (cA 1, 8, .inr (.inl (fun _ => 0)))), (a32, .inr (6, [.int 0, .ref (q3 0), .ref (q3 1), .ref (q3 2), .ref (q3 3), .ref (q3 4)])), ((q3 0), .inl (cA 0, 12, .inl (fun _ => 0))), ((q3 1), .inl (cA 0, 12, .inl (fun _ => 0))), ((q3 2), .inl (cA 0, 12, .inl (fun _ => 0))), ((q3 3), .inl (cA 0, 12, .inl (fun _ => 0))), ((q3 4), .inl (cA 0, 12, .inl (fun _ => 0))), (a38, .inr (3, [.int 0, .int 0, .int 0, .int 0, .ref (q4 0), .ref (q4 1), .ref (q4 2), .ref (q4 3), .ref (q4 4), .ref (q4 5), .ref (q4 6)])), ((q4 0), .inl (cA 0, 9, .inl (fun _ => 0))), ((q4 1), .inl (cA 0, 5, .inl (fun _ => 0))), ((q4 2), .inl (cA 0, 5, .inl (fun _ => 0))), ((q4 3), .inl (cA 0, 5, .inl (fun _ => 0))), ((q4 4), .inl (cA 0, 512, .inl (fun _ => 0))), ((q4 5), .inl (cA 0, 512, .inl (fun _ => 0))), ((q4 6), .inl (cA 1, 512, .inr (.inl (fun _ => 0)))), (a46, .inr (7, [.int 0, .int 0, .int 0, .int 0, .null, .null, .null, .null, .null]))] := hD
  refine lv_dup hx hb dX6_init_52 rfl ?_
  refine ct_IN (wr := [(h0, .inr (9, [.ref a1, .ref a12, .ref a32, .ref a38, .null])), (a1, .inr (5, [.int 0, .int 0, .ref (q1 0), .ref (q1 1), .ref (q1 2), .ref (q1 3), .ref (q1 4), .ref (q1 5), .ref (q1 6), .ref (q1 7), .ref (q1 8), .ref (q1 9)])), ((q1 0), .inl (cA 0, 16, .inl (fun _ => 0))), ((q1 1), .inl (cA 0, 16, .inl (fun _ => 0))), ((q1 2), .inl (cA 0, 8, .inl (fun _ => 0))), ((q1 3), .inl (cA 2, 8, .inl (fun _ => 0))), ((q1 4), .inl (cA 0, 9, .inl (fun _ => 0))), ((q1 5), .inl (cA 0, 9, .inl (fun _ => 0))), ((q1 6), .inl (cA 0, 9, .inl (fun _ => 0))), ((q1 7), .inl (cA 0, 9, .inl (fun _ => 0))), ((q1 8), .inl (cA 0, 9, .inl (fun _ => 0))), ((q1 9), .inl (cA 0, 9, .inl (fun _ => 0))), (a12, .inr (4, [.int 0, .int 0, .long 0, .ref (q2 0), .ref (q2 1), .ref (q2 2), .ref (q2 3), .ref (q2 4), .ref (q2 5), .ref (q2 6), .ref (q2 7), .ref (q2 8), .ref (q2 9), .ref (q2 11), .ref (q2 13), .ref (q2 15), .ref (q2 17)])), ((q2 0), .inl (cA 1, 25, .inr (.inl (fun _ => 0)))), ((q2 1), .inl (cA 1, 25, .inr (.inl (fun _ => 0)))), ((q2 2), .inl (cA 1, 9, .inr (.inl (fun _ => 0)))), ((q2 3), .inl (cA 0, 81, .inl (fun _ => 0))), ((q2 4), .inl (cA 0, 9, .inl (fun _ => 0))), ((q2 5), .inl (cA 0, 9, .inl (fun _ => 0))), ((q2 6), .inl (cA 1, 512, .inr (.inl (fun _ => 0)))), ((q2 7), .inl (cA 1, 512, .inr (.inl (fun _ => 0)))), ((q2 8), .inl (cA 1, 512, .inr (.inl (fun _ => 0)))), ((q2 9), .inr (8, [.ref (q2 10)])), ((q2 10), .inl (cA 1, 8, .inr (.inl (fun _ => 0)))), ((q2 11), .inr (8, [.ref (q2 12)])), ((q2 12), .inl (cA 1, 8, .inr (.inl (fun _ => 0)))), ((q2 13), .inr (8, [.ref (q2 14)])), ((q2 14), .inl (cA 1, 8, .inr (.inl (fun _ => 0)))), ((q2 15), .inr (8, [.ref (q2 16)])), ((q2 16), .inl (cA 1, 8, .inr (.inl (fun _ => 0)))), ((q2 17), .inr (8, [.ref (q2 18)])), ((q2 18), .inl (cA 1, 8, .inr (.inl (fun _ => 0)))), (a32, .inr (6, [.int 0, .ref (q3 0), .ref (q3 1), .ref (q3 2), .ref (q3 3), .ref (q3 4)])), ((q3 0), .inl (cA 0, 12, .inl (fun _ => 0))), ((q3 1), .inl (cA 0, 12, .inl (fun _ => 0))), ((q3 2), .inl (cA 0, 12, .inl (fun _ => 0))), ((q3 3), .inl (cA 0, 12, .inl (fun _ => 0))), ((q3 4), .inl (cA 0, 12, .inl (fun _ => 0))), (a38, .inr (3, [.int 0, .int 0, .int 0, .int 0, .ref (q4 0), .ref (q4 1), .ref (q4 2), .ref (q4 3), .ref (q4 4), .ref (q4 5), .ref (q4 6)])), ((q4 0), .inl (cA 0, 9, .inl (fun _ => 0))), ((q4 1), .inl (cA 0, 5, .inl (fun _ => 0))), ((q4 2), .inl (cA 0, 5, .inl (fun _ => 0))), ((q4 3), .inl (cA 0, 5, .inl (fun _ => 0))), ((q4 4), .inl (cA 0, 512, .inl (fun _ => 0))), ((q4 5), .inl (cA 0, 512, .inl (fun _ => 0))), ((q4 6), .inl (cA 1, 512, .inr (.inl (fun _ => 0))))]) hSF hl.1 hP hD hS hA hK hGV (c5_X4_init l hfl D cA g a46) gw326 gw327 gw81 gw328 rfl pd_X4_init.2 ⟨(Nat.le_of_ble_eq_true rfl), (Nat.le_of_ble_eq_true rfl)⟩ ⟨(Nat.le_of_ble_eq_true rfl), (Nat.le_of_ble_eq_true rfl)⟩ dX6_init_53 rfl (Nat.le_of_ble_eq_true rfl) [46] [0, 1, 2, 3, 4, 5, 6, 7, 8, 9, 10, 11, 12, 13, 14, 15, 16, 17, 18, 19, 20, 21, 22, 23, 24, 25, 26, 27, 28, 29, 30, 31, 32, 33, 34, 35, 36, 37, 38, 39, 40, 41, 42, 43, 44, 45] rfl (by decide) rfl (by decide) (by decide) (fun q => [(h0, .inr (9, [.ref a1, .ref a12, .ref a32, .ref a38, .null])), (a1, .inr (5, [.int 0, .int 0, .ref (q1 0), .ref (q1 1), .ref (q1 2), .ref (q1 3), .ref (q1 4), .ref (q1 5), .ref (q1 6), .ref (q1 7), .ref (q1 8), .ref (q1 9)])), ((q1 0), .inl (cA 0, 16, .inl (fun _ => 0))), ((q1 1), .inl (cA 0, 16, .inl (fun _ => 0))), ((q1 2), .inl (cA 0, 8, .inl (fun _ => 0))), ((q1 3), .inl (cA 2, 8, .inl (fun _ => 0))), ((q1 4), .inl (cA 0, 9, .inl (fun _ => 0))), ((q1 5), .inl (cA 0, 9, .inl (fun _ => 0))), ((q1 6), .inl (cA 0, 9, .inl (fun _ => 0))), ((q1 7), .inl (cA 0, 9, .inl (fun _ => 0))), ((q1 8), .inl (cA 0, 9, .inl (fun _ => 0))), ((q1 9), .inl (cA 0, 9, .inl (fun _ => 0))), (a12, .inr (4, [.int 0, .int 0, .long 0, .ref (q2 0), .ref (q2 1), .ref (q2 2), .ref (q2 3), .ref (q2 4), .ref (q2 5), .ref (q2 6), .ref (q2 7), .ref (q2 8), .ref (q2 9), .ref (q2 11), .ref (q2 13), .ref (q2 15), .ref (q2 17)])), ((q2 0), .inl (cA 1, 25, .inr (.inl (fun _ => 0)))), ((q2 1), .inl (cA 1, 25, .inr (.inl (fun _ => 0)))), ((q2 2), .inl (cA 1, 9, .inr (.inl (fun _ => 0)))), ((q2 3), .inl (cA 0, 81, .inl (fun _ => 0))), ((q2 4), .inl (cA 0, 9, .inl (fun _ => 0))), ((q2 5), .inl (cA 0, 9, .inl (fun _ => 0))), ((q2 6), .inl (cA 1, 512, .inr (.inl (fun _ => 0)))), ((q2 7), .inl (cA 1, 512, .inr (.inl (fun _ => 0)))), ((q2 8), .inl (cA 1, 512, .inr (.inl (fun _ => 0)))), ((q2 9), .inr (8, [.ref (q2 10)])), ((q2 10), .inl (cA 1, 8, .inr (.inl (fun _ => 0)))), ((q2 11), .inr (8, [.ref (q2 12)])), ((q2 12), .inl (cA 1, 8, .inr (.inl (fun _ => 0)))), ((q2 13), .inr (8, [.ref (q2 14)])), ((q2 14), .inl (cA 1, 8, .inr (.inl (fun _ => 0)))), ((q2 15), .inr (8, [.ref (q2 16)])), ((q2 16), .inl (cA 1, 8, .inr (.inl (fun _ => 0)))), ((q2 17), .inr (8, [.ref (q2 18)])), ((q2 18), .inl (cA 1, 8, .inr (.inl (fun _ => 0)))), (a32, .inr (6, [.int 0, .ref (q3 0), .ref (q3 1), .ref (q3 2), .ref (q3 3), .ref (q3 4)])), ((q3 0), .inl (cA 0, 12, .inl (fun _ => 0))), ((q3 1), .inl (cA 0, 12, .inl (fun _ => 0))), ((q3 2), .inl (cA 0, 12, .inl (fun _ => 0))), ((q3 3), .inl (cA 0, 12, .inl (fun _ => 0))), ((q3 4), .inl (cA 0, 12, .inl (fun _ => 0))), (a38, .inr (3, [.int 0, .int 0, .int 0, .int 0, .ref (q4 0), .ref (q4 1), .ref (q4 2), .ref (q4 3), .ref (q4 4), .ref (q4 5), .ref (q4 6)])), ((q4 0), .inl (cA 0, 9, .inl (fun _ => 0))), ((q4 1), .inl (cA 0, 5, .inl (fun _ => 0))), ((q4 2), .inl (cA 0, 5, .inl (fun _ => 0))), ((q4 3), .inl (cA 0, 5, .inl (fun _ => 0))), ((q4 4), .inl (cA 0, 512, .inl (fun _ => 0))), ((q4 5), .inl (cA 0, 512, .inl (fun _ => 0))), ((q4 6), .inl (cA 1, 512, .inr (.inl (fun _ => 0)))), (a46, .inr (7, [.int 2, .int 0, .int 0, .int 0, .ref (q 0), .ref (q 1), .ref (q 2), .ref (q 3), .ref (q 4)])), ((q 0), .inl (cA 0, 45, .inl (fun _ => 0))), ((q 1), .inl (cA 0, 9, .inl (fun _ => 0))), ((q 2), .inl (cA 0, 512, .inl (fun _ => 0))), ((q 3), .inl (cA 3, 512, .inl (fun _ => 0))), ((q 4), .inl (cA 0, 9, .inl (fun _ => 0)))]) (fun _ => rfl) (fun q5 H locs hP hD hS => ?_)
  refine W.eq (g2 := F0 m 56 ls [.ref a46, .ref h0]) rfl ?_
  refine k_putF (ci := 9) (C := RX6) (T := TX6) (N := 5) (v := .ref a46) (ws1 := [(h0, .inr (9, [.ref a1, .ref a12, .ref a32, .ref a38, .ref a46])), (a1, .inr (5, [.int 0, .int 0, .ref (q1 0), .ref (q1 1), .ref (q1 2), .ref (q1 3), .ref (q1 4), .ref (q1 5), .ref (q1 6), .ref (q1 7), .ref (q1 8), .ref (q1 9)])), ((q1 0), .inl (cA 0, 16, .inl (fun _ => 0))), ((q1 1), .inl (cA 0, 16, .inl (fun _ => 0))), ((q1 2), .inl (cA 0, 8, .inl (fun _ => 0))), ((q1 3), .inl (cA 2, 8, .inl (fun _ => 0))), ((q1 4), .inl (cA 0, 9, .inl (fun _ => 0))), ((q1 5), .inl (cA 0, 9, .inl (fun _ => 0))), ((q1 6), .inl (cA 0, 9, .inl (fun _ => 0))), ((q1 7), .inl (cA 0, 9, .inl (fun _ => 0))), ((q1 8), .inl (cA 0, 9, .inl (fun _ => 0))), ((q1 9), .inl (cA 0, 9, .inl (fun _ => 0))), (a12, .inr (4, [.int 0, .int 0, .long 0, .ref (q2 0), .ref (q2 1), .ref (q2 2), .ref (q2 3), .ref (q2 4), .ref (q2 5), .ref (q2 6), .ref (q2 7), .ref (q2 8), .ref (q2 9), .ref (q2 11), .ref (q2 13), .ref (q2 15), .ref (q2 17)])), ((q2 0), .inl (cA 1, 25, .inr (.inl (fun _ => 0)))), ((q2 1), .inl (cA 1, 25, .inr (.inl (fun _ => 0)))), ((q2 2), .inl (cA 1, 9, .inr (.inl (fun _ => 0)))), ((q2 3), .inl (cA 0, 81, .inl (fun _ => 0))), ((q2 4), .inl (cA 0, 9, .inl (fun _ => 0))), ((q2 5), .inl (cA 0, 9, .inl (fun _ => 0))), ((q2 6), .inl (cA 1, 512, .inr (.inl (fun _ => 0)))), ((q2 7), .inl (cA 1, 512, .inr (.inl (fun _ => 0)))), ((q2 8), .inl (cA 1, 512, .inr (.inl (fun _ => 0)))), ((q2 9), .inr (8, [.ref (q2 10)])), ((q2 10), .inl (cA 1, 8, .inr (.inl (fun _ => 0)))), ((q2 11), .inr (8, [.ref (q2 12)])), ((q2 12), .inl (cA 1, 8, .inr (.inl (fun _ => 0)))), ((q2 13), .inr (8, [.ref (q2 14)])), ((q2 14), .inl (cA 1, 8, .inr (.inl (fun _ => 0)))), ((q2 15), .inr (8, [.ref (q2 16)])), ((q2 16), .inl (cA 1, 8, .inr (.inl (fun _ => 0)))), ((q2 17), .inr (8, [.ref (q2 18)])), ((q2 18), .inl (cA 1, 8, .inr (.inl (fun _ => 0)))), (a32, .inr (6, [.int 0, .ref (q3 0), .ref (q3 1), .ref (q3 2), .ref (q3 3), .ref (q3 4)])), ((q3 0), .inl (cA 0, 12, .inl (fun _ => 0))), ((q3 1), .inl (cA 0, 12, .inl (fun _ => 0))), ((q3 2), .inl (cA 0, 12, .inl (fun _ => 0))), ((q3 3), .inl (cA 0, 12, .inl (fun _ => 0))), ((q3 4), .inl (cA 0, 12, .inl (fun _ => 0))), (a38, .inr (3, [.int 0, .int 0, .int 0, .int 0, .ref (q4 0), .ref (q4 1), .ref (q4 2), .ref (q4 3), .ref (q4 4), .ref (q4 5), .ref (q4 6)])), ((q4 0), .inl (cA 0, 9, .inl (fun _ => 0))), ((q4 1), .inl (cA 0, 5, .inl (fun _ => 0))), ((q4 2), .inl (cA 0, 5, .inl (fun _ => 0))), ((q4 3), .inl (cA 0, 5, .inl (fun _ => 0))), ((q4 4), .inl (cA 0, 512, .inl (fun _ => 0))), ((q4 5), .inl (cA 0, 512, .inl (fun _ => 0))), ((q4 6), .inl (cA 1, 512, .inr (.inl (fun _ => 0)))), (a46, .inr (7, [.int 2, .int 0, .int 0, .int 0, .ref (q5 0), .ref (q5 1), .ref (q5 2), .ref (q5 3), .ref (q5 4)])), ((q5 0), .inl (cA 0, 45, .inl (fun _ => 0))), ((q5 1), .inl (cA 0, 9, .inl (fun _ => 0))), ((q5 2), .inl (cA 0, 512, .inl (fun _ => 0))), ((q5 3), .inl (cA 3, 512, .inl (fun _ => 0))), ((q5 4), .inl (cA 0, 9, .inl (fun _ => 0)))]) hx hb hG inX6 tyX6 tyX6_ok nmX6 hown hK hP hD hS 0 rfl rfl 4 (by decide) gw367 rfl hnm rfl ⟨rfl, rfl⟩ rfl (Nat.le_of_ble_eq_true rfl) dX6_init_56 (fun H locs hP hD hS => ?_)
  exact e_v (fun i => match i with | 0 => a1 | 1 => (q1 0) | 2 => (q1 1) | 3 => (q1 2) | 4 => (q1 3) | 5 => (q1 4) | 6 => (q1 5) | 7 => (q1 6) | 8 => (q1 7) | 9 => (q1 8) | 10 => (q1 9) | 11 => a12 | 12 => (q2 0) | 13 => (q2 1) | 14 => (q2 2) | 15 => (q2 3) | 16 => (q2 4) | 17 => (q2 5) | 18 => (q2 6) | 19 => (q2 7) | 20 => (q2 8) | 21 => (q2 9) | 22 => (q2 10) | 23 => (q2 11) | 24 => (q2 12) | 25 => (q2 13) | 26 => (q2 14) | 27 => (q2 15) | 28 => (q2 16) | 29 => (q2 17) | 30 => (q2 18) | 31 => a32 | 32 => (q3 0) | 33 => (q3 1) | 34 => (q3 2) | 35 => (q3 3) | 36 => (q3 4) | 37 => a38 | 38 => (q4 0) | 39 => (q4 1) | 40 => (q4 2) | 41 => (q4 3) | 42 => (q4 4) | 43 => (q4 5) | 44 => (q4 6) | 45 => a46 | 46 => (q5 0) | 47 => (q5 1) | 48 => (q5 2) | 49 => (q5 3) | 50 => (q5 4) | _ => 0) hx hb hr hlocks rfl hP hD hS (Nat.le_of_ble_eq_true rfl) (Nat.le_of_ble_eq_true rfl) dX6_init_59
set_option maxHeartbeats 4000000 in
set_option maxRecDepth 100000 in
theorem c7_Jxa1e45_init_da8c8 (l : Launch) (hfl : l.stackTraces = false) (D : va_G) (cA : Nat → ClassId) (g : gv_T) (h0 : Nat) : CT l yJxa1e45_init_da8c8 cJxa1e45_init_da8c8 1 none (RM 1 0 0 24) D cA g [.ref h0] [] (fun q => none) (fun q => []) := by
  refine CT.of (by decide +kernel) (Nat.le_of_ble_eq_true rfl) ?_
  intro p e s m args below meth c A ls hx hb hr hml hown hG hlocks hnm hA hS hP hK hD hGV hl
  have hown : s.vm.findClass RJxa1e45 = some m.cls := hown
  have hl : lv_has ls 1 [(0, .ref h0)] := hl
  have hSF : CF p m c cJxa1e45_init_da8c8 1 s args RJxa1e45 := ⟨hx, hb, hml, hown, hG⟩
  refine lv_aload_n hx hb dJxa1e45_init_da8c8_0 rfl (lv_at hl 0 rfl) ?_
  refine W.objInit hx hb hown (hG _ gw1204) (hG _ gw118) (hG _ gw119) rfl (hl.1.trans hml.symm) rfl dJxa1e45_init_da8c8_1 (Nat.le_of_ble_eq_true rfl) (Nat.le_of_ble_eq_true rfl) ?_
  refine W.eq (g2 := F0 m 4 ls []) rfl ?_
  exact e_v (fun _ => 0) hx hb hr hlocks rfl hP hD hS (Nat.le_of_ble_eq_true rfl) (Nat.le_of_ble_eq_true rfl) dJxa1e45_init_da8c8_4
set_option maxHeartbeats 4000000 in
set_option maxRecDepth 100000 in
theorem c8_Jxc12de_init_da8c8 (l : Launch) (hfl : l.stackTraces = false) (D : va_G) (cA : Nat → ClassId) (g : gv_T) (h0 : Nat) : CT l yJxc12de_init_da8c8 cJxc12de_init_da8c8 1 none (RM 2 0 0 44) D cA g [.ref h0] [(h0, .inr (2, [.int 0, .null, .int 0]))] (fun q => none) (fun q => [(h0, .inr (2, [.int 0, .null, .int 0]))]) := by
  refine CT.of (by decide +kernel) (Nat.le_of_ble_eq_true rfl) ?_
  intro p e s m args below meth c A ls hx hb hr hml hown hG hlocks hnm hA hS hP hK hD hGV hl
  have hown : s.vm.findClass RJxc12de = some m.cls := hown
  have hl : lv_has ls 1 [(0, .ref h0)] := hl
  have hSF : CF p m c cJxc12de_init_da8c8 1 s args RJxc12de := ⟨hx, hb, hml, hown, hG⟩
  refine lv_aload_n hx hb dJxc12de_init_da8c8_0 rfl (lv_at hl 0 rfl) ?_
  refine ct_I (wr := [(h0, .inr (2, [.int 0, .null, .int 0]))]) hSF hl.1 hP hD hS hA hK hGV (c7_Jxa1e45_init_da8c8 l hfl D cA g h0) gw1201 gw1202 gw83 gw1203 rfl pd_Jxa1e45_init_da8c8.2 ⟨(Nat.le_of_ble_eq_true rfl), (Nat.le_of_ble_eq_true rfl)⟩ ⟨(Nat.le_of_ble_eq_true rfl), (Nat.le_of_ble_eq_true rfl)⟩ dJxc12de_init_da8c8_1 rfl (Nat.le_of_ble_eq_true rfl) [] [0] rfl (by decide) rfl (by decide) (by decide) (fun q => [(h0, .inr (2, [.int 0, .null, .int 0]))]) (fun _ => rfl) (fun q1 H locs hP hD hS => ?_)
  refine W.eq (g2 := F0 m 4 ls []) rfl ?_
  refine lv_aload_n hx hb dJxc12de_init_da8c8_4 rfl (lv_at hl 0 rfl) ?_
  refine lv_iconst (v := 0) hx hb dJxc12de_init_da8c8_5 (by decide) ?_
  refine k_put (ci := 2) (C := RJx4a65c) (T := TJx4a65c) (N := 3) (v := .int 0) (ws1 := [(h0, .inr (2, [.int 0, .null, .int 0]))]) hx hb hG inJx4a65c tyJx4a65c tyJx4a65c_ok nmJx4a65c hown hK hP hD hS 0 rfl rfl 0 (by decide) gw1209 rfl ⟨rfl, rfl⟩ rfl (Nat.le_of_ble_eq_true rfl) dJxc12de_init_da8c8_6 (fun H locs hP hD hS => ?_)
  exact e_v (fun _ => 0) hx hb hr hlocks rfl hP hD hS (Nat.le_of_ble_eq_true rfl) (Nat.le_of_ble_eq_true rfl) dJxc12de_init_da8c8_9
set_option maxHeartbeats 4000000 in
set_option maxRecDepth 100000 in
theorem c9_Jx4a65c_init_da8c8 (l : Launch) (hfl : l.stackTraces = false) (D : va_G) (cA : Nat → ClassId) (g : gv_T) (h0 : Nat) : CT l yJx4a65c_init_da8c8 cJx4a65c_init_da8c8 1 none (RM 3 0 0 64) D cA g [.ref h0] [(h0, .inr (2, [.int 0, .null, .int 0]))] (fun q => none) (fun q => [(h0, .inr (2, [.int 0, .ref g.1, .int 0]))]) := by
  refine CT.of (by decide +kernel) (Nat.le_of_ble_eq_true rfl) ?_
  intro p e s m args below meth c A ls hx hb hr hml hown hG hlocks hnm hA hS hP hK hD hGV hl
  have hown : s.vm.findClass RJx4a65c = some m.cls := hown
  have hl : lv_has ls 1 [(0, .ref h0)] := hl
  have hSF : CF p m c cJx4a65c_init_da8c8 1 s args RJx4a65c := ⟨hx, hb, hml, hown, hG⟩
  refine lv_aload_n hx hb dJx4a65c_init_da8c8_0 rfl (lv_at hl 0 rfl) ?_
  refine ct_I (wr := []) hSF hl.1 hP hD hS hA hK hGV (c8_Jxc12de_init_da8c8 l hfl D cA g h0) gw1198 gw1199 gw84 gw1200 rfl pd_Jxc12de_init_da8c8.2 ⟨(Nat.le_of_ble_eq_true rfl), (Nat.le_of_ble_eq_true rfl)⟩ ⟨(Nat.le_of_ble_eq_true rfl), (Nat.le_of_ble_eq_true rfl)⟩ dJx4a65c_init_da8c8_1 rfl (Nat.le_of_ble_eq_true rfl) [0] [] rfl (by decide) rfl (by decide) (by decide) (fun q => [(h0, .inr (2, [.int 0, .null, .int 0]))]) (fun _ => rfl) (fun q1 H locs hP hD hS => ?_)
  refine W.eq (g2 := F0 m 4 ls []) rfl ?_
  refine lv_aload_n hx hb dJx4a65c_init_da8c8_4 rfl (lv_at hl 0 rfl) ?_
  refine k_getsE hx hb hG hGV hS hown gw1205 dJx4a65c_init_da8c8_5 ?_
  refine k_put (ci := 2) (C := RJx4a65c) (T := TJx4a65c) (N := 3) (v := .ref g.1) (ws1 := [(h0, .inr (2, [.int 0, .ref g.1, .int 0]))]) hx hb hG inJx4a65c tyJx4a65c tyJx4a65c_ok nmJx4a65c hown hK hP hD hS 0 rfl rfl 1 (by decide) gw1207 rfl ⟨rfl, rfl⟩ rfl (Nat.le_of_ble_eq_true rfl) dJx4a65c_init_da8c8_8 (fun H locs hP hD hS => ?_)
  exact e_v (fun _ => 0) hx hb hr hlocks rfl hP hD hS (Nat.le_of_ble_eq_true rfl) (Nat.le_of_ble_eq_true rfl) dJx4a65c_init_da8c8_11
set_option maxHeartbeats 4000000 in
set_option maxRecDepth 100000 in
theorem c10_X12_init (l : Launch) (hfl : l.stackTraces = false) (D : va_G) (cA : Nat → ClassId) (g : gv_T) (h0 : Nat) : CT l yX12_init cX12_init 1 none (RM 4 18 3655 84) D cA g [.ref h0] [(h0, .inr (15, [.null, .null, .null, .null, .null, .null, .null, .null, .null, .null, .null, .null, .null, .null, .null, .null, .null, .null, .long 0, .int 0, .int 0, .int 0, .int 0, .int 0, .int 0, .int 0, .int 0]))] (fun q => none) (fun q => [(h0, .inr (15, [.ref (q 0), .ref (q 1), .ref (q 2), .ref (q 3), .ref (q 4), .ref (q 5), .ref (q 6), .ref (q 7), .ref (q 8), .ref (q 9), .ref (q 10), .ref (q 11), .ref (q 12), .ref (q 13), .ref (q 14), .ref (q 15), .ref (q 16), .ref (q 17), .long 0, .int 0, .int 2, .int 0, .int 0, .int 0, .int 0, .int 0, .int 0])), ((q 0), .inr (2, [.int 0, .ref g.1, .int 0])), ((q 1), .inr (2, [.int 0, .ref g.1, .int 0])), ((q 2), .inr (2, [.int 0, .ref g.1, .int 0])), ((q 3), .inr (2, [.int 0, .ref g.1, .int 0])), ((q 4), .inl (cA 1, 512, .inr (.inl (fun _ => 0)))), ((q 5), .inl (cA 1, 9, .inr (.inl (fun _ => 0)))), ((q 6), .inl (cA 1, 9, .inr (.inl (fun _ => 0)))), ((q 7), .inl (cA 3, 512, .inl (fun _ => 0))), ((q 8), .inl (cA 3, 512, .inl (fun _ => 0))), ((q 9), .inl (cA 0, 512, .inl (fun _ => 0))), ((q 10), .inl (cA 0, 9, .inl (fun _ => 0))), ((q 11), .inl (cA 0, 9, .inl (fun _ => 0))), ((q 12), .inl (cA 0, 9, .inl (fun _ => 0))), ((q 13), .inl (cA 0, 5, .inl (fun _ => 0))), ((q 14), .inl (cA 0, 9, .inl (fun _ => 0))), ((q 15), .inl (cA 0, 512, .inl (fun _ => 0))), ((q 16), .inl (cA 0, 512, .inl (fun _ => 0))), ((q 17), .inl (cA 0, 512, .inl (fun _ => 0)))]) := by
  refine CT.of (by decide +kernel) (Nat.le_of_ble_eq_true rfl) ?_
  intro p e s m args below meth c A ls hx hb hr hml hown hG hlocks hnm hA hS hP hK hD hGV hl
  have hown : s.vm.findClass RX12 = some m.cls := hown
  have hl : lv_has ls 1 [(0, .ref h0)] := hl
  have hSF : CF p m c cX12_init 1 s args RX12 := ⟨hx, hb, hml, hown, hG⟩
  refine lv_aload_n hx hb dX12_init_0 rfl (lv_at hl 0 rfl) ?_
  refine W.objInit hx hb hown (hG _ gw1192) (hG _ gw118) (hG _ gw119) rfl (hl.1.trans hml.symm) rfl dX12_init_1 (Nat.le_of_ble_eq_true rfl) (Nat.le_of_ble_eq_true rfl) ?_
  refine W.eq (g2 := F0 m 4 ls []) rfl ?_
  refine lv_aload_n hx hb dX12_init_4 rfl (lv_at hl 0 rfl) ?_
  refine k_new (ci := 2) (C := RJx4a65c) (T := TJx4a65c) (N := 3) hx hb hG inJx4a65c tyJx4a65c tyJx4a65c_ok hown gw1193 gw1194 gw85 hK hP hD hS hA rfl [.int 0, .null, .int 0] rfl (Nat.le_of_ble_eq_true rfl) (Nat.le_of_ble_eq_true rfl) dX12_init_5 (fun a1 H hP hD hS => ?_)
  have hP : va_P D vwCl [(h0, .inr (15, [.null, .null, .null, .null, .null, .null, .null, .null, .null, .null, .null, .null, .null, .null, .null, .null, .null, .null, .long 0, .int 0, .int 0, .int 0, .int 0, .int 0, .int 0, .int 0, .int 0])), (a1, .inr (2, [.int 0, .null, .int 0]))] H := hP
  have hD : va_D _ [(h0, .inr (15, [.null, .null, .null, .null, .null, .null, .null, .null, .null, .null, .null, .null, .null, .null, .null, .null, .null, .null, .long 0, .int 0, .int 0, .int 0, .int 0, .int 0, .int 0, .int 0, .int 0])), (a1, .inr (2, [.int 0, .null, .int 0]))] := hD
  refine lv_dup hx hb dX12_init_8 rfl ?_
  refine ct_I (wr := [(h0, .inr (15, [.null, .null, .null, .null, .null, .null, .null, .null, .null, .null, .null, .null, .null, .null, .null, .null, .null, .null, .long 0, .int 0, .int 0, .int 0, .int 0, .int 0, .int 0, .int 0, .int 0]))]) hSF hl.1 hP hD hS hA hK hGV (c9_Jx4a65c_init_da8c8 l hfl D cA g a1) gw1195 gw1196 gw85 gw1197 rfl pd_Jx4a65c_init_da8c8.2 ⟨(Nat.le_of_ble_eq_true rfl), (Nat.le_of_ble_eq_true rfl)⟩ ⟨(Nat.le_of_ble_eq_true rfl), (Nat.le_of_ble_eq_true rfl)⟩ dX12_init_9 rfl (Nat.le_of_ble_eq_true rfl) [1] [0] rfl (by decide) rfl (by decide) (by decide) (fun q => [(h0, .inr (15, [.null, .null, .null, .null, .null, .null, .null, .null, .null, .null, .null, .null, .null, .null, .null, .null, .null, .null, .long 0, .int 0, .int 0, .int 0, .int 0, .int 0, .int 0, .int 0, .int 0])), (a1, .inr (2, [.int 0, .ref g.1, .int 0]))]) (fun _ => rfl) (fun q1 H locs hP hD hS => ?_)
  refine W.eq (g2 := F0 m 12 ls [.ref a1, .ref h0]) rfl ?_
  refine k_putF (ci := 15) (C := RX12) (T := TX12) (N := 27) (v := .ref a1) (ws1 := [(h0, .inr (15, [.ref a1, .null, .null, .null, .null, .null, .null, .null, .null, .null, .null, .null, .null, .null, .null, .null, .null, .null, .long 0, .int 0, .int 0, .int 0, .int 0, .int 0, .int 0, .int 0, .int 0])), (a1, .inr (2, [.int 0, .ref g.1, .int 0]))]) hx hb hG inX12 tyX12 tyX12_ok nmX12 hown hK hP hD hS 0 rfl rfl 0 (by decide) gw1219 rfl hnm rfl ⟨rfl, rfl⟩ rfl (Nat.le_of_ble_eq_true rfl) dX12_init_12 (fun H locs hP hD hS => ?_)
  refine lv_aload_n hx hb dX12_init_15 rfl (lv_at hl 0 rfl) ?_
  refine k_new (ci := 2) (C := RJx4a65c) (T := TJx4a65c) (N := 3) hx hb hG inJx4a65c tyJx4a65c tyJx4a65c_ok hown gw1193 gw1194 gw85 hK hP hD hS hA rfl [.int 0, .null, .int 0] rfl (Nat.le_of_ble_eq_true rfl) (Nat.le_of_ble_eq_true rfl) dX12_init_16 (fun a2 H hP hD hS => ?_)
  have hP : va_P D vwCl [(h0, .inr (15, [.ref a1, .null, .null, .null, .null, .null, .null, .null, .null, .null, .null, .null, .null, .null, .null, .null, .null, .null, .long 0, .int 0, .int 0, .int 0, .int 0, .int 0, .int 0, .int 0, .int 0])), (a1, .inr (2, [.int 0, .ref g.1, .int 0])), (a2, .inr (2, [.int 0, .null, .int 0]))] H := hP
  have hD : va_D _ [(h0, .inr (15, [.ref a1, .null, .null, .null, .null, .null, .null, .null, .null, .null, .null, .null, .null, .null, .null, .null, .null, .null, .long 0, .int 0, .int 0, .int 0, .int 0, .int 0, .int 0, .int 0, .int 0])), (a1, .inr (2, [.int 0, .ref g.1, .int 0])), (a2, .inr (2, [.int 0, .null, .int 0]))] := hD
  refine lv_dup hx hb dX12_init_19 rfl ?_
  refine ct_I (wr := [(h0, .inr (15, [.ref a1, .null, .null, .null, .null, .null, .null, .null, .null, .null, .null, .null, .null, .null, .null, .null, .null, .null, .long 0, .int 0, .int 0, .int 0, .int 0, .int 0, .int 0, .int 0, .int 0])), (a1, .inr (2, [.int 0, .ref g.1, .int 0]))]) hSF hl.1 hP hD hS hA hK hGV (c9_Jx4a65c_init_da8c8 l hfl D cA g a2) gw1195 gw1196 gw85 gw1197 rfl pd_Jx4a65c_init_da8c8.2 ⟨(Nat.le_of_ble_eq_true rfl), (Nat.le_of_ble_eq_true rfl)⟩ ⟨(Nat.le_of_ble_eq_true rfl), (Nat.le_of_ble_eq_true rfl)⟩ dX12_init_20 rfl (Nat.le_of_ble_eq_true rfl) [2] [0, 1] rfl (by decide) rfl (by decide) (by decide) (fun q => [(h0, .inr (15, [.ref a1, .null, .null, .null, .null, .null, .null, .null, .null, .null, .null, .null, .null, .null, .null, .null, .null, .null, .long 0, .int 0, .int 0, .int 0, .int 0, .int 0, .int 0, .int 0, .int 0])), (a1, .inr (2, [.int 0, .ref g.1, .int 0])), (a2, .inr (2, [.int 0, .ref g.1, .int 0]))]) (fun _ => rfl) (fun q2 H locs hP hD hS => ?_)
  refine W.eq (g2 := F0 m 23 ls [.ref a2, .ref h0]) rfl ?_
  refine k_putF (ci := 15) (C := RX12) (T := TX12) (N := 27) (v := .ref a2) (ws1 := [(h0, .inr (15, [.ref a1, .ref a2, .null, .null, .null, .null, .null, .null, .null, .null, .null, .null, .null, .null, .null, .null, .null, .null, .long 0, .int 0, .int 0, .int 0, .int 0, .int 0, .int 0, .int 0, .int 0])), (a1, .inr (2, [.int 0, .ref g.1, .int 0])), (a2, .inr (2, [.int 0, .ref g.1, .int 0]))]) hx hb hG inX12 tyX12 tyX12_ok nmX12 hown hK hP hD hS 0 rfl rfl 1 (by decide) gw1220 rfl hnm rfl ⟨rfl, rfl⟩ rfl (Nat.le_of_ble_eq_true rfl) dX12_init_23 (fun H locs hP hD hS => ?_)
  refine lv_aload_n hx hb dX12_init_26 rfl (lv_at hl 0 rfl) ?_
  refine k_new (ci := 2) (C := RJx4a65c) (T := TJx4a65c) (N := 3) hx hb hG inJx4a65c tyJx4a65c tyJx4a65c_ok hown gw1193 gw1194 gw85 hK hP hD hS hA rfl [.int 0, .null, .int 0] rfl (Nat.le_of_ble_eq_true rfl) (Nat.le_of_ble_eq_true rfl) dX12_init_27 (fun a3 H hP hD hS => ?_)
  have hP : va_P D vwCl [(h0, .inr (15, [.ref a1, .ref a2, .null, .null, .null, .null, .null, .null, .null, .null, .null, .null, .null, .null, .null, .null, .null, .null, .long 0, .int 0, .int 0, .int 0, .int 0, .int 0, .int 0, .int 0, .int 0])), (a1, .inr (2, [.int 0, .ref g.1, .int 0])), (a2, .inr (2, [.int 0, .ref g.1, .int 0])), (a3, .inr (2, [.int 0, .null, .int 0]))] H := hP
  have hD : va_D _ [(h0, .inr (15, [.ref a1, .ref a2, .null, .null, .null, .null, .null, .null, .null, .null, .null, .null, .null, .null, .null, .null, .null, .null, .long 0, .int 0, .int 0, .int 0, .int 0, .int 0, .int 0, .int 0, .int 0])), (a1, .inr (2, [.int 0, .ref g.1, .int 0])), (a2, .inr (2, [.int 0, .ref g.1, .int 0])), (a3, .inr (2, [.int 0, .null, .int 0]))] := hD
  refine lv_dup hx hb dX12_init_30 rfl ?_
  refine ct_I (wr := [(h0, .inr (15, [.ref a1, .ref a2, .null, .null, .null, .null, .null, .null, .null, .null, .null, .null, .null, .null, .null, .null, .null, .null, .long 0, .int 0, .int 0, .int 0, .int 0, .int 0, .int 0, .int 0, .int 0])), (a1, .inr (2, [.int 0, .ref g.1, .int 0])), (a2, .inr (2, [.int 0, .ref g.1, .int 0]))]) hSF hl.1 hP hD hS hA hK hGV (c9_Jx4a65c_init_da8c8 l hfl D cA g a3) gw1195 gw1196 gw85 gw1197 rfl pd_Jx4a65c_init_da8c8.2 ⟨(Nat.le_of_ble_eq_true rfl), (Nat.le_of_ble_eq_true rfl)⟩ ⟨(Nat.le_of_ble_eq_true rfl), (Nat.le_of_ble_eq_true rfl)⟩ dX12_init_31 rfl (Nat.le_of_ble_eq_true rfl) [3] [0, 1, 2] rfl (by decide) rfl (by decide) (by decide) (fun q => [(h0, .inr (15, [.ref a1, .ref a2, .null, .null, .null, .null, .null, .null, .null, .null, .null, .null, .null, .null, .null, .null, .null, .null, .long 0, .int 0, .int 0, .int 0, .int 0, .int 0, .int 0, .int 0, .int 0])), (a1, .inr (2, [.int 0, .ref g.1, .int 0])), (a2, .inr (2, [.int 0, .ref g.1, .int 0])), (a3, .inr (2, [.int 0, .ref g.1, .int 0]))]) (fun _ => rfl) (fun q3 H locs hP hD hS => ?_)
  refine W.eq (g2 := F0 m 34 ls [.ref a3, .ref h0]) rfl ?_
  refine k_putF (ci := 15) (C := RX12) (T := TX12) (N := 27) (v := .ref a3) (ws1 := [(h0, .inr (15, [.ref a1, .ref a2, .ref a3, .null, .null, .null, .null, .null, .null, .null, .null, .null, .null, .null, .null, .null, .null, .null, .long 0, .int 0, .int 0, .int 0, .int 0, .int 0, .int 0, .int 0, .int 0])), (a1, .inr (2, [.int 0, .ref g.1, .int 0])), (a2, .inr (2, [.int 0, .ref g.1, .int 0])), (a3, .inr (2, [.int 0, .ref g.1, .int 0]))]) hx hb hG inX12 tyX12 tyX12_ok nmX12 hown hK hP hD hS 0 rfl rfl 2 (by decide) gw1221 rfl hnm rfl ⟨rfl, rfl⟩ rfl (Nat.le_of_ble_eq_true rfl) dX12_init_34 (fun H locs hP hD hS => ?_)
  refine lv_aload_n hx hb dX12_init_37 rfl (lv_at hl 0 rfl) ?_
  refine k_new (ci := 2) (C := RJx4a65c) (T := TJx4a65c) (N := 3) hx hb hG inJx4a65c tyJx4a65c tyJx4a65c_ok hown gw1193 gw1194 gw85 hK hP hD hS hA rfl [.int 0, .null, .int 0] rfl (Nat.le_of_ble_eq_true rfl) (Nat.le_of_ble_eq_true rfl) dX12_init_38 (fun a4 H hP hD hS => ?_)
  have hP : va_P D vwCl [(h0, .inr (15, [.ref a1, .ref a2, .ref a3, .null, .null, .null, .null, .null, .null, .null, .null, .null, .null, .null, .null, .null, .null, .null, .long 0, .int 0, .int 0, .int 0, .int 0, .int 0, .int 0, .int 0, .int 0])), (a1, .inr (2, [.int 0, .ref g.1, .int 0])), (a2, .inr (2, [.int 0, .ref g.1, .int 0])), (a3, .inr (2, [.int 0, .ref g.1, .int 0])), (a4, .inr (2, [.int 0, .null, .int 0]))] H := hP
  have hD : va_D _ [(h0, .inr (15, [.ref a1, .ref a2, .ref a3, .null, .null, .null, .null, .null, .null, .null, .null, .null, .null, .null, .null, .null, .null, .null, .long 0, .int 0, .int 0, .int 0, .int 0, .int 0, .int 0, .int 0, .int 0])), (a1, .inr (2, [.int 0, .ref g.1, .int 0])), (a2, .inr (2, [.int 0, .ref g.1, .int 0])), (a3, .inr (2, [.int 0, .ref g.1, .int 0])), (a4, .inr (2, [.int 0, .null, .int 0]))] := hD
  refine lv_dup hx hb dX12_init_41 rfl ?_
  refine ct_I (wr := [(h0, .inr (15, [.ref a1, .ref a2, .ref a3, .null, .null, .null, .null, .null, .null, .null, .null, .null, .null, .null, .null, .null, .null, .null, .long 0, .int 0, .int 0, .int 0, .int 0, .int 0, .int 0, .int 0, .int 0])), (a1, .inr (2, [.int 0, .ref g.1, .int 0])), (a2, .inr (2, [.int 0, .ref g.1, .int 0])), (a3, .inr (2, [.int 0, .ref g.1, .int 0]))]) hSF hl.1 hP hD hS hA hK hGV (c9_Jx4a65c_init_da8c8 l hfl D cA g a4) gw1195 gw1196 gw85 gw1197 rfl pd_Jx4a65c_init_da8c8.2 ⟨(Nat.le_of_ble_eq_true rfl), (Nat.le_of_ble_eq_true rfl)⟩ ⟨(Nat.le_of_ble_eq_true rfl), (Nat.le_of_ble_eq_true rfl)⟩ dX12_init_42 rfl (Nat.le_of_ble_eq_true rfl) [4] [0, 1, 2, 3] rfl (by decide) rfl (by decide) (by decide) (fun q => [(h0, .inr (15, [.ref a1, .ref a2, .ref a3, .null, .null, .null, .null, .null, .null, .null, .null, .null, .null, .null, .null, .null, .null, .null, .long 0, .int 0, .int 0, .int 0, .int 0, .int 0, .int 0, .int 0, .int 0])), (a1, .inr (2, [.int 0, .ref g.1, .int 0])), (a2, .inr (2, [.int 0, .ref g.1, .int 0])), (a3, .inr (2, [.int 0, .ref g.1, .int 0])), (a4, .inr (2, [.int 0, .ref g.1, .int 0]))]) (fun _ => rfl) (fun q4 H locs hP hD hS => ?_)
  refine W.eq (g2 := F0 m 45 ls [.ref a4, .ref h0]) rfl ?_
  refine k_putF (ci := 15) (C := RX12) (T := TX12) (N := 27) (v := .ref a4) (ws1 := [(h0, .inr (15, [.ref a1, .ref a2, .ref a3, .ref a4, .null, .null, .null, .null, .null, .null, .null, .null, .null, .null, .null, .null, .null, .null, .long 0, .int 0, .int 0, .int 0, .int 0, .int 0, .int 0, .int 0, .int 0])), (a1, .inr (2, [.int 0, .ref g.1, .int 0])), (a2, .inr (2, [.int 0, .ref g.1, .int 0])), (a3, .inr (2, [.int 0, .ref g.1, .int 0])), (a4, .inr (2, [.int 0, .ref g.1, .int 0]))]) hx hb hG inX12 tyX12 tyX12_ok nmX12 hown hK hP hD hS 0 rfl rfl 3 (by decide) gw1222 rfl hnm rfl ⟨rfl, rfl⟩ rfl (Nat.le_of_ble_eq_true rfl) dX12_init_45 (fun H locs hP hD hS => ?_)
  refine lv_aload_n hx hb dX12_init_48 rfl (lv_at hl 0 rfl) ?_
  refine lv_sipush (v := 512) hx hb dX12_init_49 (by decide) ?_
  refine k_newa_long hx hb hG gw196 hK hP hD hS hA 512 (by decide) (by decide) (Nat.le_of_ble_eq_true rfl) (Nat.le_of_ble_eq_true rfl) (Nat.le_of_ble_eq_true rfl) dX12_init_52 (fun a5 H hP hD hS => ?_)
  have hP : va_P D vwCl [(h0, .inr (15, [.ref a1, .ref a2, .ref a3, .ref a4, .null, .null, .null, .null, .null, .null, .null, .null, .null, .null, .null, .null, .null, .null, .long 0, .int 0, .int 0, .int 0, .int 0, .int 0, .int 0, .int 0, .int 0])), (a1, .inr (2, [.int 0, .ref g.1, .int 0])), (a2, .inr (2, [.int 0, .ref g.1, .int 0])), (a3, .inr (2, [.int 0, .ref g.1, .int 0])), (a4, .inr (2, [.int 0, .ref g.1, .int 0])), (a5, .inl (cA 1, 512, .inr (.inl (fun _ => 0))))] H := hP
  have hD : va_D _ [(h0, .inr (15, [.ref a1, .ref a2, .ref a3, .ref a4, .null, .null, .null, .null, .null, .null, .null, .null, .null, .null, .null, .null, .null, .null, .long 0, .int 0, .int 0, .int 0, .int 0, .int 0, .int 0, .int 0, .int 0])), (a1, .inr (2, [.int 0, .ref g.1, .int 0])), (a2, .inr (2, [.int 0, .ref g.1, .int 0])), (a3, .inr (2, [.int 0, .ref g.1, .int 0])), (a4, .inr (2, [.int 0, .ref g.1, .int 0])), (a5, .inl (cA 1, 512, .inr (.inl (fun _ => 0))))] := hD
  refine k_putF (ci := 15) (C := RX12) (T := TX12) (N := 27) (v := .ref a5) (ws1 := [(h0, .inr (15, [.ref a1, .ref a2, .ref a3, .ref a4, .ref a5, .null, .null, .null, .null, .null, .null, .null, .null, .null, .null, .null, .null, .null, .long 0, .int 0, .int 0, .int 0, .int 0, .int 0, .int 0, .int 0, .int 0])), (a1, .inr (2, [.int 0, .ref g.1, .int 0])), (a2, .inr (2, [.int 0, .ref g.1, .int 0])), (a3, .inr (2, [.int 0, .ref g.1, .int 0])), (a4, .inr (2, [.int 0, .ref g.1, .int 0])), (a5, .inl (cA 1, 512, .inr (.inl (fun _ => 0))))]) hx hb hG inX12 tyX12 tyX12_ok nmX12 hown hK hP hD hS 0 rfl rfl 4 (by decide) gw1223 rfl hnm rfl ⟨rfl, rfl⟩ rfl (Nat.le_of_ble_eq_true rfl) dX12_init_54 (fun H locs hP hD hS => ?_)
  refine lv_aload_n hx hb dX12_init_57 rfl (lv_at hl 0 rfl) ?_
  refine lv_bipush (v := 9) hx hb dX12_init_58 (by decide) ?_
  refine k_newa_long hx hb hG gw196 hK hP hD hS hA 9 (by decide) (by decide) (Nat.le_of_ble_eq_true rfl) (Nat.le_of_ble_eq_true rfl) (Nat.le_of_ble_eq_true rfl) dX12_init_60 (fun a6 H hP hD hS => ?_)
  have hP : va_P D vwCl [(h0, .inr (15, [.ref a1, .ref a2, .ref a3, .ref a4, .ref a5, .null, .null, .null, .null, .null, .null, .null, .null, .null, .null, .null, .null, .null, .long 0, .int 0, .int 0, .int 0, .int 0, .int 0, .int 0, .int 0, .int 0])), (a1, .inr (2, [.int 0, .ref g.1, .int 0])), (a2, .inr (2, [.int 0, .ref g.1, .int 0])), (a3, .inr (2, [.int 0, .ref g.1, .int 0])), (a4, .inr (2, [.int 0, .ref g.1, .int 0])), (a5, .inl (cA 1, 512, .inr (.inl (fun _ => 0)))), (a6, .inl (cA 1, 9, .inr (.inl (fun _ => 0))))] H := hP
  have hD : va_D _ [(h0, .inr (15, [.ref a1, .ref a2, .ref a3, .ref a4, .ref a5, .null, .null, .null, .null, .null, .null, .null, .null, .null, .null, .null, .null, .null, .long 0, .int 0, .int 0, .int 0, .int 0, .int 0, .int 0, .int 0, .int 0])), (a1, .inr (2, [.int 0, .ref g.1, .int 0])), (a2, .inr (2, [.int 0, .ref g.1, .int 0])), (a3, .inr (2, [.int 0, .ref g.1, .int 0])), (a4, .inr (2, [.int 0, .ref g.1, .int 0])), (a5, .inl (cA 1, 512, .inr (.inl (fun _ => 0)))), (a6, .inl (cA 1, 9, .inr (.inl (fun _ => 0))))] := hD
  refine k_putF (ci := 15) (C := RX12) (T := TX12) (N := 27) (v := .ref a6) (ws1 := [(h0, .inr (15, [.ref a1, .ref a2, .ref a3, .ref a4, .ref a5, .ref a6, .null, .null, .null, .null, .null, .null, .null, .null, .null, .null, .null, .null, .long 0, .int 0, .int 0, .int 0, .int 0, .int 0, .int 0, .int 0, .int 0])), (a1, .inr (2, [.int 0, .ref g.1, .int 0])), (a2, .inr (2, [.int 0, .ref g.1, .int 0])), (a3, .inr (2, [.int 0, .ref g.1, .int 0])), (a4, .inr (2, [.int 0, .ref g.1, .int 0])), (a5, .inl (cA 1, 512, .inr (.inl (fun _ => 0)))), (a6, .inl (cA 1, 9, .inr (.inl (fun _ => 0))))]) hx hb hG inX12 tyX12 tyX12_ok nmX12 hown hK hP hD hS 0 rfl rfl 5 (by decide) gw1224 rfl hnm rfl ⟨rfl, rfl⟩ rfl (Nat.le_of_ble_eq_true rfl) dX12_init_62 (fun H locs hP hD hS => ?_)
  refine lv_aload_n hx hb dX12_init_65 rfl (lv_at hl 0 rfl) ?_
  refine lv_bipush (v := 9) hx hb dX12_init_66 (by decide) ?_
  refine k_newa_long hx hb hG gw196 hK hP hD hS hA 9 (by decide) (by decide) (Nat.le_of_ble_eq_true rfl) (Nat.le_of_ble_eq_true rfl) (Nat.le_of_ble_eq_true rfl) dX12_init_68 (fun a7 H hP hD hS => ?_)
  have hP : va_P D vwCl [(h0, .inr (15, [.ref a1, .ref a2, .ref a3, .ref a4, .ref a5, .ref a6, .null, .null, .null, .null, .null, .null, .null, .null, .null, .null, .null, .null, .long 0, .int 0, .int 0, .int 0, .int 0, .int 0, .int 0, .int 0, .int 0])), (a1, .inr (2, [.int 0, .ref g.1, .int 0])), (a2, .inr (2, [.int 0, .ref g.1, .int 0])), (a3, .inr (2, [.int 0, .ref g.1, .int 0])), (a4, .inr (2, [.int 0, .ref g.1, .int 0])), (a5, .inl (cA 1, 512, .inr (.inl (fun _ => 0)))), (a6, .inl (cA 1, 9, .inr (.inl (fun _ => 0)))), (a7, .inl (cA 1, 9, .inr (.inl (fun _ => 0))))] H := hP
  have hD : va_D _ [(h0, .inr (15, [.ref a1, .ref a2, .ref a3, .ref a4, .ref a5, .ref a6, .null, .null, .null, .null, .null, .null, .null, .null, .null, .null, .null, .null, .long 0, .int 0, .int 0, .int 0, .int 0, .int 0, .int 0, .int 0, .int 0])), (a1, .inr (2, [.int 0, .ref g.1, .int 0])), (a2, .inr (2, [.int 0, .ref g.1, .int 0])), (a3, .inr (2, [.int 0, .ref g.1, .int 0])), (a4, .inr (2, [.int 0, .ref g.1, .int 0])), (a5, .inl (cA 1, 512, .inr (.inl (fun _ => 0)))), (a6, .inl (cA 1, 9, .inr (.inl (fun _ => 0)))), (a7, .inl (cA 1, 9, .inr (.inl (fun _ => 0))))] := hD
  refine k_putF (ci := 15) (C := RX12) (T := TX12) (N := 27) (v := .ref a7) (ws1 := [(h0, .inr (15, [.ref a1, .ref a2, .ref a3, .ref a4, .ref a5, .ref a6, .ref a7, .null, .null, .null, .null, .null, .null, .null, .null, .null, .null, .null, .long 0, .int 0, .int 0, .int 0, .int 0, .int 0, .int 0, .int 0, .int 0])), (a1, .inr (2, [.int 0, .ref g.1, .int 0])), (a2, .inr (2, [.int 0, .ref g.1, .int 0])), (a3, .inr (2, [.int 0, .ref g.1, .int 0])), (a4, .inr (2, [.int 0, .ref g.1, .int 0])), (a5, .inl (cA 1, 512, .inr (.inl (fun _ => 0)))), (a6, .inl (cA 1, 9, .inr (.inl (fun _ => 0)))), (a7, .inl (cA 1, 9, .inr (.inl (fun _ => 0))))]) hx hb hG inX12 tyX12 tyX12_ok nmX12 hown hK hP hD hS 0 rfl rfl 6 (by decide) gw1225 rfl hnm rfl ⟨rfl, rfl⟩ rfl (Nat.le_of_ble_eq_true rfl) dX12_init_70 (fun H locs hP hD hS => ?_)
  refine lv_aload_n hx hb dX12_init_73 rfl (lv_at hl 0 rfl) ?_
  refine lv_sipush (v := 512) hx hb dX12_init_74 (by decide) ?_
  refine k_newa_boolean hx hb hG gw362 hK hP hD hS hA 512 (by decide) (by decide) (Nat.le_of_ble_eq_true rfl) (Nat.le_of_ble_eq_true rfl) (Nat.le_of_ble_eq_true rfl) dX12_init_77 (fun a8 H hP hD hS => ?_)
  have hP : va_P D vwCl [(h0, .inr (15, [.ref a1, .ref a2, .ref a3, .ref a4, .ref a5, .ref a6, .ref a7, .null, .null, .null, .null, .null, .null, .null, .null, .null, .null, .null, .long 0, .int 0, .int 0, .int 0, .int 0, .int 0, .int 0, .int 0, .int 0])), (a1, .inr (2, [.int 0, .ref g.1, .int 0])), (a2, .inr (2, [.int 0, .ref g.1, .int 0])), (a3, .inr (2, [.int 0, .ref g.1, .int 0])), (a4, .inr (2, [.int 0, .ref g.1, .int 0])), (a5, .inl (cA 1, 512, .inr (.inl (fun _ => 0)))), (a6, .inl (cA 1, 9, .inr (.inl (fun _ => 0)))), (a7, .inl (cA 1, 9, .inr (.inl (fun _ => 0)))), (a8, .inl (cA 3, 512, .inl (fun _ => 0)))] H := hP
  have hD : va_D _ [(h0, .inr (15, [.ref a1, .ref a2, .ref a3, .ref a4, .ref a5, .ref a6, .ref a7, .null, .null, .null, .null, .null, .null, .null, .null, .null, .null, .null, .long 0, .int 0, .int 0, .int 0, .int 0, .int 0, .int 0, .int 0, .int 0])), (a1, .inr (2, [.int 0, .ref g.1, .int 0])), (a2, .inr (2, [.int 0, .ref g.1, .int 0])), (a3, .inr (2, [.int 0, .ref g.1, .int 0])), (a4, .inr (2, [.int 0, .ref g.1, .int 0])), (a5, .inl (cA 1, 512, .inr (.inl (fun _ => 0)))), (a6, .inl (cA 1, 9, .inr (.inl (fun _ => 0)))), (a7, .inl (cA 1, 9, .inr (.inl (fun _ => 0)))), (a8, .inl (cA 3, 512, .inl (fun _ => 0)))] := hD
  refine k_putF (ci := 15) (C := RX12) (T := TX12) (N := 27) (v := .ref a8) (ws1 := [(h0, .inr (15, [.ref a1, .ref a2, .ref a3, .ref a4, .ref a5, .ref a6, .ref a7, .ref a8, .null, .null, .null, .null, .null, .null, .null, .null, .null, .null, .long 0, .int 0, .int 0, .int 0, .int 0, .int 0, .int 0, .int 0, .int 0])), (a1, .inr (2, [.int 0, .ref g.1, .int 0])), (a2, .inr (2, [.int 0, .ref g.1, .int 0])), (a3, .inr (2, [.int 0, .ref g.1, .int 0])), (a4, .inr (2, [.int 0, .ref g.1, .int 0])), (a5, .inl (cA 1, 512, .inr (.inl (fun _ => 0)))), (a6, .inl (cA 1, 9, .inr (.inl (fun _ => 0)))), (a7, .inl (cA 1, 9, .inr (.inl (fun _ => 0)))), (a8, .inl (cA 3, 512, .inl (fun _ => 0)))]) hx hb hG inX12 tyX12 tyX12_ok nmX12 hown hK hP hD hS 0 rfl rfl 7 (by decide) gw1226 rfl hnm rfl ⟨rfl, rfl⟩ rfl (Nat.le_of_ble_eq_true rfl) dX12_init_79 (fun H locs hP hD hS => ?_)
  refine lv_aload_n hx hb dX12_init_82 rfl (lv_at hl 0 rfl) ?_
  refine lv_sipush (v := 512) hx hb dX12_init_83 (by decide) ?_
  refine k_newa_boolean hx hb hG gw362 hK hP hD hS hA 512 (by decide) (by decide) (Nat.le_of_ble_eq_true rfl) (Nat.le_of_ble_eq_true rfl) (Nat.le_of_ble_eq_true rfl) dX12_init_86 (fun a9 H hP hD hS => ?_)
  have hP : va_P D vwCl [(h0, .inr (15, [.ref a1, .ref a2, .ref a3, .ref a4, .ref a5, .ref a6, .ref a7, .ref a8, .null, .null, .null, .null, .null, .null, .null, .null, .null, .null, .long 0, .int 0, .int 0, .int 0, .int 0, .int 0, .int 0, .int 0, .int 0])), (a1, .inr (2, [.int 0, .ref g.1, .int 0])), (a2, .inr (2, [.int 0, .ref g.1, .int 0])), (a3, .inr (2, [.int 0, .ref g.1, .int 0])), (a4, .inr (2, [.int 0, .ref g.1, .int 0])), (a5, .inl (cA 1, 512, .inr (.inl (fun _ => 0)))), (a6, .inl (cA 1, 9, .inr (.inl (fun _ => 0)))), (a7, .inl (cA 1, 9, .inr (.inl (fun _ => 0)))), (a8, .inl (cA 3, 512, .inl (fun _ => 0))), (a9, .inl (cA 3, 512, .inl (fun _ => 0)))] H := hP
  have hD : va_D _ [(h0, .inr (15, [.ref a1, .ref a2, .ref a3, .ref a4, .ref a5, .ref a6, .ref a7, .ref a8, .null, .null, .null, .null, .null, .null, .null, .null, .null, .null, .long 0, .int 0, .int 0, .int 0, .int 0, .int 0, .int 0, .int 0, .int 0])), (a1, .inr (2, [.int 0, .ref g.1, .int 0])), (a2, .inr (2, [.int 0, .ref g.1, .int 0])), (a3, .inr (2, [.int 0, .ref g.1, .int 0])), (a4, .inr (2, [.int 0, .ref g.1, .int 0])), (a5, .inl (cA 1, 512, .inr (.inl (fun _ => 0)))), (a6, .inl (cA 1, 9, .inr (.inl (fun _ => 0)))), (a7, .inl (cA 1, 9, .inr (.inl (fun _ => 0)))), (a8, .inl (cA 3, 512, .inl (fun _ => 0))), (a9, .inl (cA 3, 512, .inl (fun _ => 0)))] := hD
  refine k_putF (ci := 15) (C := RX12) (T := TX12) (N := 27) (v := .ref a9) (ws1 := [(h0, .inr (15, [.ref a1, .ref a2, .ref a3, .ref a4, .ref a5, .ref a6, .ref a7, .ref a8, .ref a9, .null, .null, .null, .null, .null, .null, .null, .null, .null, .long 0, .int 0, .int 0, .int 0, .int 0, .int 0, .int 0, .int 0, .int 0])), (a1, .inr (2, [.int 0, .ref g.1, .int 0])), (a2, .inr (2, [.int 0, .ref g.1, .int 0])), (a3, .inr (2, [.int 0, .ref g.1, .int 0])), (a4, .inr (2, [.int 0, .ref g.1, .int 0])), (a5, .inl (cA 1, 512, .inr (.inl (fun _ => 0)))), (a6, .inl (cA 1, 9, .inr (.inl (fun _ => 0)))), (a7, .inl (cA 1, 9, .inr (.inl (fun _ => 0)))), (a8, .inl (cA 3, 512, .inl (fun _ => 0))), (a9, .inl (cA 3, 512, .inl (fun _ => 0)))]) hx hb hG inX12 tyX12 tyX12_ok nmX12 hown hK hP hD hS 0 rfl rfl 8 (by decide) gw1227 rfl hnm rfl ⟨rfl, rfl⟩ rfl (Nat.le_of_ble_eq_true rfl) dX12_init_88 (fun H locs hP hD hS => ?_)
  refine lv_aload_n hx hb dX12_init_91 rfl (lv_at hl 0 rfl) ?_
  refine lv_sipush (v := 512) hx hb dX12_init_92 (by decide) ?_
  refine k_newa_int hx hb hG gw178 hK hP hD hS hA 512 (by decide) (by decide) (Nat.le_of_ble_eq_true rfl) (Nat.le_of_ble_eq_true rfl) (Nat.le_of_ble_eq_true rfl) dX12_init_95 (fun a10 H hP hD hS => ?_)
  have hP : va_P D vwCl [(h0, .inr (15, [.ref a1, .ref a2, .ref a3, .ref a4, .ref a5, .ref a6, .ref a7, .ref a8, .ref a9, .null, .null, .null, .null, .null, .null, .null, .null, .null, .long 0, .int 0, .int 0, .int 0, .int 0, .int 0, .int 0, .int 0, .int 0])), (a1, .inr (2, [.int 0, .ref g.1, .int 0])), (a2, .inr (2, [.int 0, .ref g.1, .int 0])), (a3, .inr (2, [.int 0, .ref g.1, .int 0])), (a4, .inr (2, [.int 0, .ref g.1, .int 0])), (a5, .inl (cA 1, 512, .inr (.inl (fun _ => 0)))), (a6, .inl (cA 1, 9, .inr (.inl (fun _ => 0)))), (a7, .inl (cA 1, 9, .inr (.inl (fun _ => 0)))), (a8, .inl (cA 3, 512, .inl (fun _ => 0))), (a9, .inl (cA 3, 512, .inl (fun _ => 0))), (a10, .inl (cA 0, 512, .inl (fun _ => 0)))] H := hP
  have hD : va_D _ [(h0, .inr (15, [.ref a1, .ref a2, .ref a3, .ref a4, .ref a5, .ref a6, .ref a7, .ref a8, .ref a9, .null, .null, .null, .null, .null, .null, .null, .null, .null, .long 0, .int 0, .int 0, .int 0, .int 0, .int 0, .int 0, .int 0, .int 0])), (a1, .inr (2, [.int 0, .ref g.1, .int 0])), (a2, .inr (2, [.int 0, .ref g.1, .int 0])), (a3, .inr (2, [.int 0, .ref g.1, .int 0])), (a4, .inr (2, [.int 0, .ref g.1, .int 0])), (a5, .inl (cA 1, 512, .inr (.inl (fun _ => 0)))), (a6, .inl (cA 1, 9, .inr (.inl (fun _ => 0)))), (a7, .inl (cA 1, 9, .inr (.inl (fun _ => 0)))), (a8, .inl (cA 3, 512, .inl (fun _ => 0))), (a9, .inl (cA 3, 512, .inl (fun _ => 0))), (a10, .inl (cA 0, 512, .inl (fun _ => 0)))] := hD
  refine k_putF (ci := 15) (C := RX12) (T := TX12) (N := 27) (v := .ref a10) (ws1 := [(h0, .inr (15, [.ref a1, .ref a2, .ref a3, .ref a4, .ref a5, .ref a6, .ref a7, .ref a8, .ref a9, .ref a10, .null, .null, .null, .null, .null, .null, .null, .null, .long 0, .int 0, .int 0, .int 0, .int 0, .int 0, .int 0, .int 0, .int 0])), (a1, .inr (2, [.int 0, .ref g.1, .int 0])), (a2, .inr (2, [.int 0, .ref g.1, .int 0])), (a3, .inr (2, [.int 0, .ref g.1, .int 0])), (a4, .inr (2, [.int 0, .ref g.1, .int 0])), (a5, .inl (cA 1, 512, .inr (.inl (fun _ => 0)))), (a6, .inl (cA 1, 9, .inr (.inl (fun _ => 0)))), (a7, .inl (cA 1, 9, .inr (.inl (fun _ => 0)))), (a8, .inl (cA 3, 512, .inl (fun _ => 0))), (a9, .inl (cA 3, 512, .inl (fun _ => 0))), (a10, .inl (cA 0, 512, .inl (fun _ => 0)))]) hx hb hG inX12 tyX12 tyX12_ok nmX12 hown hK hP hD hS 0 rfl rfl 9 (by decide) gw1228 rfl hnm rfl ⟨rfl, rfl⟩ rfl (Nat.le_of_ble_eq_true rfl) dX12_init_97 (fun H locs hP hD hS => ?_)
  refine lv_aload_n hx hb dX12_init_100 rfl (lv_at hl 0 rfl) ?_
  refine lv_bipush (v := 9) hx hb dX12_init_101 (by decide) ?_
  refine k_newa_int hx hb hG gw178 hK hP hD hS hA 9 (by decide) (by decide) (Nat.le_of_ble_eq_true rfl) (Nat.le_of_ble_eq_true rfl) (Nat.le_of_ble_eq_true rfl) dX12_init_103 (fun a11 H hP hD hS => ?_)
  have hP : va_P D vwCl [(h0, .inr (15, [.ref a1, .ref a2, .ref a3, .ref a4, .ref a5, .ref a6, .ref a7, .ref a8, .ref a9, .ref a10, .null, .null, .null, .null, .null, .null, .null, .null, .long 0, .int 0, .int 0, .int 0, .int 0, .int 0, .int 0, .int 0, .int 0])), (a1, .inr (2, [.int 0, .ref g.1, .int 0])), (a2, .inr (2, [.int 0, .ref g.1, .int 0])), (a3, .inr (2, [.int 0, .ref g.1, .int 0])), (a4, .inr (2, [.int 0, .ref g.1, .int 0])), (a5, .inl (cA 1, 512, .inr (.inl (fun _ => 0)))), (a6, .inl (cA 1, 9, .inr (.inl (fun _ => 0)))), (a7, .inl (cA 1, 9, .inr (.inl (fun _ => 0)))), (a8, .inl (cA 3, 512, .inl (fun _ => 0))), (a9, .inl (cA 3, 512, .inl (fun _ => 0))), (a10, .inl (cA 0, 512, .inl (fun _ => 0))), (a11, .inl (cA 0, 9, .inl (fun _ => 0)))] H := hP
  have hD : va_D _ [(h0, .inr (15, [.ref a1, .ref a2, .ref a3, .ref a4, .ref a5, .ref a6, .ref a7, .ref a8, .ref a9, .ref a10, .null, .null, .null, .null, .null, .null, .null, .null, .long 0, .int 0, .int 0, .int 0, .int 0, .int 0, .int 0, .int 0, .int 0])), (a1, .inr (2, [.int 0, .ref g.1, .int 0])), (a2, .inr (2, [.int 0, .ref g.1, .int 0])), (a3, .inr (2, [.int 0, .ref g.1, .int 0])), (a4, .inr (2, [.int 0, .ref g.1, .int 0])), (a5, .inl (cA 1, 512, .inr (.inl (fun _ => 0)))), (a6, .inl (cA 1, 9, .inr (.inl (fun _ => 0)))), (a7, .inl (cA 1, 9, .inr (.inl (fun _ => 0)))), (a8, .inl (cA 3, 512, .inl (fun _ => 0))), (a9, .inl (cA 3, 512, .inl (fun _ => 0))), (a10, .inl (cA 0, 512, .inl (fun _ => 0))), (a11, .inl (cA 0, 9, .inl (fun _ => 0)))] := hD
  refine k_putF (ci := 15) (C := RX12) (T := TX12) (N := 27) (v := .ref a11) (ws1 := [(h0, .inr (15, [.ref a1, .ref a2, .ref a3, .ref a4, .ref a5, .ref a6, .ref a7, .ref a8, .ref a9, .ref a10, .ref a11, .null, .null, .null, .null, .null, .null, .null, .long 0, .int 0, .int 0, .int 0, .int 0, .int 0, .int 0, .int 0, .int 0])), (a1, .inr (2, [.int 0, .ref g.1, .int 0])), (a2, .inr (2, [.int 0, .ref g.1, .int 0])), (a3, .inr (2, [.int 0, .ref g.1, .int 0])), (a4, .inr (2, [.int 0, .ref g.1, .int 0])), (a5, .inl (cA 1, 512, .inr (.inl (fun _ => 0)))), (a6, .inl (cA 1, 9, .inr (.inl (fun _ => 0)))), (a7, .inl (cA 1, 9, .inr (.inl (fun _ => 0)))), (a8, .inl (cA 3, 512, .inl (fun _ => 0))), (a9, .inl (cA 3, 512, .inl (fun _ => 0))), (a10, .inl (cA 0, 512, .inl (fun _ => 0))), (a11, .inl (cA 0, 9, .inl (fun _ => 0)))]) hx hb hG inX12 tyX12 tyX12_ok nmX12 hown hK hP hD hS 0 rfl rfl 10 (by decide) gw1229 rfl hnm rfl ⟨rfl, rfl⟩ rfl (Nat.le_of_ble_eq_true rfl) dX12_init_105 (fun H locs hP hD hS => ?_)
  refine lv_aload_n hx hb dX12_init_108 rfl (lv_at hl 0 rfl) ?_
  refine lv_bipush (v := 9) hx hb dX12_init_109 (by decide) ?_
  refine k_newa_int hx hb hG gw178 hK hP hD hS hA 9 (by decide) (by decide) (Nat.le_of_ble_eq_true rfl) (Nat.le_of_ble_eq_true rfl) (Nat.le_of_ble_eq_true rfl) dX12_init_111 (fun a12 H hP hD hS => ?_)
  have hP : va_P D vwCl [(h0, .inr (15, [.ref a1, .ref a2, .ref a3, .ref a4, .ref a5, .ref a6, .ref a7, .ref a8, .ref a9, .ref a10, .ref a11, .null, .null, .null, .null, .null, .null, .null, .long 0, .int 0, .int 0, .int 0, .int 0, .int 0, .int 0, .int 0, .int 0])), (a1, .inr (2, [.int 0, .ref g.1, .int 0])), (a2, .inr (2, [.int 0, .ref g.1, .int 0])), (a3, .inr (2, [.int 0, .ref g.1, .int 0])), (a4, .inr (2, [.int 0, .ref g.1, .int 0])), (a5, .inl (cA 1, 512, .inr (.inl (fun _ => 0)))), (a6, .inl (cA 1, 9, .inr (.inl (fun _ => 0)))), (a7, .inl (cA 1, 9, .inr (.inl (fun _ => 0)))), (a8, .inl (cA 3, 512, .inl (fun _ => 0))), (a9, .inl (cA 3, 512, .inl (fun _ => 0))), (a10, .inl (cA 0, 512, .inl (fun _ => 0))), (a11, .inl (cA 0, 9, .inl (fun _ => 0))), (a12, .inl (cA 0, 9, .inl (fun _ => 0)))] H := hP
  have hD : va_D _ [(h0, .inr (15, [.ref a1, .ref a2, .ref a3, .ref a4, .ref a5, .ref a6, .ref a7, .ref a8, .ref a9, .ref a10, .ref a11, .null, .null, .null, .null, .null, .null, .null, .long 0, .int 0, .int 0, .int 0, .int 0, .int 0, .int 0, .int 0, .int 0])), (a1, .inr (2, [.int 0, .ref g.1, .int 0])), (a2, .inr (2, [.int 0, .ref g.1, .int 0])), (a3, .inr (2, [.int 0, .ref g.1, .int 0])), (a4, .inr (2, [.int 0, .ref g.1, .int 0])), (a5, .inl (cA 1, 512, .inr (.inl (fun _ => 0)))), (a6, .inl (cA 1, 9, .inr (.inl (fun _ => 0)))), (a7, .inl (cA 1, 9, .inr (.inl (fun _ => 0)))), (a8, .inl (cA 3, 512, .inl (fun _ => 0))), (a9, .inl (cA 3, 512, .inl (fun _ => 0))), (a10, .inl (cA 0, 512, .inl (fun _ => 0))), (a11, .inl (cA 0, 9, .inl (fun _ => 0))), (a12, .inl (cA 0, 9, .inl (fun _ => 0)))] := hD
  refine k_putF (ci := 15) (C := RX12) (T := TX12) (N := 27) (v := .ref a12) (ws1 := [(h0, .inr (15, [.ref a1, .ref a2, .ref a3, .ref a4, .ref a5, .ref a6, .ref a7, .ref a8, .ref a9, .ref a10, .ref a11, .ref a12, .null, .null, .null, .null, .null, .null, .long 0, .int 0, .int 0, .int 0, .int 0, .int 0, .int 0, .int 0, .int 0])), (a1, .inr (2, [.int 0, .ref g.1, .int 0])), (a2, .inr (2, [.int 0, .ref g.1, .int 0])), (a3, .inr (2, [.int 0, .ref g.1, .int 0])), (a4, .inr (2, [.int 0, .ref g.1, .int 0])), (a5, .inl (cA 1, 512, .inr (.inl (fun _ => 0)))), (a6, .inl (cA 1, 9, .inr (.inl (fun _ => 0)))), (a7, .inl (cA 1, 9, .inr (.inl (fun _ => 0)))), (a8, .inl (cA 3, 512, .inl (fun _ => 0))), (a9, .inl (cA 3, 512, .inl (fun _ => 0))), (a10, .inl (cA 0, 512, .inl (fun _ => 0))), (a11, .inl (cA 0, 9, .inl (fun _ => 0))), (a12, .inl (cA 0, 9, .inl (fun _ => 0)))]) hx hb hG inX12 tyX12 tyX12_ok nmX12 hown hK hP hD hS 0 rfl rfl 11 (by decide) gw1230 rfl hnm rfl ⟨rfl, rfl⟩ rfl (Nat.le_of_ble_eq_true rfl) dX12_init_113 (fun H locs hP hD hS => ?_)
  refine lv_aload_n hx hb dX12_init_116 rfl (lv_at hl 0 rfl) ?_
  refine lv_bipush (v := 9) hx hb dX12_init_117 (by decide) ?_
  refine k_newa_int hx hb hG gw178 hK hP hD hS hA 9 (by decide) (by decide) (Nat.le_of_ble_eq_true rfl) (Nat.le_of_ble_eq_true rfl) (Nat.le_of_ble_eq_true rfl) dX12_init_119 (fun a13 H hP hD hS => ?_)
  have hP : va_P D vwCl [(h0, .inr (15, [.ref a1, .ref a2, .ref a3, .ref a4, .ref a5, .ref a6, .ref a7, .ref a8, .ref a9, .ref a10, .ref a11, .ref a12, .null, .null, .null, .null, .null, .null, .long 0, .int 0, .int 0, .int 0, .int 0, .int 0, .int 0, .int 0, .int 0])), (a1, .inr (2, [.int 0, .ref g.1, .int 0])), (a2, .inr (2, [.int 0, .ref g.1, .int 0])), (a3, .inr (2, [.int 0, .ref g.1, .int 0])), (a4, .inr (2, [.int 0, .ref g.1, .int 0])), (a5, .inl (cA 1, 512, .inr (.inl (fun _ => 0)))), (a6, .inl (cA 1, 9, .inr (.inl (fun _ => 0)))), (a7, .inl (cA 1, 9, .inr (.inl (fun _ => 0)))), (a8, .inl (cA 3, 512, .inl (fun _ => 0))), (a9, .inl (cA 3, 512, .inl (fun _ => 0))), (a10, .inl (cA 0, 512, .inl (fun _ => 0))), (a11, .inl (cA 0, 9, .inl (fun _ => 0))), (a12, .inl (cA 0, 9, .inl (fun _ => 0))), (a13, .inl (cA 0, 9, .inl (fun _ => 0)))] H := hP
  have hD : va_D _ [(h0, .inr (15, [.ref a1, .ref a2, .ref a3, .ref a4, .ref a5, .ref a6, .ref a7, .ref a8, .ref a9, .ref a10, .ref a11, .ref a12, .null, .null, .null, .null, .null, .null, .long 0, .int 0, .int 0, .int 0, .int 0, .int 0, .int 0, .int 0, .int 0])), (a1, .inr (2, [.int 0, .ref g.1, .int 0])), (a2, .inr (2, [.int 0, .ref g.1, .int 0])), (a3, .inr (2, [.int 0, .ref g.1, .int 0])), (a4, .inr (2, [.int 0, .ref g.1, .int 0])), (a5, .inl (cA 1, 512, .inr (.inl (fun _ => 0)))), (a6, .inl (cA 1, 9, .inr (.inl (fun _ => 0)))), (a7, .inl (cA 1, 9, .inr (.inl (fun _ => 0)))), (a8, .inl (cA 3, 512, .inl (fun _ => 0))), (a9, .inl (cA 3, 512, .inl (fun _ => 0))), (a10, .inl (cA 0, 512, .inl (fun _ => 0))), (a11, .inl (cA 0, 9, .inl (fun _ => 0))), (a12, .inl (cA 0, 9, .inl (fun _ => 0))), (a13, .inl (cA 0, 9, .inl (fun _ => 0)))] := hD
  refine k_putF (ci := 15) (C := RX12) (T := TX12) (N := 27) (v := .ref a13) (ws1 := [(h0, .inr (15, [.ref a1, .ref a2, .ref a3, .ref a4, .ref a5, .ref a6, .ref a7, .ref a8, .ref a9, .ref a10, .ref a11, .ref a12, .ref a13, .null, .null, .null, .null, .null, .long 0, .int 0, .int 0, .int 0, .int 0, .int 0, .int 0, .int 0, .int 0])), (a1, .inr (2, [.int 0, .ref g.1, .int 0])), (a2, .inr (2, [.int 0, .ref g.1, .int 0])), (a3, .inr (2, [.int 0, .ref g.1, .int 0])), (a4, .inr (2, [.int 0, .ref g.1, .int 0])), (a5, .inl (cA 1, 512, .inr (.inl (fun _ => 0)))), (a6, .inl (cA 1, 9, .inr (.inl (fun _ => 0)))), (a7, .inl (cA 1, 9, .inr (.inl (fun _ => 0)))), (a8, .inl (cA 3, 512, .inl (fun _ => 0))), (a9, .inl (cA 3, 512, .inl (fun _ => 0))), (a10, .inl (cA 0, 512, .inl (fun _ => 0))), (a11, .inl (cA 0, 9, .inl (fun _ => 0))), (a12, .inl (cA 0, 9, .inl (fun _ => 0))), (a13, .inl (cA 0, 9, .inl (fun _ => 0)))]) hx hb hG inX12 tyX12 tyX12_ok nmX12 hown hK hP hD hS 0 rfl rfl 12 (by decide) gw1231 rfl hnm rfl ⟨rfl, rfl⟩ rfl (Nat.le_of_ble_eq_true rfl) dX12_init_121 (fun H locs hP hD hS => ?_)
  refine lv_aload_n hx hb dX12_init_124 rfl (lv_at hl 0 rfl) ?_
  refine lv_iconst (v := 5) hx hb dX12_init_125 (by decide) ?_
  refine k_newa_int hx hb hG gw178 hK hP hD hS hA 5 (by decide) (by decide) (Nat.le_of_ble_eq_true rfl) (Nat.le_of_ble_eq_true rfl) (Nat.le_of_ble_eq_true rfl) dX12_init_126 (fun a14 H hP hD hS => ?_)
  have hP : va_P D vwCl [(h0, .inr (15, [.ref a1, .ref a2, .ref a3, .ref a4, .ref a5, .ref a6, .ref a7, .ref a8, .ref a9, .ref a10, .ref a11, .ref a12, .ref a13, .null, .null, .null, .null, .null, .long 0, .int 0, .int 0, .int 0, .int 0, .int 0, .int 0, .int 0, .int 0])), (a1, .inr (2, [.int 0, .ref g.1, .int 0])), (a2, .inr (2, [.int 0, .ref g.1, .int 0])), (a3, .inr (2, [.int 0, .ref g.1, .int 0])), (a4, .inr (2, [.int 0, .ref g.1, .int 0])), (a5, .inl (cA 1, 512, .inr (.inl (fun _ => 0)))), (a6, .inl (cA 1, 9, .inr (.inl (fun _ => 0)))), (a7, .inl (cA 1, 9, .inr (.inl (fun _ => 0)))), (a8, .inl (cA 3, 512, .inl (fun _ => 0))), (a9, .inl (cA 3, 512, .inl (fun _ => 0))), (a10, .inl (cA 0, 512, .inl (fun _ => 0))), (a11, .inl (cA 0, 9, .inl (fun _ => 0))), (a12, .inl (cA 0, 9, .inl (fun _ => 0))), (a13, .inl (cA 0, 9, .inl (fun _ => 0))), (a14, .inl (cA 0, 5, .inl (fun _ => 0)))] H := hP
  have hD : va_D _ [(h0, .inr (15, [.ref a1, .ref a2, .ref a3, .ref a4, .ref a5, .ref a6, .ref a7, .ref a8, .ref a9, .ref a10, .ref a11, .ref a12, .ref a13, .null, .null, .null, .null, .null, .long 0, .int 0, .int 0, .int 0, .int 0, .int 0, .int 0, .int 0, .int 0])), (a1, .inr (2, [.int 0, .ref g.1, .int 0])), (a2, .inr (2, [.int 0, .ref g.1, .int 0])), (a3, .inr (2, [.int 0, .ref g.1, .int 0])), (a4, .inr (2, [.int 0, .ref g.1, .int 0])), (a5, .inl (cA 1, 512, .inr (.inl (fun _ => 0)))), (a6, .inl (cA 1, 9, .inr (.inl (fun _ => 0)))), (a7, .inl (cA 1, 9, .inr (.inl (fun _ => 0)))), (a8, .inl (cA 3, 512, .inl (fun _ => 0))), (a9, .inl (cA 3, 512, .inl (fun _ => 0))), (a10, .inl (cA 0, 512, .inl (fun _ => 0))), (a11, .inl (cA 0, 9, .inl (fun _ => 0))), (a12, .inl (cA 0, 9, .inl (fun _ => 0))), (a13, .inl (cA 0, 9, .inl (fun _ => 0))), (a14, .inl (cA 0, 5, .inl (fun _ => 0)))] := hD
  refine k_putF (ci := 15) (C := RX12) (T := TX12) (N := 27) (v := .ref a14) (ws1 := [(h0, .inr (15, [.ref a1, .ref a2, .ref a3, .ref a4, .ref a5, .ref a6, .ref a7, .ref a8, .ref a9, .ref a10, .ref a11, .ref a12, .ref a13, .ref a14, .null, .null, .null, .null, .long 0, .int 0, .int 0, .int 0, .int 0, .int 0, .int 0, .int 0, .int 0])), (a1, .inr (2, [.int 0, .ref g.1, .int 0])), (a2, .inr (2, [.int 0, .ref g.1, .int 0])), (a3, .inr (2, [.int 0, .ref g.1, .int 0])), (a4, .inr (2, [.int 0, .ref g.1, .int 0])), (a5, .inl (cA 1, 512, .inr (.inl (fun _ => 0)))), (a6, .inl (cA 1, 9, .inr (.inl (fun _ => 0)))), (a7, .inl (cA 1, 9, .inr (.inl (fun _ => 0)))), (a8, .inl (cA 3, 512, .inl (fun _ => 0))), (a9, .inl (cA 3, 512, .inl (fun _ => 0))), (a10, .inl (cA 0, 512, .inl (fun _ => 0))), (a11, .inl (cA 0, 9, .inl (fun _ => 0))), (a12, .inl (cA 0, 9, .inl (fun _ => 0))), (a13, .inl (cA 0, 9, .inl (fun _ => 0))), (a14, .inl (cA 0, 5, .inl (fun _ => 0)))]) hx hb hG inX12 tyX12 tyX12_ok nmX12 hown hK hP hD hS 0 rfl rfl 13 (by decide) gw1232 rfl hnm rfl ⟨rfl, rfl⟩ rfl (Nat.le_of_ble_eq_true rfl) dX12_init_128 (fun H locs hP hD hS => ?_)
  refine lv_aload_n hx hb dX12_init_131 rfl (lv_at hl 0 rfl) ?_
  refine lv_bipush (v := 9) hx hb dX12_init_132 (by decide) ?_
  refine k_newa_int hx hb hG gw178 hK hP hD hS hA 9 (by decide) (by decide) (Nat.le_of_ble_eq_true rfl) (Nat.le_of_ble_eq_true rfl) (Nat.le_of_ble_eq_true rfl) dX12_init_134 (fun a15 H hP hD hS => ?_)
  have hP : va_P D vwCl [(h0, .inr (15, [.ref a1, .ref a2, .ref a3, .ref a4, .ref a5, .ref a6, .ref a7, .ref a8, .ref a9, .ref a10, .ref a11, .ref a12, .ref a13, .ref a14, .null, .null, .null, .null, .long 0, .int 0, .int 0, .int 0, .int 0, .int 0, .int 0, .int 0, .int 0])), (a1, .inr (2, [.int 0, .ref g.1, .int 0])), (a2, .inr (2, [.int 0, .ref g.1, .int 0])), (a3, .inr (2, [.int 0, .ref g.1, .int 0])), (a4, .inr (2, [.int 0, .ref g.1, .int 0])), (a5, .inl (cA 1, 512, .inr (.inl (fun _ => 0)))), (a6, .inl (cA 1, 9, .inr (.inl (fun _ => 0)))), (a7, .inl (cA 1, 9, .inr (.inl (fun _ => 0)))), (a8, .inl (cA 3, 512, .inl (fun _ => 0))), (a9, .inl (cA 3, 512, .inl (fun _ => 0))), (a10, .inl (cA 0, 512, .inl (fun _ => 0))), (a11, .inl (cA 0, 9, .inl (fun _ => 0))), (a12, .inl (cA 0, 9, .inl (fun _ => 0))), (a13, .inl (cA 0, 9, .inl (fun _ => 0))), (a14, .inl (cA 0, 5, .inl (fun _ => 0))), (a15, .inl (cA 0, 9, .inl (fun _ => 0)))] H := hP
  have hD : va_D _ [(h0, .inr (15, [.ref a1, .ref a2, .ref a3, .ref a4, .ref a5, .ref a6, .ref a7, .ref a8, .ref a9, .ref a10, .ref a11, .ref a12, .ref a13, .ref a14, .null, .null, .null, .null, .long 0, .int 0, .int 0, .int 0, .int 0, .int 0, .int 0, .int 0, .int 0])), (a1, .inr (2, [.int 0, .ref g.1, .int 0])), (a2, .inr (2, [.int 0, .ref g.1, .int 0])), (a3, .inr (2, [.int 0, .ref g.1, .int 0])), (a4, .inr (2, [.int 0, .ref g.1, .int 0])), (a5, .inl (cA 1, 512, .inr (.inl (fun _ => 0)))), (a6, .inl (cA 1, 9, .inr (.inl (fun _ => 0)))), (a7, .inl (cA 1, 9, .inr (.inl (fun _ => 0)))), (a8, .inl (cA 3, 512, .inl (fun _ => 0))), (a9, .inl (cA 3, 512, .inl (fun _ => 0))), (a10, .inl (cA 0, 512, .inl (fun _ => 0))), (a11, .inl (cA 0, 9, .inl (fun _ => 0))), (a12, .inl (cA 0, 9, .inl (fun _ => 0))), (a13, .inl (cA 0, 9, .inl (fun _ => 0))), (a14, .inl (cA 0, 5, .inl (fun _ => 0))), (a15, .inl (cA 0, 9, .inl (fun _ => 0)))] := hD
  refine k_putF (ci := 15) (C := RX12) (T := TX12) (N := 27) (v := .ref a15) (ws1 := [(h0, .inr (15, [.ref a1, .ref a2, .ref a3, .ref a4, .ref a5, .ref a6, .ref a7, .ref a8, .ref a9, .ref a10, .ref a11, .ref a12, .ref a13, .ref a14, .ref a15, .null, .null, .null, .long 0, .int 0, .int 0, .int 0, .int 0, .int 0, .int 0, .int 0, .int 0])), (a1, .inr (2, [.int 0, .ref g.1, .int 0])), (a2, .inr (2, [.int 0, .ref g.1, .int 0])), (a3, .inr (2, [.int 0, .ref g.1, .int 0])), (a4, .inr (2, [.int 0, .ref g.1, .int 0])), (a5, .inl (cA 1, 512, .inr (.inl (fun _ => 0)))), (a6, .inl (cA 1, 9, .inr (.inl (fun _ => 0)))), (a7, .inl (cA 1, 9, .inr (.inl (fun _ => 0)))), (a8, .inl (cA 3, 512, .inl (fun _ => 0))), (a9, .inl (cA 3, 512, .inl (fun _ => 0))), (a10, .inl (cA 0, 512, .inl (fun _ => 0))), (a11, .inl (cA 0, 9, .inl (fun _ => 0))), (a12, .inl (cA 0, 9, .inl (fun _ => 0))), (a13, .inl (cA 0, 9, .inl (fun _ => 0))), (a14, .inl (cA 0, 5, .inl (fun _ => 0))), (a15, .inl (cA 0, 9, .inl (fun _ => 0)))]) hx hb hG inX12 tyX12 tyX12_ok nmX12 hown hK hP hD hS 0 rfl rfl 14 (by decide) gw1233 rfl hnm rfl ⟨rfl, rfl⟩ rfl (Nat.le_of_ble_eq_true rfl) dX12_init_136 (fun H locs hP hD hS => ?_)
  refine lv_aload_n hx hb dX12_init_139 rfl (lv_at hl 0 rfl) ?_
  refine lv_sipush (v := 512) hx hb dX12_init_140 (by decide) ?_
  refine k_newa_int hx hb hG gw178 hK hP hD hS hA 512 (by decide) (by decide) (Nat.le_of_ble_eq_true rfl) (Nat.le_of_ble_eq_true rfl) (Nat.le_of_ble_eq_true rfl) dX12_init_143 (fun a16 H hP hD hS => ?_)
  have hP : va_P D vwCl [(h0, .inr (15, [.ref a1, .ref a2, .ref a3, .ref a4, .ref a5, .ref a6, .ref a7, .ref a8, .ref a9, .ref a10, .ref a11, .ref a12, .ref a13, .ref a14, .ref a15, .null, .null, .null, .long 0, .int 0, .int 0, .int 0, .int 0, .int 0, .int 0, .int 0, .int 0])), (a1, .inr (2, [.int 0, .ref g.1, .int 0])), (a2, .inr (2, [.int 0, .ref g.1, .int 0])), (a3, .inr (2, [.int 0, .ref g.1, .int 0])), (a4, .inr (2, [.int 0, .ref g.1, .int 0])), (a5, .inl (cA 1, 512, .inr (.inl (fun _ => 0)))), (a6, .inl (cA 1, 9, .inr (.inl (fun _ => 0)))), (a7, .inl (cA 1, 9, .inr (.inl (fun _ => 0)))), (a8, .inl (cA 3, 512, .inl (fun _ => 0))), (a9, .inl (cA 3, 512, .inl (fun _ => 0))), (a10, .inl (cA 0, 512, .inl (fun _ => 0))), (a11, .inl (cA 0, 9, .inl (fun _ => 0))), (a12, .inl (cA 0, 9, .inl (fun _ => 0))), (a13, .inl (cA 0, 9, .inl (fun _ => 0))), (a14, .inl (cA 0, 5, .inl (fun _ => 0))), (a15, .inl (cA 0, 9, .inl (fun _ => 0))), (a16, .inl (cA 0, 512, .inl (fun _ => 0)))] H := hP
  have hD : va_D _ [(h0, .inr (15, [.ref a1, .ref a2, .ref a3, .ref a4, .ref a5, .ref a6, .ref a7, .ref a8, .ref a9, .ref a10, .ref a11, .ref a12, .ref a13, .ref a14, .ref a15, .null, .null, .null, .long 0, .int 0, .int 0, .int 0, .int 0, .int 0, .int 0, .int 0, .int 0])), (a1, .inr (2, [.int 0, .ref g.1, .int 0])), (a2, .inr (2, [.int 0, .ref g.1, .int 0])), (a3, .inr (2, [.int 0, .ref g.1, .int 0])), (a4, .inr (2, [.int 0, .ref g.1, .int 0])), (a5, .inl (cA 1, 512, .inr (.inl (fun _ => 0)))), (a6, .inl (cA 1, 9, .inr (.inl (fun _ => 0)))), (a7, .inl (cA 1, 9, .inr (.inl (fun _ => 0)))), (a8, .inl (cA 3, 512, .inl (fun _ => 0))), (a9, .inl (cA 3, 512, .inl (fun _ => 0))), (a10, .inl (cA 0, 512, .inl (fun _ => 0))), (a11, .inl (cA 0, 9, .inl (fun _ => 0))), (a12, .inl (cA 0, 9, .inl (fun _ => 0))), (a13, .inl (cA 0, 9, .inl (fun _ => 0))), (a14, .inl (cA 0, 5, .inl (fun _ => 0))), (a15, .inl (cA 0, 9, .inl (fun _ => 0))), (a16, .inl (cA 0, 512, .inl (fun _ => 0)))] := hD
  refine k_putF (ci := 15) (C := RX12) (T := TX12) (N := 27) (v := .ref a16) (ws1 := [(h0, .inr (15, [.ref a1, .ref a2, .ref a3, .ref a4, .ref a5, .ref a6, .ref a7, .ref a8, .ref a9, .ref a10, .ref a11, .ref a12, .ref a13, .ref a14, .ref a15, .ref a16, .null, .null, .long 0, .int 0, .int 0, .int 0, .int 0, .int 0, .int 0, .int 0, .int 0])), (a1, .inr (2, [.int 0, .ref g.1, .int 0])), (a2, .inr (2, [.int 0, .ref g.1, .int 0])), (a3, .inr (2, [.int 0, .ref g.1, .int 0])), (a4, .inr (2, [.int 0, .ref g.1, .int 0])), (a5, .inl (cA 1, 512, .inr (.inl (fun _ => 0)))), (a6, .inl (cA 1, 9, .inr (.inl (fun _ => 0)))), (a7, .inl (cA 1, 9, .inr (.inl (fun _ => 0)))), (a8, .inl (cA 3, 512, .inl (fun _ => 0))), (a9, .inl (cA 3, 512, .inl (fun _ => 0))), (a10, .inl (cA 0, 512, .inl (fun _ => 0))), (a11, .inl (cA 0, 9, .inl (fun _ => 0))), (a12, .inl (cA 0, 9, .inl (fun _ => 0))), (a13, .inl (cA 0, 9, .inl (fun _ => 0))), (a14, .inl (cA 0, 5, .inl (fun _ => 0))), (a15, .inl (cA 0, 9, .inl (fun _ => 0))), (a16, .inl (cA 0, 512, .inl (fun _ => 0)))]) hx hb hG inX12 tyX12 tyX12_ok nmX12 hown hK hP hD hS 0 rfl rfl 15 (by decide) gw1234 rfl hnm rfl ⟨rfl, rfl⟩ rfl (Nat.le_of_ble_eq_true rfl) dX12_init_145 (fun H locs hP hD hS => ?_)
  refine lv_aload_n hx hb dX12_init_148 rfl (lv_at hl 0 rfl) ?_
  refine lv_sipush (v := 512) hx hb dX12_init_149 (by decide) ?_
  refine k_newa_int hx hb hG gw178 hK hP hD hS hA 512 (by decide) (by decide) (Nat.le_of_ble_eq_true rfl) (Nat.le_of_ble_eq_true rfl) (Nat.le_of_ble_eq_true rfl) dX12_init_152 (fun a17 H hP hD hS => ?_)
  have hP : va_P D vwCl [(h0, .inr (15, [.ref a1, .ref a2, .ref a3, .ref a4, .ref a5, .ref a6, .ref a7, .ref a8, .ref a9, .ref a10, .ref a11, .ref a12, .ref a13, .ref a14, .ref a15, .ref a16, .null, .null, .long 0, .int 0, .int 0, .int 0, .int 0, .int 0, .int 0, .int 0, .int 0])), (a1, .inr (2, [.int 0, .ref g.1, .int 0])), (a2, .inr (2, [.int 0, .ref g.1, .int 0])), (a3, .inr (2, [.int 0, .ref g.1, .int 0])), (a4, .inr (2, [.int 0, .ref g.1, .int 0])), (a5, .inl (cA 1, 512, .inr (.inl (fun _ => 0)))), (a6, .inl (cA 1, 9, .inr (.inl (fun _ => 0)))), (a7, .inl (cA 1, 9, .inr (.inl (fun _ => 0)))), (a8, .inl (cA 3, 512, .inl (fun _ => 0))), (a9, .inl (cA 3, 512, .inl (fun _ => 0))), (a10, .inl (cA 0, 512, .inl (fun _ => 0))), (a11, .inl (cA 0, 9, .inl (fun _ => 0))), (a12, .inl (cA 0, 9, .inl (fun _ => 0))), (a13, .inl (cA 0, 9, .inl (fun _ => 0))), (a14, .inl (cA 0, 5, .inl (fun _ => 0))), (a15, .inl (cA 0, 9, .inl (fun _ => 0))), (a16, .inl (cA 0, 512, .inl (fun _ => 0))), (a17, .inl (cA 0, 512, .inl (fun _ => 0)))] H := hP
  have hD : va_D _ [(h0, .inr (15, [.ref a1, .ref a2, .ref a3, .ref a4, .ref a5, .ref a6, .ref a7, .ref a8, .ref a9, .ref a10, .ref a11, .ref a12, .ref a13, .ref a14, .ref a15, .ref a16, .null, .null, .long 0, .int 0, .int 0, .int 0, .int 0, .int 0, .int 0, .int 0, .int 0])), (a1, .inr (2, [.int 0, .ref g.1, .int 0])), (a2, .inr (2, [.int 0, .ref g.1, .int 0])), (a3, .inr (2, [.int 0, .ref g.1, .int 0])), (a4, .inr (2, [.int 0, .ref g.1, .int 0])), (a5, .inl (cA 1, 512, .inr (.inl (fun _ => 0)))), (a6, .inl (cA 1, 9, .inr (.inl (fun _ => 0)))), (a7, .inl (cA 1, 9, .inr (.inl (fun _ => 0)))), (a8, .inl (cA 3, 512, .inl (fun _ => 0))), (a9, .inl (cA 3, 512, .inl (fun _ => 0))), (a10, .inl (cA 0, 512, .inl (fun _ => 0))), (a11, .inl (cA 0, 9, .inl (fun _ => 0))), (a12, .inl (cA 0, 9, .inl (fun _ => 0))), (a13, .inl (cA 0, 9, .inl (fun _ => 0))), (a14, .inl (cA 0, 5, .inl (fun _ => 0))), (a15, .inl (cA 0, 9, .inl (fun _ => 0))), (a16, .inl (cA 0, 512, .inl (fun _ => 0))), (a17, .inl (cA 0, 512, .inl (fun _ => 0)))] := hD
  refine k_putF (ci := 15) (C := RX12) (T := TX12) (N := 27) (v := .ref a17) (ws1 := [(h0, .inr (15, [.ref a1, .ref a2, .ref a3, .ref a4, .ref a5, .ref a6, .ref a7, .ref a8, .ref a9, .ref a10, .ref a11, .ref a12, .ref a13, .ref a14, .ref a15, .ref a16, .ref a17, .null, .long 0, .int 0, .int 0, .int 0, .int 0, .int 0, .int 0, .int 0, .int 0])), (a1, .inr (2, [.int 0, .ref g.1, .int 0])), (a2, .inr (2, [.int 0, .ref g.1, .int 0])), (a3, .inr (2, [.int 0, .ref g.1, .int 0])), (a4, .inr (2, [.int 0, .ref g.1, .int 0])), (a5, .inl (cA 1, 512, .inr (.inl (fun _ => 0)))), (a6, .inl (cA 1, 9, .inr (.inl (fun _ => 0)))), (a7, .inl (cA 1, 9, .inr (.inl (fun _ => 0)))), (a8, .inl (cA 3, 512, .inl (fun _ => 0))), (a9, .inl (cA 3, 512, .inl (fun _ => 0))), (a10, .inl (cA 0, 512, .inl (fun _ => 0))), (a11, .inl (cA 0, 9, .inl (fun _ => 0))), (a12, .inl (cA 0, 9, .inl (fun _ => 0))), (a13, .inl (cA 0, 9, .inl (fun _ => 0))), (a14, .inl (cA 0, 5, .inl (fun _ => 0))), (a15, .inl (cA 0, 9, .inl (fun _ => 0))), (a16, .inl (cA 0, 512, .inl (fun _ => 0))), (a17, .inl (cA 0, 512, .inl (fun _ => 0)))]) hx hb hG inX12 tyX12 tyX12_ok nmX12 hown hK hP hD hS 0 rfl rfl 16 (by decide) gw1235 rfl hnm rfl ⟨rfl, rfl⟩ rfl (Nat.le_of_ble_eq_true rfl) dX12_init_154 (fun H locs hP hD hS => ?_)
  refine lv_aload_n hx hb dX12_init_157 rfl (lv_at hl 0 rfl) ?_
  refine lv_sipush (v := 512) hx hb dX12_init_158 (by decide) ?_
  refine k_newa_int hx hb hG gw178 hK hP hD hS hA 512 (by decide) (by decide) (Nat.le_of_ble_eq_true rfl) (Nat.le_of_ble_eq_true rfl) (Nat.le_of_ble_eq_true rfl) dX12_init_161 (fun a18 H hP hD hS => ?_)
  have hP : va_P D vwCl [(h0, .inr (15, [.ref a1, .ref a2, .ref a3, .ref a4, .ref a5, .ref a6, .ref a7, .ref a8, .ref a9, .ref a10, .ref a11, .ref a12, .ref a13, .ref a14, .ref a15, .ref a16, .ref a17, .null, .long 0, .int 0, .int 0, .int 0, .int 0, .int 0, .int 0, .int 0, .int 0])), (a1, .inr (2, [.int 0, .ref g.1, .int 0])), (a2, .inr (2, [.int 0, .ref g.1, .int 0])), (a3, .inr (2, [.int 0, .ref g.1, .int 0])), (a4, .inr (2, [.int 0, .ref g.1, .int 0])), (a5, .inl (cA 1, 512, .inr (.inl (fun _ => 0)))), (a6, .inl (cA 1, 9, .inr (.inl (fun _ => 0)))), (a7, .inl (cA 1, 9, .inr (.inl (fun _ => 0)))), (a8, .inl (cA 3, 512, .inl (fun _ => 0))), (a9, .inl (cA 3, 512, .inl (fun _ => 0))), (a10, .inl (cA 0, 512, .inl (fun _ => 0))), (a11, .inl (cA 0, 9, .inl (fun _ => 0))), (a12, .inl (cA 0, 9, .inl (fun _ => 0))), (a13, .inl (cA 0, 9, .inl (fun _ => 0))), (a14, .inl (cA 0, 5, .inl (fun _ => 0))), (a15, .inl (cA 0, 9, .inl (fun _ => 0))), (a16, .inl (cA 0, 512, .inl (fun _ => 0))), (a17, .inl (cA 0, 512, .inl (fun _ => 0))), (a18, .inl (cA 0, 512, .inl (fun _ => 0)))] H := hP
  have hD : va_D _ [(h0, .inr (15, [.ref a1, .ref a2, .ref a3, .ref a4, .ref a5, .ref a6, .ref a7, .ref a8, .ref a9, .ref a10, .ref a11, .ref a12, .ref a13, .ref a14, .ref a15, .ref a16, .ref a17, .null, .long 0, .int 0, .int 0, .int 0, .int 0, .int 0, .int 0, .int 0, .int 0])), (a1, .inr (2, [.int 0, .ref g.1, .int 0])), (a2, .inr (2, [.int 0, .ref g.1, .int 0])), (a3, .inr (2, [.int 0, .ref g.1, .int 0])), (a4, .inr (2, [.int 0, .ref g.1, .int 0])), (a5, .inl (cA 1, 512, .inr (.inl (fun _ => 0)))), (a6, .inl (cA 1, 9, .inr (.inl (fun _ => 0)))), (a7, .inl (cA 1, 9, .inr (.inl (fun _ => 0)))), (a8, .inl (cA 3, 512, .inl (fun _ => 0))), (a9, .inl (cA 3, 512, .inl (fun _ => 0))), (a10, .inl (cA 0, 512, .inl (fun _ => 0))), (a11, .inl (cA 0, 9, .inl (fun _ => 0))), (a12, .inl (cA 0, 9, .inl (fun _ => 0))), (a13, .inl (cA 0, 9, .inl (fun _ => 0))), (a14, .inl (cA 0, 5, .inl (fun _ => 0))), (a15, .inl (cA 0, 9, .inl (fun _ => 0))), (a16, .inl (cA 0, 512, .inl (fun _ => 0))), (a17, .inl (cA 0, 512, .inl (fun _ => 0))), (a18, .inl (cA 0, 512, .inl (fun _ => 0)))] := hD
  refine k_putF (ci := 15) (C := RX12) (T := TX12) (N := 27) (v := .ref a18) (ws1 := [(h0, .inr (15, [.ref a1, .ref a2, .ref a3, .ref a4, .ref a5, .ref a6, .ref a7, .ref a8, .ref a9, .ref a10, .ref a11, .ref a12, .ref a13, .ref a14, .ref a15, .ref a16, .ref a17, .ref a18, .long 0, .int 0, .int 0, .int 0, .int 0, .int 0, .int 0, .int 0, .int 0])), (a1, .inr (2, [.int 0, .ref g.1, .int 0])), (a2, .inr (2, [.int 0, .ref g.1, .int 0])), (a3, .inr (2, [.int 0, .ref g.1, .int 0])), (a4, .inr (2, [.int 0, .ref g.1, .int 0])), (a5, .inl (cA 1, 512, .inr (.inl (fun _ => 0)))), (a6, .inl (cA 1, 9, .inr (.inl (fun _ => 0)))), (a7, .inl (cA 1, 9, .inr (.inl (fun _ => 0)))), (a8, .inl (cA 3, 512, .inl (fun _ => 0))), (a9, .inl (cA 3, 512, .inl (fun _ => 0))), (a10, .inl (cA 0, 512, .inl (fun _ => 0))), (a11, .inl (cA 0, 9, .inl (fun _ => 0))), (a12, .inl (cA 0, 9, .inl (fun _ => 0))), (a13, .inl (cA 0, 9, .inl (fun _ => 0))), (a14, .inl (cA 0, 5, .inl (fun _ => 0))), (a15, .inl (cA 0, 9, .inl (fun _ => 0))), (a16, .inl (cA 0, 512, .inl (fun _ => 0))), (a17, .inl (cA 0, 512, .inl (fun _ => 0))), (a18, .inl (cA 0, 512, .inl (fun _ => 0)))]) hx hb hG inX12 tyX12 tyX12_ok nmX12 hown hK hP hD hS 0 rfl rfl 17 (by decide) gw1236 rfl hnm rfl ⟨rfl, rfl⟩ rfl (Nat.le_of_ble_eq_true rfl) dX12_init_163 (fun H locs hP hD hS => ?_)
  refine lv_aload_n hx hb dX12_init_166 rfl (lv_at hl 0 rfl) ?_
  refine lv_iconst (v := 2) hx hb dX12_init_167 (by decide) ?_
  refine k_put (ci := 15) (C := RX12) (T := TX12) (N := 27) (v := .int 2) (ws1 := [(h0, .inr (15, [.ref a1, .ref a2, .ref a3, .ref a4, .ref a5, .ref a6, .ref a7, .ref a8, .ref a9, .ref a10, .ref a11, .ref a12, .ref a13, .ref a14, .ref a15, .ref a16, .ref a17, .ref a18, .long 0, .int 0, .int 2, .int 0, .int 0, .int 0, .int 0, .int 0, .int 0])), (a1, .inr (2, [.int 0, .ref g.1, .int 0])), (a2, .inr (2, [.int 0, .ref g.1, .int 0])), (a3, .inr (2, [.int 0, .ref g.1, .int 0])), (a4, .inr (2, [.int 0, .ref g.1, .int 0])), (a5, .inl (cA 1, 512, .inr (.inl (fun _ => 0)))), (a6, .inl (cA 1, 9, .inr (.inl (fun _ => 0)))), (a7, .inl (cA 1, 9, .inr (.inl (fun _ => 0)))), (a8, .inl (cA 3, 512, .inl (fun _ => 0))), (a9, .inl (cA 3, 512, .inl (fun _ => 0))), (a10, .inl (cA 0, 512, .inl (fun _ => 0))), (a11, .inl (cA 0, 9, .inl (fun _ => 0))), (a12, .inl (cA 0, 9, .inl (fun _ => 0))), (a13, .inl (cA 0, 9, .inl (fun _ => 0))), (a14, .inl (cA 0, 5, .inl (fun _ => 0))), (a15, .inl (cA 0, 9, .inl (fun _ => 0))), (a16, .inl (cA 0, 512, .inl (fun _ => 0))), (a17, .inl (cA 0, 512, .inl (fun _ => 0))), (a18, .inl (cA 0, 512, .inl (fun _ => 0)))]) hx hb hG inX12 tyX12 tyX12_ok nmX12 hown hK hP hD hS 0 rfl rfl 20 (by decide) gw1239 rfl ⟨rfl, rfl⟩ rfl (Nat.le_of_ble_eq_true rfl) dX12_init_168 (fun H locs hP hD hS => ?_)
  exact e_v (fun i => match i with | 0 => a1 | 1 => a2 | 2 => a3 | 3 => a4 | 4 => a5 | 5 => a6 | 6 => a7 | 7 => a8 | 8 => a9 | 9 => a10 | 10 => a11 | 11 => a12 | 12 => a13 | 13 => a14 | 14 => a15 | 15 => a16 | 16 => a17 | 17 => a18 | _ => 0) hx hb hr hlocks rfl hP hD hS (Nat.le_of_ble_eq_true rfl) (Nat.le_of_ble_eq_true rfl) dX12_init_171
end
